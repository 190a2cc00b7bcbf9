/-! small trees: a tree of few levels and few moves over each span that has one -/
def gd_e : Nat → Nat
  | 0 => 0
  | c + 1 => 4 * gd_e c + 1
def gd_S (G : gr_T) (X : tx_T) (i j : Nat) : Nat → Nat → Prop
  | 0 => fun _ => False
  | c + 1 => fun s => gd_S G X i j c s ∨ ∃ r, gr_U G r ∧ gr_l G r = s ∧ dv_prd (gr_h G r) (fun s' a b => i ≤ a ∧ b ≤ j ∧ ((s' < 3 ∧ dv_D G X s' a b) ∨ (b - a < j - i ∧ dv_D G X s' a b) ∨ (a = i ∧ b = j ∧ gd_S G X i j c s'))) (gr_c G r) i j
theorem gd_mono {G : gr_T} {X : tx_T} {i j c s : Nat} (k : Nat) (h : gd_S G X i j c s) : gd_S G X i j (c + k) s := by
  induction k with
  | zero => exact h
  | succ k ih => exact Or.inl ih
theorem gd_rng {G : gr_T} {X : tx_T} (hG : gr_ok G) {i j : Nat} : ∀ c s, gd_S G X i j c s → 3 ≤ s ∧ s < 7 := by
  intro c
  induction c with
  | zero => intro s h; exact h.elim
  | succ c ih =>
    intro s h
    rcases h with h | ⟨r, hU, rfl, _⟩
    · exact ih s h
    · exact (hG.1 r hU).2
theorem gd_4 {G : gr_T} {X : tx_T} (hG : gr_ok G) {i j c s : Nat} (h : gd_S G X i j c s) : gd_S G X i j 4 s := by
  have hs := gd_rng hG c s h
  have key := cn_chain (fun c x => gd_S G X i j c (x + 3)) 4 (fun d x h => Or.inl h) (fun d h x hx => by
      rcases hx with hx | ⟨r, hU, hl, z⟩
      · exact hx
      · refine Or.inr ⟨r, hU, hl, dv_prd_mono (fun s' a b z => ?_) _ _ _ z⟩
        rcases z with ⟨z1, z2, z | z | ⟨z3, z4, z⟩⟩
        · exact ⟨z1, z2, Or.inl z⟩
        · exact ⟨z1, z2, Or.inr (Or.inl z)⟩
        · have h7 := gd_rng hG _ _ z
          have h8 := h (s' - 3)
          rw [show s' - 3 + 3 = s' by omega] at h8
          exact ⟨z1, z2, Or.inr (Or.inr ⟨z3, z4, h8 z⟩)⟩) (fun d x hx => by
      have := gd_rng hG _ _ hx
      omega) c (s - 3)
  rw [show s - 3 + 3 = s by omega] at key
  exact key h
/-- children of a chain lie within it -/
theorem gd_in {h : Nat → Nat} {Q : Nat → Nat → Nat → Prop} (hq : ∀ s i j, Q s i j → i ≤ j) {i : Nat} : ∀ k j, dv_prd h Q k i j → i ≤ j ∧ ∀ J, j ≤ J → dv_prd h (fun s a b => i ≤ a ∧ b ≤ J ∧ Q s a b) k i j := by
  intro k
  induction k with
  | zero => intro j z; have z : i = j := z; subst z; exact ⟨Nat.le_refl _, fun J _ => rfl⟩
  | succ k ih =>
    intro j z
    obtain ⟨m, a, b⟩ := z
    have hm := hq _ _ _ b
    obtain ⟨c, e⟩ := ih m a
    exact ⟨by omega, fun J hJ => ⟨m, e J (by omega), c, hJ, b⟩⟩
theorem gd_of {V : Type} {G : gr_T} {X : tx_T} {A : al_T V} (hG : gr_ok G) : ∀ d s i j v, 3 ≤ s → dv_tr G X A d s i j v → ∃ c, gd_S G X i j c s := by
  intro d
  induction d with
  | zero => intro s i j v h z; have := z.1; omega
  | succ d ih =>
    intro s i j v hs z
    rcases z with z | ⟨r, vs, hU, hl, z, _⟩
    · exact ih s i j v hs z
    · have z1 := dv_pre_d (Q := fun s i j => ∃ v, dv_tr G X A d s i j v) (fun s i j v z => ⟨v, z⟩) _ _ _ _ z
      obtain ⟨hij, z2⟩ := gd_in (fun s i j z => by obtain ⟨v, z⟩ := z; exact (dv_tr_rng d s i j v z).1) _ _ z1
      refine ⟨5, Or.inr ⟨r, hU, hl, dv_prd_mono (fun s' a b z => ?_) _ _ _ (z2 j (Nat.le_refl _))⟩⟩
      obtain ⟨y1, y2, v, y⟩ := z
      refine ⟨y1, y2, ?_⟩
      have yr := (dv_tr_rng d s' a b v y).1
      rcases Nat.lt_or_ge s' 3 with h3 | h3
      · exact Or.inl ⟨h3, dv_D_of y⟩
      · rcases Nat.lt_or_ge (b - a) (j - i) with h4 | h4
        · exact Or.inr (Or.inl ⟨h4, dv_D_of y⟩)
        · have e1 : a = i := by omega
          have e2 : b = j := by omega
          subst e1 e2
          obtain ⟨c, hc⟩ := ih s' a b v h3 y
          exact Or.inr (Or.inr ⟨rfl, rfl, gd_4 hG hc⟩)
/-- the bound of moves of a level c tree over l places -/
def gd_f (l c : Nat) : Nat := if l = 0 then gd_e c else 4096 * l + 344 * c - 2800
theorem gd_e4 : gd_e 4 = 85 := rfl
theorem gd_emono {c : Nat} (h : c ≤ 4) : gd_e c ≤ 85 := by
  have : ∀ c, c ≤ 4 → gd_e c ≤ 85 := by decide
  exact this c h
def gd_ok {V : Type} (G : gr_T) (X : tx_T) (A : al_T V) (sz : V → Nat) (s i j D M : Nat) : Prop := ∃ v, dv_tr G X A D s i j v ∧ sz v ≤ M
theorem gd_lev {V : Type} {G : gr_T} {X : tx_T} {A : al_T V} {sz : V → Nat} (hG : gr_ok G) (hz : lr_sz A sz) {i j : Nat} (hij : i ≤ j)
    (IH : ∀ s a b, b - a < j - i → dv_D G X s a b → gd_ok G X A sz s a b (4 * (b - a) + 4) (gd_f (b - a) 4)) :
    ∀ c, c ≤ 4 → ∀ s, gd_S G X i j c s → gd_ok G X A sz s i j (4 * (j - i) + c) (gd_f (j - i) c) := by
  intro c
  induction c with
  | zero => intro _ s h; exact h.elim
  | succ c ih =>
    intro hc s h
    rcases h with h | ⟨r, hU, hl, z⟩
    · obtain ⟨v, h1, h2⟩ := ih (by omega) s h
      refine ⟨v, dv_tr_le (by omega) h1, Nat.le_trans h2 ?_⟩
      unfold gd_f
      split
      · show gd_e c ≤ 4 * gd_e c + 1; omega
      · omega
    · have hc4 := (hG.2.1 r (Or.inl hU)).1
      -- the children and their moves
      have ch : ∀ k m, k ≤ gr_c G r → dv_prd (gr_h G r) (fun s' a b => i ≤ a ∧ b ≤ j ∧ ((s' < 3 ∧ dv_D G X s' a b) ∨ (b - a < j - i ∧ dv_D G X s' a b) ∨ (a = i ∧ b = j ∧ gd_S G X i j c s'))) k i m → i ≤ m ∧ m ≤ j ∧ ∃ vs, dv_pre (gr_h G r) (dv_tr G X A (4 * (j - i) + c)) k i m vs ∧
          ((j = i ∧ lr_sum sz vs ≤ gd_e c * k) ∨ (i < j ∧ ((m = i ∧ lr_sum sz vs ≤ 85 * k) ∨ (i < m ∧ m - i < j - i ∧ lr_sum sz vs + 1424 ≤ 85 * k + 4096 * (m - i)) ∨ (m = j ∧ lr_sum sz vs + 2800 ≤ 85 * k + 4096 * (j - i) + 344 * c) ∨ (i < m ∧ lr_sum sz vs + 2848 ≤ 85 * k + 4096 * (m - i))))) := by
        intro k
        induction k with
        | zero =>
          intro m _ z
          have z : i = m := z
          subst z
          refine ⟨Nat.le_refl _, hij, [], ⟨rfl, rfl⟩, ?_⟩
          rcases Nat.lt_or_ge i j with h | h
          · exact Or.inr ⟨h, Or.inl ⟨rfl, by simp only [lr_sum]; omega⟩⟩
          · exact Or.inl ⟨by omega, by simp only [lr_sum]; omega⟩
        | succ k ihk =>
          intro m hk z
          obtain ⟨x, z1, hx1, hx2, z2⟩ := z
          obtain ⟨a1, a2, vs, a3, a4⟩ := ihk x (by omega) z1
          -- the child
          have child : ∃ v, dv_tr G X A (4 * (j - i) + c) (gr_h G r k) x m v ∧ x ≤ m ∧ ((j = i ∧ sz v ≤ gd_e c) ∨ (i < j ∧ ((x = m ∧ sz v ≤ 85) ∨ (x < m ∧ m - x < j - i ∧ sz v + 1424 ≤ 4096 * (m - x)) ∨ (x = i ∧ m = j ∧ sz v + 2800 ≤ 4096 * (j - i) + 344 * c)))) := by
            rcases z2 with ⟨h3, z2⟩ | ⟨h3, z2⟩ | ⟨rfl, rfl, z2⟩
            · obtain ⟨d, v, z2⟩ := dv_D_to A z2
              have z3 := dv_tr_kind hG d _ _ _ _ h3 z2
              have z4 := z3
              obtain ⟨_, _, _, rfl, rfl⟩ := z3
              refine ⟨_, dv_tr_le (by omega) z4, by omega, Or.inr ⟨by omega, ?_⟩⟩
              rw [hz.1]
              rcases Nat.lt_or_ge 1 (j - i) with h | h
              · exact Or.inr (Or.inl ⟨by omega, by omega, by omega⟩)
              · exact Or.inr (Or.inr ⟨by omega, by omega, by omega⟩)
            · obtain ⟨v, y1, y2⟩ := IH _ x m h3 z2
              have y3 := (dv_tr_rng _ _ _ _ _ y1).1
              refine ⟨v, dv_tr_le (by omega) y1, y3, Or.inr ⟨by omega, ?_⟩⟩
              rcases Nat.lt_or_ge x m with h | h
              · unfold gd_f at y2
                rw [if_neg (by omega)] at y2
                exact Or.inr (Or.inl ⟨h, h3, by omega⟩)
              · unfold gd_f at y2
                rw [if_pos (by omega), gd_e4] at y2
                exact Or.inl ⟨by omega, y2⟩
            · obtain ⟨v, y1, y2⟩ := ih (by omega) _ z2
              refine ⟨v, y1, hij, ?_⟩
              unfold gd_f at y2
              rcases Nat.lt_or_ge x m with h | h
              · rw [if_neg (by omega)] at y2
                refine Or.inr ⟨h, Or.inr (Or.inr ⟨rfl, rfl, ?_⟩)⟩
                omega
              · rw [if_pos (by omega)] at y2
                exact Or.inl ⟨by omega, y2⟩
          obtain ⟨v, c1, c2, c3⟩ := child
          refine ⟨by omega, hx2, v :: vs, ⟨x, v, vs, a3, c1, rfl⟩, ?_⟩
          simp only [lr_sum]
          rcases Nat.lt_or_ge i j with hl | hl
          · refine Or.inr ⟨hl, ?_⟩
            have a5 : (x = i ∧ lr_sum sz vs ≤ 85 * k) ∨ (i < x ∧ x - i < j - i ∧ lr_sum sz vs + 1424 ≤ 85 * k + 4096 * (x - i)) ∨ (x = j ∧ lr_sum sz vs + 2800 ≤ 85 * k + 4096 * (j - i) + 344 * c) ∨ (i < x ∧ lr_sum sz vs + 2848 ≤ 85 * k + 4096 * (x - i)) := by
              rcases a4 with z | z
              · omega
              · exact z.2
            have c4 : (x = m ∧ sz v ≤ 85) ∨ (x < m ∧ m - x < j - i ∧ sz v + 1424 ≤ 4096 * (m - x)) ∨ (x = i ∧ m = j ∧ sz v + 2800 ≤ 4096 * (j - i) + 344 * c) := by
              rcases c3 with z | z
              · omega
              · exact z.2
            clear a4 c3 a3 c1 z1 z2 IH ih ihk
            rcases c4 with ⟨rfl, y⟩ | ⟨y1, y2, y3⟩ | ⟨rfl, rfl, y⟩
            · omega
            · omega
            · omega
          · refine Or.inl ⟨by omega, ?_⟩
            have a5 : lr_sum sz vs ≤ gd_e c * k := by
              rcases a4 with z | z
              · exact z.2
              · omega
            have c4 : sz v ≤ gd_e c := by
              rcases c3 with z | z
              · exact z.2
              · omega
            rw [Nat.mul_succ]
            omega
      obtain ⟨b1, b2, vs, b3, b4⟩ := ch (gr_c G r) j (Nat.le_refl _) z
      refine ⟨A.2 r vs, Or.inr ⟨r, vs, hU, hl, b3, rfl⟩, ?_⟩
      rw [hz.2]
      unfold gd_f
      rcases Nat.lt_or_ge i j with h | h
      · rw [if_neg (by omega)]
        have b5 : (j = i ∧ lr_sum sz vs ≤ 85 * gr_c G r) ∨ (i < j ∧ j - i < j - i ∧ lr_sum sz vs + 1424 ≤ 85 * gr_c G r + 4096 * (j - i)) ∨ (j = j ∧ lr_sum sz vs + 2800 ≤ 85 * gr_c G r + 4096 * (j - i) + 344 * c) ∨ (i < j ∧ lr_sum sz vs + 2848 ≤ 85 * gr_c G r + 4096 * (j - i)) := by
          rcases b4 with z | z
          · omega
          · exact z.2
        omega
      · rw [if_pos (by omega)]
        have b5 : lr_sum sz vs ≤ gd_e c * gr_c G r := by
          rcases b4 with z | z
          · exact z.2
          · omega
        have b6 : gd_e c * gr_c G r ≤ gd_e c * 4 := Nat.mul_le_mul_left _ hc4
        show lr_sum sz vs + 1 ≤ 4 * gd_e c + 1
        omega
theorem gd_all {V : Type} {G : gr_T} {X : tx_T} {A : al_T V} {sz : V → Nat} (hG : gr_ok G) (hz : lr_sz A sz) : ∀ l s i j, j - i ≤ l → dv_D G X s i j → gd_ok G X A sz s i j (4 * (j - i) + 4) (gd_f (j - i) 4) := by
  intro l
  induction l with
  | zero =>
    intro s i j hl z
    have hr := (dv_D_rng z).1
    obtain ⟨d, v, z⟩ := dv_D_to A z
    rcases Nat.lt_or_ge s 3 with h | h
    · obtain ⟨_, _, _, rfl, _⟩ := dv_tr_kind hG d s i j v h z
      omega
    · obtain ⟨c, hc⟩ := gd_of hG d s i j v h z
      exact gd_lev hG hz hr (fun s a b hab _ => by omega) 4 (Nat.le_refl _) s (gd_4 hG hc)
  | succ l ih =>
    intro s i j hl z
    have hr := (dv_D_rng z).1
    obtain ⟨d, v, z⟩ := dv_D_to A z
    rcases Nat.lt_or_ge s 3 with h | h
    · have z0 := dv_tr_kind hG d s i j v h z
      have z1 := z0
      obtain ⟨_, _, _, rfl, rfl⟩ := z0
      refine ⟨_, dv_tr_le (by omega) z1, ?_⟩
      rw [hz.1]
      unfold gd_f
      rw [if_neg (by omega)]
      omega
    · obtain ⟨c, hc⟩ := gd_of hG d s i j v h z
      exact gd_lev hG hz hr (fun s a b hab z => ih s a b (by omega) z) 4 (Nat.le_refl _) s (gd_4 hG hc)
/-- a good tree over each span of a text of at most 24 places -/
theorem gd_24 {V : Type} {G : gr_T} {X : tx_T} {A : al_T V} {sz : V → Nat} (hG : gr_ok G) (hz : lr_sz A sz) (hn : X.2 ≤ 24) {s i j : Nat} (z : dv_D G X s i j) (hi : i ≤ X.2) : ∃ v, dv_tr G X A 100 s i j v ∧ sz v ≤ 4096 * (j - i) + 85 := by
  obtain ⟨v, h1, h2⟩ := gd_all (A := A) hG hz (j - i) s i j (Nat.le_refl _) z
  have hj := (dv_D_rng z).2 hi
  refine ⟨v, dv_tr_le (by omega) h1, Nat.le_trans h2 ?_⟩
  unfold gd_f
  split
  · rw [gd_e4]; omega
  · omega
