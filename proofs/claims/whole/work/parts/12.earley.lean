/-! chains without values, and the least sets of items between places -/
def dv_prd (h : Nat → Nat) (Q : Nat → Nat → Nat → Prop) : Nat → Nat → Nat → Prop
  | 0 => fun i j => i = j
  | k + 1 => fun i j => ∃ m, dv_prd h Q k i m ∧ Q (h k) m j
theorem dv_prd_mono {h : Nat → Nat} {Q Q' : Nat → Nat → Nat → Prop} (hq : ∀ s i j, Q s i j → Q' s i j) : ∀ k i j, dv_prd h Q k i j → dv_prd h Q' k i j := by
  intro k
  induction k with
  | zero => intro i j z; exact z
  | succ k ih => intro i j z; obtain ⟨m, a, b⟩ := z; exact ⟨m, ih _ _ a, hq _ _ _ b⟩
theorem dv_prd_v {V : Type} {h : Nat → Nat} {Q : Nat → Nat → Nat → Prop} {Q' : Nat → Nat → Nat → V → Prop} (hq : ∀ s i j, Q s i j → ∃ v, Q' s i j v) : ∀ k i j, dv_prd h Q k i j → ∃ vs, dv_pre h Q' k i j vs := by
  intro k
  induction k with
  | zero => intro i j z; exact ⟨[], z, rfl⟩
  | succ k ih =>
    intro i j z
    obtain ⟨m, a, b⟩ := z
    obtain ⟨vs, c⟩ := ih _ _ a
    obtain ⟨v, e⟩ := hq _ _ _ b
    exact ⟨v :: vs, m, v, vs, c, e, rfl⟩
theorem dv_pre_d {V : Type} {h : Nat → Nat} {Q : Nat → Nat → Nat → Prop} {Q' : Nat → Nat → Nat → V → Prop} (hq : ∀ s i j v, Q' s i j v → Q s i j) : ∀ k i j vs, dv_pre h Q' k i j vs → dv_prd h Q k i j := by
  intro k
  induction k with
  | zero => intro i j vs z; exact z.1
  | succ k ih =>
    intro i j vs z
    obtain ⟨m, v, ws, a, b, _⟩ := z
    exact ⟨m, ih _ _ _ a, hq _ _ _ _ b⟩
theorem dv_unif {V : Type} {G : gr_T} {X : tx_T} {A : al_T V} {h : Nat → Nat} : ∀ k i j vs, dv_pre h (fun s i j v => ∃ d, dv_tr G X A d s i j v) k i j vs → ∃ d, dv_pre h (dv_tr G X A d) k i j vs := by
  intro k
  induction k with
  | zero => intro i j vs z; exact ⟨0, z⟩
  | succ k ih =>
    intro i j vs z
    obtain ⟨m, v, ws, a, ⟨d, b⟩, c⟩ := z
    obtain ⟨e, a⟩ := ih _ _ _ a
    exact ⟨e + d, m, v, ws, dv_pre_mono (fun _ _ _ _ z => dv_tr_up d e z) _ _ _ _ a, dv_tr_le (by omega) b, c⟩
/-- trees of one algebra are trees of another -/
theorem dv_alg {V W : Type} {G : gr_T} {X : tx_T} {A : al_T V} (B : al_T W) : ∀ d s i j v, dv_tr G X A d s i j v → ∃ w, dv_tr G X B d s i j w := by
  intro d
  induction d with
  | zero => intro s i j v z; obtain ⟨a, b, c, e, _⟩ := z; exact ⟨_, a, b, c, e, rfl⟩
  | succ d ih =>
    intro s i j v z
    rcases z with z | ⟨r, vs, hU, hl, z, _⟩
    · obtain ⟨w, hw⟩ := ih _ _ _ _ z
      exact ⟨w, Or.inl hw⟩
    · obtain ⟨ws, hw⟩ := dv_prd_v (Q := fun s i j => ∃ v, dv_tr G X A d s i j v) (Q' := dv_tr G X B d) (fun s i j z => by obtain ⟨v, z⟩ := z; exact ih s i j v z) _ _ _ (dv_pre_d (fun s i j v z => ⟨v, z⟩) _ _ _ _ z)
      exact ⟨_, Or.inr ⟨r, ws, hU, hl, hw, rfl⟩⟩
theorem dv_D_of {V : Type} {G : gr_T} {X : tx_T} {A : al_T V} {d s i j : Nat} {v : V} (z : dv_tr G X A d s i j v) : dv_D G X s i j := by
  obtain ⟨w, h⟩ := dv_alg ((fun _ => (), fun _ _ => ()) : al_T Unit) d s i j v z
  exact ⟨d, h⟩
theorem dv_D_to {V : Type} {G : gr_T} {X : tx_T} (A : al_T V) {s i j : Nat} (z : dv_D G X s i j) : ∃ d v, dv_tr G X A d s i j v := by
  obtain ⟨d, z⟩ := z
  obtain ⟨w, h⟩ := dv_alg A d s i j () z
  exact ⟨d, w, h⟩
theorem dv_D_node {G : gr_T} {X : tx_T} {r i j : Nat} (hU : gr_U G r) (z : dv_prd (gr_h G r) (dv_D G X) (gr_c G r) i j) : dv_D G X (gr_l G r) i j := by
  obtain ⟨vs, h⟩ := dv_prd_v (V := Unit) (Q' := fun s i j v => ∃ d, dv_tr G X ((fun _ => (), fun _ _ => ()) : al_T Unit) d s i j v) (fun s i j z => ⟨(), z⟩) _ _ _ z
  obtain ⟨d, h⟩ := dv_unif _ _ _ _ h
  exact ⟨d + 1, Or.inr ⟨r, vs, hU, rfl, h, rfl⟩⟩
theorem dv_D_kind {G : gr_T} {X : tx_T} {i : Nat} (hX : tx_ok X) (hi : i < X.2) : dv_D G X (X.1 i) i (i + 1) := ⟨0, hX i hi, hi, rfl, rfl, rfl⟩
theorem dv_D_rng {G : gr_T} {X : tx_T} {s i j : Nat} (z : dv_D G X s i j) : i ≤ j ∧ (i ≤ X.2 → j ≤ X.2) := by
  obtain ⟨d, z⟩ := z
  exact dv_tr_rng d s i j () z
def er_cl (G : gr_T) (X : tx_T) (R : Nat → Nat → Nat → Nat → Prop) : Prop :=
  R 0 0 9 0 ∧
  (∀ i j r p r', R i j r p → p < gr_c G r → gr_U G r' → gr_l G r' = gr_h G r p → R j j r' 0) ∧
  (∀ i j r p, R i j r p → p < gr_c G r → j < X.2 → gr_h G r p = X.1 j → R i (j + 1) r (p + 1)) ∧
  (∀ i m j r p r', R i m r p → p < gr_c G r → R m j r' (gr_c G r') → gr_U G r' → gr_l G r' = gr_h G r p → R i j r (p + 1))
def er_E (G : gr_T) (X : tx_T) (i j r p : Nat) : Prop := ∀ R, er_cl G X R → R i j r p
theorem er_self (G : gr_T) (X : tx_T) : er_cl G X (er_E G X) :=
  ⟨fun _ h => h.1, fun i j r p r' a b c e R h => h.2.1 i j r p r' (a R h) b c e, fun i j r p a b c e R h => h.2.2.1 i j r p (a R h) b c e, fun i m j r p r' a b c e f R h => h.2.2.2 i m j r p r' (a R h) b (c R h) e f⟩
/-- induction that may use membership -/
theorem er_ind {G : gr_T} {X : tx_T} (R : Nat → Nat → Nat → Nat → Prop) (h0 : R 0 0 9 0)
    (h1 : ∀ i j r p r', er_E G X i j r p → R i j r p → p < gr_c G r → gr_U G r' → gr_l G r' = gr_h G r p → R j j r' 0)
    (h2 : ∀ i j r p, er_E G X i j r p → R i j r p → p < gr_c G r → j < X.2 → gr_h G r p = X.1 j → R i (j + 1) r (p + 1))
    (h3 : ∀ i m j r p r', er_E G X i m r p → R i m r p → p < gr_c G r → er_E G X m j r' (gr_c G r') → R m j r' (gr_c G r') → gr_U G r' → gr_l G r' = gr_h G r p → R i j r (p + 1)) {i j r p : Nat} (h : er_E G X i j r p) : R i j r p := by
  have s := er_self G X
  exact (h (fun i j r p => er_E G X i j r p ∧ R i j r p) ⟨⟨s.1, h0⟩, fun i j r p r' a b c e => ⟨s.2.1 i j r p r' a.1 b c e, h1 i j r p r' a.1 a.2 b c e⟩, fun i j r p a b c e => ⟨s.2.2.1 i j r p a.1 b c e, h2 i j r p a.1 a.2 b c e⟩,
    fun i m j r p r' a b c e f => ⟨s.2.2.2 i m j r p r' a.1 b c.1 e f, h3 i m j r p r' a.1 a.2 b c.1 c.2 e f⟩⟩).2
/-- an item goes on over what its next symbol derives -/
theorem er_step {V : Type} {G : gr_T} {X : tx_T} {A : al_T V} : ∀ d s i j v, dv_tr G X A d s i j v → ∀ i0 r p, er_E G X i0 i r p → p < gr_c G r → gr_h G r p = s → er_E G X i0 j r (p + 1) := by
  have S := er_self G X
  intro d
  induction d with
  | zero =>
    intro s i j v z i0 r p h hp hs
    obtain ⟨_, h2, h3, rfl, _⟩ := z
    exact S.2.2.1 i0 i r p h hp h2 (hs.trans h3.symm)
  | succ d ih =>
    intro s i j v z i0 r p h hp hs
    rcases z with z | ⟨r', vs, hU, hl, z, _⟩
    · exact ih s i j v z i0 r p h hp hs
    · have a : er_E G X i i r' 0 := S.2.1 i0 i r p r' h hp hU (hl.trans hs.symm)
      have ch : ∀ k j' ws, k ≤ gr_c G r' → dv_pre (gr_h G r') (dv_tr G X A d) k i j' ws → er_E G X i j' r' k := by
        intro k
        induction k with
        | zero => intro j' ws _ z; obtain ⟨rfl, _⟩ := z; exact a
        | succ k ihk =>
          intro j' ws hk z
          obtain ⟨m, v, ws', z1, z2, _⟩ := z
          exact ih _ m j' v z2 i r' k (ihk m ws' (by omega) z1) (by omega) rfl
      exact S.2.2.2 i0 i j r p r' h hp (ch _ j vs (Nat.le_refl _) z) hU (hl.trans hs.symm)
/-- what an item has behind it -/
theorem er_sound {G : gr_T} {X : tx_T} (hX : tx_ok X) (hG : gr_ok G) {i j r p : Nat} (h : er_E G X i j r p) : dv_prd (gr_h G r) (dv_D G X) p i j ∧ (gr_U G r ∨ r = 9) ∧ p ≤ gr_c G r ∧ i ≤ j ∧ j ≤ X.2 ∧ (r = 9 → i = 0) := by
  refine er_ind (G := G) (X := X) (fun i j r p => dv_prd (gr_h G r) (dv_D G X) p i j ∧ (gr_U G r ∨ r = 9) ∧ p ≤ gr_c G r ∧ i ≤ j ∧ j ≤ X.2 ∧ (r = 9 → i = 0)) ?_ ?_ ?_ ?_ h
  · exact ⟨rfl, Or.inr rfl, Nat.zero_le _, Nat.le_refl _, Nat.zero_le _, fun _ => rfl⟩
  · intro i j r p r' _ z _ hU _
    have h9 := (hG.1 r' hU).1
    exact ⟨rfl, Or.inl hU, Nat.zero_le _, Nat.le_refl _, z.2.2.2.2.1, fun z => by omega⟩
  · intro i j r p _ z hp hj hs
    refine ⟨⟨j, z.1, ?_⟩, z.2.1, hp, by have := z.2.2.2.1; omega, hj, z.2.2.2.2.2⟩
    rw [hs]; exact dv_D_kind hX hj
  · intro i m j r p r' _ z hp _ y hU hl
    refine ⟨⟨m, z.1, ?_⟩, z.2.1, hp, by have := z.2.2.2.1; have := y.2.2.2.1; omega, y.2.2.2.2.1, z.2.2.2.2.2⟩
    rw [← hl]; exact dv_D_node hU y.1
/-- the last step of an item -/
def er_dv (G : gr_T) (X : tx_T) (s m j : Nat) : Prop := (s < 3 ∧ m < X.2 ∧ X.1 m = s ∧ j = m + 1) ∨ (3 ≤ s ∧ ∃ r, gr_U G r ∧ gr_l G r = s ∧ er_E G X m j r (gr_c G r))
theorem er_inv {G : gr_T} {X : tx_T} (hX : tx_ok X) (hG : gr_ok G) {i j r p : Nat} (h : er_E G X i j r p) : ∀ q, p = q + 1 → ∃ m, er_E G X i m r q ∧ q < gr_c G r ∧ er_dv G X (gr_h G r q) m j := by
  refine er_ind (G := G) (X := X) (fun i j r p => ∀ q, p = q + 1 → ∃ m, er_E G X i m r q ∧ q < gr_c G r ∧ er_dv G X (gr_h G r q) m j) ?_ ?_ ?_ ?_ h
  · intro q e; omega
  · intro i j r p r' _ _ _ _ _ q e; omega
  · intro i j r p z _ hp hj hs q e
    have e : p = q := by omega
    subst e
    exact ⟨j, z, hp, Or.inl ⟨by rw [hs]; exact hX j hj, hj, hs.symm, rfl⟩⟩
  · intro i m j r p r' z _ hp y _ hU hl q e
    have e : p = q := by omega
    subst e
    exact ⟨m, z, hp, Or.inr ⟨by rw [← hl]; exact (hG.1 r' hU).2.1, r', hU, hl, y⟩⟩
theorem er_dv_D {G : gr_T} {X : tx_T} (hX : tx_ok X) (hG : gr_ok G) {s m j : Nat} (h : er_dv G X s m j) : dv_D G X s m j := by
  rcases h with ⟨h1, h2, rfl, rfl⟩ | ⟨h1, r, hU, rfl, h⟩
  · exact dv_D_kind hX h2
  · exact dv_D_node hU (er_sound hX hG h).1
theorem er_dv_go {G : gr_T} {X : tx_T} {s m j i r p : Nat} (h : er_dv G X s m j) (a : er_E G X i m r p) (hp : p < gr_c G r) (hs : gr_h G r p = s) : er_E G X i j r (p + 1) := by
  have S := er_self G X
  rcases h with ⟨h1, h2, h3, rfl⟩ | ⟨h1, r', hU, hl, h⟩
  · exact S.2.2.1 i m r p a hp h2 (hs.trans h3.symm)
  · exact S.2.2.2 i m j r p r' a hp h hU (hl.trans hs.symm)
theorem er_dv_of {V : Type} {G : gr_T} {X : tx_T} {A : al_T V} (hG : gr_ok G) {d s m j i r p : Nat} {v : V} (z : dv_tr G X A d s m j v) (a : er_E G X i m r p) (hp : p < gr_c G r) (hs : gr_h G r p = s) : er_dv G X s m j := by
  rcases Nat.lt_or_ge s 3 with h | h
  · obtain ⟨_, h2, h3, h4, _⟩ := dv_tr_kind hG d s m j v h z
    exact Or.inl ⟨h, h2, h3, h4⟩
  · obtain ⟨e, r', vs, _, hU, hl, z, _⟩ := dv_tr_var d s m j v h z
    have S := er_self G X
    have a0 : er_E G X m m r' 0 := S.2.1 i m r p r' a hp hU (hl.trans hs.symm)
    have ch : ∀ k j' ws, k ≤ gr_c G r' → dv_pre (gr_h G r') (dv_tr G X A e) k m j' ws → er_E G X m j' r' k := by
      intro k
      induction k with
      | zero => intro j' ws _ z; obtain ⟨rfl, _⟩ := z; exact a0
      | succ k ihk =>
        intro j' ws hk z
        obtain ⟨m', v, ws', z1, z2, _⟩ := z
        exact er_step e _ m' j' v z2 m r' k (ihk m' ws' (by omega) z1) (by omega) rfl
    exact Or.inr ⟨h, r', hU, hl, ch _ j vs (Nat.le_refl _) z⟩
/-- the text can go on at a place -/
def er_S (G : gr_T) (X : tx_T) (j : Nat) : Prop := j < X.2 ∧ ∃ i r p, er_E G X i j r p ∧ p < gr_c G r ∧ gr_h G r p = X.1 j
/-! beginnings of trees, up to a place -/
def pt_p (G : gr_T) (X : tx_T) : Nat → Nat → Nat → Nat → Prop
  | 0 => fun s i m => s < 3 ∧ i < X.2 ∧ X.1 i = s ∧ m = i + 1
  | d + 1 => fun s i m => pt_p G X d s i m ∨ ∃ r k i', gr_U G r ∧ gr_l G r = s ∧ k < gr_c G r ∧ dv_prd (gr_h G r) (dv_D G X) k i i' ∧ pt_p G X d (gr_h G r k) i' m
theorem pt_of {G : gr_T} {X : tx_T} (hX : tx_ok X) (hG : gr_ok G) {m : Nat} (h : er_S G X m) : ∃ d, pt_p G X d 3 0 (m + 1) := by
  obtain ⟨hm, i, r, p, h, hp, hs⟩ := h
  have up : ∀ i j r p, er_E G X i j r p → ∀ p0 i' m d, p0 < gr_c G r → dv_prd (gr_h G r) (dv_D G X) p0 i i' → pt_p G X d (gr_h G r p0) i' m → ∃ d', pt_p G X d' 3 0 m := by
    intro i j r p h
    refine er_ind (G := G) (X := X) (fun i j r p => ∀ p0 i' m d, p0 < gr_c G r → dv_prd (gr_h G r) (dv_D G X) p0 i i' → pt_p G X d (gr_h G r p0) i' m → ∃ d', pt_p G X d' 3 0 m) ?_ ?_ ?_ ?_ h
    · intro p0 i' m d h0 h1 h2
      rw [hG.2.2.2.1] at h0
      have e : p0 = 0 := by omega
      subst e
      have e : 0 = i' := h1
      subst e
      rw [hG.2.2.2.2] at h2
      exact ⟨d, h2⟩
    · intro i j r p r' z ih hp hU hl p0 i' m d h0 h1 h2
      refine ih p j m (d + 1) hp (er_sound hX hG z).1 (Or.inr ⟨r', p0, i', hU, hl, h0, h1, h2⟩)
    · intro i j r p _ ih _ _ _; exact ih
    · intro i m j r p r' _ ih _ _ _ _ _; exact ih
  refine up i m r p h p m (m + 1) 0 hp (er_sound hX hG h).1 ⟨?_, hm, hs.symm, rfl⟩
  rw [hs]; exact hX m hm
theorem pt_rng {G : gr_T} {X : tx_T} : ∀ d s i m, pt_p G X d s i m → i < m ∧ m ≤ X.2 := by
  intro d
  induction d with
  | zero => intro s i m z; obtain ⟨_, h, _, rfl⟩ := z; omega
  | succ d ih =>
    intro s i m z
    rcases z with z | ⟨r, k, i', _, _, _, z, y⟩
    · exact ih _ _ _ z
    · have a := ih _ _ _ y
      have b : i ≤ i' := by
        obtain ⟨vs, h⟩ := dv_prd_v (V := Unit) (Q' := fun s i j _ => dv_D G X s i j) (fun s i j z => ⟨(), z⟩) _ _ _ z
        exact (dv_pre_rng (n := X.2) (fun s i j v z => dv_D_rng z) _ _ _ _ h).1
      omega
theorem pt_sym {G : gr_T} {X : tx_T} (hG : gr_ok G) : ∀ d s i m, pt_p G X d s i m → s < 7 := by
  intro d
  induction d with
  | zero => intro s i m z; have := z.1; omega
  | succ d ih =>
    intro s i m z
    rcases z with z | ⟨r, k, i', hU, hl, _⟩
    · exact ih _ _ _ z
    · have := (hG.1 r hU).2.2; omega
theorem pt_168 {G : gr_T} {X : tx_T} (hG : gr_ok G) (hn : X.2 ≤ 24) {d s i m : Nat} (z : pt_p G X d s i m) : pt_p G X 168 s i m := by
  have hs := pt_sym hG d s i m z
  have key := cn_chain (fun d x => pt_p G X d (x % 7) (x / 7) m) 168 (fun d x h => Or.inl h) (fun d h x hx => by
      rcases hx with hx | ⟨r, k, i', hU, hl, hk, h1, h2⟩
      · exact hx
      · refine Or.inr ⟨r, k, i', hU, hl, hk, h1, ?_⟩
        have h7 := pt_sym hG _ _ _ _ h2
        have h8 := h (gr_h G r k + 7 * i')
        rw [show (gr_h G r k + 7 * i') % 7 = gr_h G r k by omega, show (gr_h G r k + 7 * i') / 7 = i' by omega] at h8
        exact h8 h2) (fun d x hx => by
      have := pt_rng _ _ _ _ hx
      have := this.1
      omega) d (s + 7 * i)
  rw [show (s + 7 * i) % 7 = s by omega, show (s + 7 * i) / 7 = i by omega] at key
  exact key z
theorem pt_fs {G : gr_T} {X : tx_T} {F : Nat → Nat → Prop} (hX : tx_ok X) (hF : fs_ok G F) : ∀ d s i m, pt_p G X d s i m → F s (X.1 i) := by
  intro d
  induction d with
  | zero => intro s i m z; obtain ⟨h1, h2, rfl, _⟩ := z; exact hF.1 _ h1
  | succ d ih =>
    intro s i m z
    rcases z with z | ⟨r, k, i', hU, rfl, hk, z, y⟩
    · exact ih _ _ _ z
    · have a := ih _ _ _ y
      have hr := pt_rng _ _ _ _ y
      have hi' : i' < X.2 := by omega
      obtain ⟨vs, h⟩ := dv_prd_v (V := Unit) (Q' := fun s i j v => ∃ d, dv_tr G X ((fun _ => (), fun _ _ => ()) : al_T Unit) d s i j v) (fun s i j z => ⟨(), z⟩) _ _ _ z
      have hii : i ≤ i' := (dv_pre_rng (n := X.2) (fun s i j v z => by obtain ⟨d, z⟩ := z; exact dv_tr_rng d s i j v z) _ _ _ _ h).1
      have b := fs_pre (F := F) (t := 3) (N := X.2) (M := X.2) (c := gr_c G r) (w := X.1) (Nat.le_refl _) hX (fun s i j v z => by obtain ⟨d, z⟩ := z; exact dv_tr_rng d s i j v z) (fun s i j v z => by obtain ⟨d, z⟩ := z; exact fs_tr hX hF d s i j v z) k i i' vs (by omega) (by omega) (by omega) h (by
        rw [if_pos hi', show gr_c G r - k = (gr_c G r - (k + 1)) + 1 by omega]
        exact Or.inl ⟨hX i' hi', Or.inl ⟨hX i' hi', a⟩⟩)
      rw [if_pos (by omega)] at b
      rcases b with ⟨_, b⟩ | ⟨_, b⟩
      · exact hF.2 r _ hU b
      · have := hX i (by omega); omega
/-- every symbol of a right can begin with something -/
def fs_ne (G : gr_T) (F : Nat → Nat → Prop) : Prop := ∀ r k, gr_U G r ∨ r = 9 → k < gr_c G r → ∃ b, b ≤ 3 ∧ F (gr_h G r k) b
theorem fs_ex {G : gr_T} {F : Nat → Nat → Prop} (hN : fs_ne G F) {r : Nat} (hr : gr_U G r ∨ r = 9) (t : Nat) : ∀ c p, p + c = gr_c G r → ∃ a, fs_t F (gr_h G r) c p t a := by
  intro c
  induction c with
  | zero => intro p _; exact ⟨t, Or.inr ⟨rfl, rfl⟩⟩
  | succ c ih =>
    intro p hp
    obtain ⟨b, hb, h⟩ := hN r p hr (by omega)
    rcases Nat.lt_or_ge b 3 with z | z
    · exact ⟨b, Or.inl ⟨z, Or.inl ⟨z, h⟩⟩⟩
    · have e : b = 3 := by omega
      subst e
      obtain ⟨a, ha⟩ := ih (p + 1) (by omega)
      exact ⟨a, fs_back (Or.inr ⟨h, rfl⟩) ha⟩
/-- a beginning of a tree is read -/
theorem lr_part {V : Type} {G : gr_T} {X : tx_T} {A : al_T V} {F : Nat → Nat → Prop} {lk : lr_K} {nx : lr_N} {sz : V → Nat} (hG : gr_ok G) (hX : tx_ok X) (hF : fs_ok G F) (hN : fs_ne G F) (hA : lr_A G F lk nx) (hz : lr_sz A sz)
    (hU9 : ∀ q r p t, lk q r p t → gr_U G r ∨ r = 9) {e C : Nat} (good : ∀ s i j, dv_D G X s i j → i ≤ X.2 → ∃ v, dv_tr G X A e s i j v ∧ sz v ≤ C * (j - i) + 85) :
    ∀ d s i m, pt_p G X d s i m → ∀ q v0 rest r p t, lk q r p t → p < gr_c G r → gr_h G r p = s → ∀ H, rest.length + 3 * d + 3 * e + 8 ≤ H →
      ∃ k c, lr_run G X A lk nx H k ((q, v0) :: rest, i) c ∧ c.2 = m ∧ k ≤ C * (m - i) + 340 * d + 1 := by
  have A2 := hA.2.1
  have A3 := hA.2.2.1
  have A5 := hA.2.2.2.2
  intro d
  induction d with
  | zero =>
    intro s i m z q v0 rest r p t hl hp hs H hH
    obtain ⟨h1, h2, h3, rfl⟩ := z
    subst hs
    obtain ⟨q', n1, n2⟩ := A3 q r p t hl hp
    have hk : tx_k X i = gr_h G r p := by unfold tx_k; rw [if_pos h2, h3]
    refine ⟨1, ((q', A.1 i) :: (q, v0) :: rest, i + 1), lr_run_1 (Or.inl ⟨q, v0, rest, q', rfl, fun r' z => ?_, h2, ?_, rfl⟩) (by simp only [List.length_cons]; omega), rfl, by omega⟩
    · have z : lk q r' (gr_c G r') (tx_k X i) := z
      rw [hk] at z
      exact A5 q r' _ r p t z h1 hl hp rfl
    · show nx q (X.1 i) = some q'
      rw [h3]; exact n1
  | succ d ih =>
    intro s i m z q v0 rest r p t hl hp hs H hH
    rcases z with z | ⟨r', k, i', hU, hle, hk, z, y⟩
    · obtain ⟨k, c, a, b, f⟩ := ih s i m z q v0 rest r p t hl hp hs H (by omega)
      exact ⟨k, c, a, b, by omega⟩
    · have hy := pt_rng _ _ _ _ y
      have hii : i ≤ i' := by
        obtain ⟨vs, h⟩ := dv_prd_v (V := Unit) (Q' := fun s i j _ => dv_D G X s i j) (fun s i j z => ⟨(), z⟩) _ _ _ z
        exact (dv_pre_rng (n := X.2) (fun s i j v z => dv_D_rng z) _ _ _ _ h).1
      have hi' : i' < X.2 := by omega
      obtain ⟨t', ht'⟩ := fs_ex hN (hU9 q r p t hl) t (gr_c G r - (p + 1)) (p + 1) (by omega)
      have h0 : lk q r' 0 t' := A2 q r p t r' t' hl hp hU (hle.trans hs.symm) ht'
      -- the values of the children before
      have hv : ∀ k j, dv_prd (gr_h G r') (dv_D G X) k i j → i ≤ j ∧ j ≤ X.2 ∧ ∃ vs, dv_pre (gr_h G r') (dv_tr G X A e) k i j vs ∧ lr_sum sz vs ≤ C * (j - i) + 85 * k := by
        intro k
        induction k with
        | zero => intro j z; have z : i = j := z; subst z; exact ⟨Nat.le_refl _, by omega, [], ⟨rfl, rfl⟩, Nat.zero_le _⟩
        | succ k ihk =>
          intro j z
          obtain ⟨x, z1, z2⟩ := z
          obtain ⟨a1, a2, vs, a3, a4⟩ := ihk x z1
          obtain ⟨v, b1, b2⟩ := good _ x j z2 a2
          have b3 := dv_D_rng z2
          refine ⟨by omega, b3.2 a2, v :: vs, ⟨x, v, vs, a3, b1, rfl⟩, ?_⟩
          simp only [lr_sum]
          have : C * (j - i) = C * (x - i) + C * (j - x) := by rw [← Nat.mul_add]; congr 1; omega
          omega
      obtain ⟨_, _, vs, hv1, hv2⟩ := hv k i' z
      have hc4 := (hG.2.1 r' (Or.inl hU)).1
      have hfs : fs_t F (gr_h G r') (gr_c G r' - k) k t' (tx_k X i') := by
        have hki : tx_k X i' = X.1 i' := if_pos hi'
        rw [hki, show gr_c G r' - k = (gr_c G r' - (k + 1)) + 1 by omega]
        exact Or.inl ⟨hX i' hi', Or.inl ⟨hX i' hi', pt_fs hX hF _ _ _ _ y⟩⟩
      obtain ⟨pop, e1, e2, ⟨q1, v1, rest1, e3, hl1⟩, hr⟩ := lr_chain hX hF (lr_tree hG hX hF hA hz e) (v0 := v0) (rest := rest) h0 hc4 (by omega) (H := H) (by omega) k i' vs (by omega) hv1 hfs
      have hlen : rest1.length + 1 = k + (rest.length + 1) := by
        have := congrArg List.length e3
        rw [List.length_append, List.length_cons, List.length_cons, e2] at this
        omega
      obtain ⟨k2, c, a, b, f⟩ := ih _ i' m y q1 v1 rest1 r' k t' hl1 hk rfl H (by omega)
      rw [e3] at hr
      refine ⟨lr_sum sz vs + k2, c, lr_run_tr _ _ hr a, b, ?_⟩
      have : C * (m - i) = C * (i' - i) + C * (m - i') := by rw [← Nat.mul_add]; congr 1; omega
      omega
