/-! counting -/
noncomputable def cn_b (P : Prop) : Nat := @ite Nat P (Classical.propDecidable P) 1 0
theorem cn_bt {P : Prop} (h : P) : cn_b P = 1 := by unfold cn_b; rw [if_pos h]
theorem cn_bf {P : Prop} (h : ¬ P) : cn_b P = 0 := by unfold cn_b; rw [if_neg h]
theorem cn_ble (P : Prop) : cn_b P ≤ 1 := by
  rcases Classical.em P with h | h
  · rw [cn_bt h]; omega
  · rw [cn_bf h]; omega
theorem cn_bm {P Q : Prop} (h : P → Q) : cn_b P ≤ cn_b Q := by
  rcases Classical.em P with hp | hp
  · rw [cn_bt hp, cn_bt (h hp)]; omega
  · rw [cn_bf hp]; omega
noncomputable def cn_c (P : Nat → Prop) : Nat → Nat
  | 0 => 0
  | k + 1 => cn_c P k + cn_b (P k)
theorem cn_mono {P Q : Nat → Prop} : ∀ {N : Nat}, (∀ k, k < N → P k → Q k) → cn_c P N ≤ cn_c Q N
  | 0, _ => Nat.le_refl _
  | N + 1, h => by
    have a := cn_mono (P := P) (Q := Q) (N := N) (fun k hk => h k (by omega))
    have b := cn_bm (h N (by omega))
    simp only [cn_c]; omega
theorem cn_lt {P Q : Nat → Prop} {a : Nat} (hp : ¬ P a) (hq : Q a) : ∀ {N : Nat}, (∀ k, k < N → P k → Q k) → a < N → cn_c P N < cn_c Q N
  | 0, _, h => by omega
  | N + 1, h, ha => by
    simp only [cn_c]
    rcases Nat.lt_or_ge a N with z | z
    · have x := cn_lt hp hq (N := N) (fun k hk => h k (by omega)) z
      have b := cn_bm (h N (by omega))
      omega
    · have e : a = N := by omega
      subst e
      have x := cn_mono (P := P) (Q := Q) (N := a) (fun k hk => h k (by omega))
      rw [cn_bt hq, cn_bf hp]; omega
theorem cn_le (P : Nat → Prop) : ∀ N, cn_c P N ≤ N
  | 0 => Nat.le_refl _
  | N + 1 => by have := cn_le P N; have := cn_ble (P N); simp only [cn_c]; omega
theorem cn_eq {P Q : Nat → Prop} {N : Nat} (h : ∀ k, k < N → (P k ↔ Q k)) : cn_c P N = cn_c Q N :=
  Nat.le_antisymm (cn_mono fun k hk => (h k hk).mp) (cn_mono fun k hk => (h k hk).mpr)
/-- a rising chain of sets below N, each made of the one before, stands still at N -/
theorem cn_chain (S : Nat → Nat → Prop) (N : Nat) (hm : ∀ d x, S d x → S (d + 1) x)
    (hs : ∀ d, (∀ x, S (d + 1) x → S d x) → ∀ x, S (d + 2) x → S (d + 1) x) (hN : ∀ d x, S d x → x < N) : ∀ d x, S d x → S N x := by
  have mono : ∀ e k x, S e x → S (e + k) x := by
    intro e k
    induction k with
    | zero => intro x h; exact h
    | succ k ih => intro x h; exact hm _ _ (ih x h)
  have key : ∀ d, (∃ e, e < d ∧ ∀ x, S (e + 1) x → S e x) ∨ d ≤ cn_c (S d) N := by
    intro d
    induction d with
    | zero => exact Or.inr (Nat.zero_le _)
    | succ d ih =>
      rcases ih with ⟨e, he, h⟩ | h
      · exact Or.inl ⟨e, by omega, h⟩
      · rcases Classical.em (∀ x, S (d + 1) x → S d x) with hst | hst
        · exact Or.inl ⟨d, by omega, hst⟩
        · obtain ⟨x, hx⟩ := Classical.not_forall.mp hst
          have hx1 : S (d + 1) x := Classical.byContradiction fun z => hx (fun y => absurd y z)
          have hx2 : ¬ S d x := fun z => hx (fun _ => z)
          have := cn_lt (P := S d) (Q := S (d + 1)) hx2 hx1 (N := N) (fun k _ h => hm d k h) (hN _ _ hx1)
          exact Or.inr (by omega)
  rcases key (N + 1) with ⟨e, he, h⟩ | h
  · have st : ∀ k x, S (e + k + 1) x → S (e + k) x := by
      intro k
      induction k with
      | zero => exact h
      | succ k ih => exact hs (e + k) ih
    have dn : ∀ k x, S (e + k) x → S e x := by
      intro k
      induction k with
      | zero => intro x h; exact h
      | succ k ih => intro x h; exact ih x (st k x h)
    intro d x hx
    have h1 : S (e + d) x := by rw [Nat.add_comm]; exact mono d e x hx
    have h2 := mono e (N - e) x (dn d x h1)
    rwa [show e + (N - e) = N by omega] at h2
  · have := cn_le (S (N + 1)) N
    omega
/-! a grammar: its rules in use, lefts, sizes, rights; a text: kinds and their number; an algebra: a leaf's and a node's value -/
abbrev gr_T : Type := (Nat → Prop) × (Nat → Nat) × (Nat → Nat) × (Nat → Nat → Nat)
def gr_U (G : gr_T) : Nat → Prop := G.1
def gr_l (G : gr_T) : Nat → Nat := G.2.1
def gr_c (G : gr_T) : Nat → Nat := G.2.2.1
def gr_h (G : gr_T) : Nat → Nat → Nat := G.2.2.2
/-- what is known of a grammar: rule 9 is the first one -/
def gr_ok (G : gr_T) : Prop := (∀ r, gr_U G r → r < 9 ∧ 3 ≤ gr_l G r ∧ gr_l G r < 7) ∧ (∀ r, gr_U G r ∨ r = 9 → gr_c G r ≤ 4 ∧ ∀ k, k < gr_c G r → gr_h G r k < 7) ∧ gr_l G 9 = 7 ∧ gr_c G 9 = 1 ∧ gr_h G 9 0 = 3
abbrev tx_T : Type := (Nat → Nat) × Nat
def tx_k (X : tx_T) (j : Nat) : Nat := if j < X.2 then X.1 j else 3
def tx_ok (X : tx_T) : Prop := ∀ i, i < X.2 → X.1 i < 3
abbrev al_T (V : Type) : Type := (Nat → V) × (Nat → List V → V)
def dv_pre {V : Type} (h : Nat → Nat) (Q : Nat → Nat → Nat → V → Prop) : Nat → Nat → Nat → List V → Prop
  | 0 => fun i j vs => i = j ∧ vs = []
  | k + 1 => fun i j vs => ∃ m v ws, dv_pre h Q k i m ws ∧ Q (h k) m j v ∧ vs = v :: ws
def dv_tr {V : Type} (G : gr_T) (X : tx_T) (A : al_T V) : Nat → Nat → Nat → Nat → V → Prop
  | 0 => fun s i j v => s < 3 ∧ i < X.2 ∧ X.1 i = s ∧ j = i + 1 ∧ v = A.1 i
  | d + 1 => fun s i j v => dv_tr G X A d s i j v ∨ ∃ r vs, gr_U G r ∧ gr_l G r = s ∧ dv_pre (gr_h G r) (dv_tr G X A d) (gr_c G r) i j vs ∧ v = A.2 r vs
theorem dv_pre_mono {V : Type} {h : Nat → Nat} {Q Q' : Nat → Nat → Nat → V → Prop} (hq : ∀ s i j v, Q s i j v → Q' s i j v) : ∀ k i j vs, dv_pre h Q k i j vs → dv_pre h Q' k i j vs := by
  intro k
  induction k with
  | zero => intro i j vs z; exact z
  | succ k ih =>
    intro i j vs z
    obtain ⟨m, v, ws, h1, h2, h3⟩ := z
    exact ⟨m, v, ws, ih _ _ _ h1, hq _ _ _ _ h2, h3⟩
theorem dv_tr_up {V : Type} {G : gr_T} {X : tx_T} {A : al_T V} {s i j : Nat} {v : V} : ∀ k d, dv_tr G X A d s i j v → dv_tr G X A (d + k) s i j v := by
  intro k
  induction k with
  | zero => intro d z; exact z
  | succ k ih => intro d z; exact Or.inl (ih d z)
theorem dv_tr_le {V : Type} {G : gr_T} {X : tx_T} {A : al_T V} {s i j : Nat} {v : V} {d e : Nat} (h : d ≤ e) (z : dv_tr G X A d s i j v) : dv_tr G X A e s i j v := by
  have := dv_tr_up (e - d) d z
  rwa [show d + (e - d) = e by omega] at this
theorem dv_pre_rng {V : Type} {h : Nat → Nat} {Q : Nat → Nat → Nat → V → Prop} {n : Nat} (hq : ∀ s i j v, Q s i j v → i ≤ j ∧ (i ≤ n → j ≤ n)) : ∀ k i j vs, dv_pre h Q k i j vs → i ≤ j ∧ (i ≤ n → j ≤ n) := by
  intro k
  induction k with
  | zero => intro i j vs z; obtain ⟨rfl, _⟩ := z; exact ⟨Nat.le_refl _, id⟩
  | succ k ih =>
    intro i j vs z
    obtain ⟨m, v, ws, h1, h2, h3⟩ := z
    have a := ih _ _ _ h1
    have b := hq _ _ _ _ h2
    exact ⟨by omega, fun z => b.2 (a.2 z)⟩
theorem dv_tr_rng {V : Type} {G : gr_T} {X : tx_T} {A : al_T V} : ∀ d s i j v, dv_tr G X A d s i j v → i ≤ j ∧ (i ≤ X.2 → j ≤ X.2) := by
  intro d
  induction d with
  | zero => intro s i j v z; obtain ⟨_, h, _, rfl, _⟩ := z; exact ⟨by omega, fun _ => by omega⟩
  | succ d ih =>
    intro s i j v z
    rcases z with z | ⟨r, vs, _, _, h, _⟩
    · exact ih _ _ _ _ z
    · exact dv_pre_rng ih _ _ _ _ h
/-- a kind's tree is its leaf -/
theorem dv_tr_kind {V : Type} {G : gr_T} {X : tx_T} {A : al_T V} (hG : gr_ok G) : ∀ d s i j v, s < 3 → dv_tr G X A d s i j v → dv_tr G X A 0 s i j v := by
  intro d
  induction d with
  | zero => intro s i j v _ z; exact z
  | succ d ih =>
    intro s i j v hs z
    rcases z with z | ⟨r, vs, hU, hl, _, _⟩
    · exact ih _ _ _ _ hs z
    · have := (hG.1 r hU).2.1; omega
/-- a variable's tree is a rule's -/
theorem dv_tr_var {V : Type} {G : gr_T} {X : tx_T} {A : al_T V} : ∀ d s i j v, 3 ≤ s → dv_tr G X A d s i j v → ∃ e r vs, e < d ∧ gr_U G r ∧ gr_l G r = s ∧ dv_pre (gr_h G r) (dv_tr G X A e) (gr_c G r) i j vs ∧ v = A.2 r vs := by
  intro d
  induction d with
  | zero => intro s i j v h z; have := z.1; omega
  | succ d ih =>
    intro s i j v hs z
    rcases z with z | ⟨r, vs, hU, hl, h, hv⟩
    · obtain ⟨e, r, vs, he, z⟩ := ih _ _ _ _ hs z
      exact ⟨e, r, vs, by omega, z⟩
    · exact ⟨d, r, vs, by omega, hU, hl, h, hv⟩
def dv_D (G : gr_T) (X : tx_T) (s i j : Nat) : Prop := ∃ d, dv_tr G X ((fun _ => (), fun _ _ => ()) : al_T Unit) d s i j ()
/-! the looks that a list can begin with -/
def fs_b (F : Nat → Nat → Prop) (h : Nat → Nat) : Nat → Nat → Nat → Prop
  | 0 => fun _ b => b = 3
  | c + 1 => fun p b => (b < 3 ∧ F (h p) b) ∨ (F (h p) 3 ∧ fs_b F h c (p + 1) b)
def fs_t (F : Nat → Nat → Prop) (h : Nat → Nat) (c p t a : Nat) : Prop := (a < 3 ∧ fs_b F h c p a) ∨ (fs_b F h c p 3 ∧ a = t)
def fs_ok (G : gr_T) (F : Nat → Nat → Prop) : Prop := (∀ s, s < 3 → F s s) ∧ ∀ r b, gr_U G r → fs_b F (gr_h G r) (gr_c G r) 0 b → F (gr_l G r) b
theorem fs_back {F : Nat → Nat → Prop} {h : Nat → Nat} {c p t a a' : Nat} (h1 : (a < 3 ∧ F (h p) a) ∨ (F (h p) 3 ∧ a = a')) (h2 : fs_t F h c (p + 1) t a') : fs_t F h (c + 1) p t a := by
  rcases h1 with ⟨h1, h3⟩ | ⟨h1, rfl⟩
  · exact Or.inl ⟨h1, Or.inl ⟨h1, h3⟩⟩
  · rcases h2 with ⟨h2, h3⟩ | ⟨h2, h3⟩
    · exact Or.inl ⟨h2, Or.inr ⟨h1, h3⟩⟩
    · exact Or.inr ⟨Or.inr ⟨h1, h2⟩, h3⟩
theorem fs_pre {V : Type} {F : Nat → Nat → Prop} {h : Nat → Nat} {Q : Nat → Nat → Nat → V → Prop} {w : Nat → Nat} {N M : Nat} {c t : Nat} (hN : N ≤ M) (hw : ∀ i, i < M → w i < 3) (hr : ∀ s i j v, Q s i j v → i ≤ j ∧ (i ≤ M → j ≤ M)) (hq : ∀ s i j v, Q s i j v → i ≤ M → (i < j → F s (w i)) ∧ (i = j → F s 3)) :
    ∀ k i j vs, k ≤ c → j ≤ N → i ≤ M → dv_pre h Q k i j vs → fs_t F h (c - k) k t (if j < N then w j else 3) → fs_t F h c 0 t (if i < N then w i else 3) := by
  intro k
  induction k with
  | zero => intro i j vs _ _ _ z h2; obtain ⟨rfl, _⟩ := z; exact h2
  | succ k ih =>
    intro i j vs hk hj hi z h2
    obtain ⟨m, v, ws, h3, h4, _⟩ := z
    have hmM := (dv_pre_rng hr _ _ _ _ h3).2 hi
    have hmj := (hr _ _ _ _ h4).1
    obtain ⟨b, e⟩ := hq _ _ _ _ h4 hmM
    have x : fs_t F h (c - k) k t (if m < N then w m else 3) := by
      rw [show c - k = (c - (k + 1)) + 1 by omega]
      refine fs_back ?_ h2
      rcases Nat.lt_or_ge m j with z | z
      · have hm : m < N := by omega
        rw [if_pos hm]
        exact Or.inl ⟨hw m (by omega), b z⟩
      · have z : m = j := by omega
        subst z
        exact Or.inr ⟨e rfl, rfl⟩
    exact ih i m ws (by omega) (by omega) hi h3 x
theorem fs_tr {V : Type} {G : gr_T} {X : tx_T} {A : al_T V} {F : Nat → Nat → Prop} (hX : tx_ok X) (hF : fs_ok G F) : ∀ d s i j v, dv_tr G X A d s i j v → i ≤ X.2 → (i < j → F s (X.1 i)) ∧ (i = j → F s 3) := by
  intro d
  induction d with
  | zero =>
    intro s i j v z _
    obtain ⟨h1, h2, rfl, rfl, _⟩ := z
    exact ⟨fun _ => hF.1 _ h1, fun z => by omega⟩
  | succ d ih =>
    intro s i j v z hi
    rcases z with z | ⟨r, vs, hU, rfl, h, _⟩
    · exact ih _ _ _ _ z hi
    · have hij := dv_pre_rng (fun s i j v z => dv_tr_rng d s i j v z) _ _ _ _ h
      have y := fs_pre (F := F) (t := 3) (N := j) (M := X.2) (c := gr_c G r) (w := X.1) (hij.2 hi) hX (fun s i j v z => dv_tr_rng d s i j v z) ih (gr_c G r) i j vs (Nat.le_refl _) (Nat.le_refl _) hi h (by
          rw [Nat.sub_self, if_neg (by omega)]; exact Or.inr ⟨rfl, rfl⟩)
      refine ⟨fun z => ?_, fun z => ?_⟩
      · rw [if_pos z] at y
        rcases y with ⟨_, y⟩ | ⟨_, y⟩
        · exact hF.2 r _ hU y
        · have := hX i (by omega); omega
      · rw [if_neg (by omega)] at y
        rcases y with ⟨y, _⟩ | ⟨y, _⟩
        · omega
        · exact hF.2 r _ hU y
