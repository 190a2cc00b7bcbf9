/-! the lists of the sets that words lead to -/
section
variable {x : gk_T}
/-- a list of sets: L of them, q -/
def ll_q (x : gk_T) (L : Nat) (q : Nat → Nat) : Prop := 1 ≤ L ∧ q 0 = 64 ∧ (∀ i, i < L → ap_R x (q i)) ∧ ∀ i j, i < L → j < L → q i = q j → i = j
/-- all that the first i (and l letters of the next) lead to stands in it -/
def ll_d (x : gk_T) (L : Nat) (q : Nat → Nat) (i l : Nat) : Prop := ∀ i' l', l' < 3 → (i' < i ∨ (i' = i ∧ l' < l)) → ∃ j, j < L ∧ q j = ap_d x (q i') l'
theorem ll_65 (hx : gk_wf x) {L : Nat} {q : Nat → Nat} (h : ll_q x L q) : L ≤ 65 := ls_le (fun i hi => ap_R65 hx (h.2.2.1 i hi)) h.2.2.2
theorem ll_0 : ll_q x 1 (fun _ => 64) := ⟨Nat.le_refl _, rfl, fun _ _ => ap_R0 x, fun i j hi hj _ => by omega⟩
theorem ll_add {L m : Nat} {q : Nat → Nat} (h : ll_q x L q) (hm : ap_R x m) (hn : ∀ i, i < L → q i ≠ m) : ll_q x (L + 1) (gh_u q L m) := by
  obtain ⟨h1, h2, h3, h4⟩ := h
  refine ⟨by omega, ?_, fun i hi => ?_, fun i j hi hj e => ?_⟩
  · rw [gh_n (by omega)]; exact h2
  · by_cases z : i = L
    · rw [z, gh_s]; exact hm
    · rw [gh_n z]; exact h3 i (by omega)
  · by_cases z : i = L <;> by_cases y : j = L
    · omega
    · rw [z, gh_s, gh_n y] at e
      exact absurd e.symm (hn j (by omega))
    · rw [y, gh_s, gh_n z] at e
      exact absurd e (hn i (by omega))
    · rw [gh_n z, gh_n y] at e
      exact h4 i j (by omega) (by omega) e
theorem ll_dk {L i l m : Nat} {q : Nat → Nat} (h : ll_d x L q i l) (hi : i < L) : ll_d x (L + 1) (gh_u q L m) i l := by
  intro i' l' hl hh
  obtain ⟨j, a, b⟩ := h i' l' hl hh
  refine ⟨j, by omega, ?_⟩
  rw [gh_n (by omega), gh_n (by omega)]
  exact b
theorem ll_ds {L i l j : Nat} {q : Nat → Nat} (h : ll_d x L q i l) (hj : j < L) (e : q j = ap_d x (q i) l) : ll_d x L q i (l + 1) := by
  intro i' l' hl hh
  by_cases z : i' = i ∧ l' = l
  · rw [z.1, z.2]; exact ⟨j, hj, e⟩
  · exact h i' l' hl (by omega)
theorem ll_d3 {L i : Nat} {q : Nat → Nat} (h : ll_d x L q i 3) : ll_d x L q (i + 1) 0 := by
  intro i' l' hl hh
  exact h i' l' hl (by omega)
theorem ll_R {L : Nat} {q : Nat → Nat} (h : ll_q x L q) (hd : ll_d x L q L 0) {m : Nat} (hm : ap_R x m) : ∃ j, j < L ∧ q j = m := by
  refine hm (fun m => ∃ j, j < L ∧ q j = m) ⟨0, h.1, h.2.1⟩ ?_
  rintro m l ⟨j, a, rfl⟩ hl
  exact hd j l hl (Or.inl a)
/-- the component's list: its groups and marks -/
def xl_L (x : gk_T) (L : Nat) (q : Nat → Nat) (G M : Nat → Int32) : Prop := ll_q x L q ∧ (∀ i, i < L → M i = nI (q i)) ∧ ∀ m, m < 128 → ((∃ i, i < L ∧ q i = m) ∧ ((G m = 1 ∧ ap_c x m) ∨ (G m = 0 ∧ ¬ ap_c x m))) ∨ ((∀ i, i < L → q i ≠ m) ∧ G m = -1)
theorem xl_add {L m : Nat} {q : Nat → Nat} {G M : Nat → Int32} (h : xl_L x L q G M) (hm : ap_R x m) (hn : ∀ i, i < L → q i ≠ m) {v : Int32} (hv : (v = 1 ∧ ap_c x m) ∨ (v = 0 ∧ ¬ ap_c x m)) : xl_L x (L + 1) (gh_u q L m) (upd G m v) (upd M L (nI m)) := by
  obtain ⟨h1, h2, h3⟩ := h
  refine ⟨ll_add h1 hm hn, fun i hi => ?_, fun k hk => ?_⟩
  · by_cases z : i = L
    · rw [z, pk_us, gh_s]
    · rw [pk_un z, gh_n z]; exact h2 i (by omega)
  · by_cases z : k = m
    · rw [z, pk_us]
      exact Or.inl ⟨⟨L, by omega, gh_s⟩, hv⟩
    · rw [pk_un z]
      rcases h3 k hk with ⟨⟨i, a, b⟩, c⟩ | ⟨a, b⟩
      · exact Or.inl ⟨⟨i, by omega, by rw [gh_n (by omega)]; exact b⟩, c⟩
      · refine Or.inr ⟨fun i hi e => ?_, b⟩
        by_cases y : i = L
        · rw [y, gh_s] at e; exact z e.symm
        · rw [gh_n y] at e; exact a i (by omega) e
theorem xl_0 {G M : Nat → Int32} {v : Int32} (hv : (v = 1 ∧ ap_c x 64) ∨ (v = 0 ∧ ¬ ap_c x 64)) (hG : ∀ m, m < 128 → G m = -1) : xl_L x 1 (fun _ => 64) (upd G 64 v) (upd M 0 64) := by
  refine ⟨ll_0, fun i hi => ?_, fun m hm => ?_⟩
  · rw [show i = 0 by omega, pk_us]; rfl
  · by_cases z : m = 64
    · rw [z, pk_us]
      exact Or.inl ⟨⟨0, by omega, rfl⟩, hv⟩
    · rw [pk_un z]
      exact Or.inr ⟨fun i _ e => z e.symm, hG m hm⟩
theorem xl_end {L : Nat} {q : Nat → Nat} {G M : Nat → Int32} (h : xl_L x L q G M) (hd : ll_d x L q L 0) : xa_G x 0 G := by
  obtain ⟨h1, h2, h3⟩ := h
  have R : ∀ m, m < 128 → (ap_R x m ∧ ((G m = 1 ∧ ap_c x m) ∨ (G m = 0 ∧ ¬ ap_c x m))) ∨ (¬ ap_R x m ∧ G m = -1) := by
    intro m hm
    rcases h3 m hm with ⟨⟨i, a, b⟩, c⟩ | ⟨a, b⟩
    · exact Or.inl ⟨by rw [← b]; exact h1.2.2.1 i a, c⟩
    · refine Or.inr ⟨fun r => ?_, b⟩
      obtain ⟨j, j1, j2⟩ := ll_R h1 hd r
      exact a j j1 j2
  intro m hm
  refine ⟨fun n => ?_, fun r => ?_, fun m' hm' r r' => ?_⟩
  · rcases R m hm with a | a
    · exact absurd a.1 n
    · exact a.2
  · rcases R m hm with ⟨_, a | a⟩ | a
    · exact ⟨1, by omega, a.1⟩
    · exact ⟨0, by omega, a.1⟩
    · exact absurd r a.1
  · show _ ↔ (ap_c x m ↔ ap_c x m')
    rcases R m hm with ⟨_, a | a⟩ | a
    · rcases R m' hm' with ⟨_, b | b⟩ | b
      · rw [a.1, b.1]; exact ⟨fun _ => ⟨fun _ => b.2, fun _ => a.2⟩, fun _ => rfl⟩
      · rw [a.1, b.1]; exact ⟨(fun k => absurd k (by decide)), fun k => absurd (k.mp a.2) b.2⟩
      · exact absurd r' b.1
    · rcases R m' hm' with ⟨_, b | b⟩ | b
      · rw [a.1, b.1]; exact ⟨(fun k => absurd k (by decide)), fun k => absurd (k.mpr b.2) a.2⟩
      · rw [a.1, b.1]; exact ⟨fun _ => ⟨fun z => absurd z a.2, fun z => absurd z b.2⟩, fun _ => rfl⟩
      · exact absurd r' b.1
    · exact absurd r a.1
/-- the reference's sets -/
def yv_v (m : Nat) : Nat := if m = 64 then 128 else m
theorem yv_lt {m : Nat} (h : m < 65) : yv_v m ≤ 128 := by
  unfold yv_v
  by_cases z : m = 64
  · rw [if_pos z]; omega
  · rw [if_neg z]; omega
theorem yv_e {m n : Nat} (hm : m < 65) (hn : n < 65) : nI (yv_v m) = nI (yv_v n) ↔ m = n := by
  have a := yv_lt hm
  have b := yv_lt hn
  rw [nI_eq (by omega) (by omega)]
  unfold yv_v
  by_cases z : m = 64 <;> by_cases y : n = 64
  · rw [if_pos z, if_pos y]; omega
  · rw [if_pos z, if_neg y]; omega
  · rw [if_neg z, if_pos y]; omega
  · rw [if_neg z, if_neg y]
theorem yv_b {m : Nat} (h : m < 65) (b : Nat) : bt (nI (yv_v m)) b = true ↔ (b = 7 ∧ m = 64) ∨ (m ≠ 64 ∧ bt (nI m) b = true) := by
  unfold yv_v
  by_cases z : m = 64
  · rw [if_pos z]
    have e : bt (nI 128) b = true ↔ b = 7 := by
      have e1 : (nI 128) = (1 : Int32) <<< (nI 7 &&& 31) := by decide
      rw [e1, b_one 7 (by omega), decide_eq_true_eq]
    rw [e]
    exact ⟨fun k => Or.inl ⟨k, z⟩, fun k => k.elim (fun w => w.1) fun w => absurd z w.1⟩
  · rw [if_neg z]
    exact ⟨fun k => Or.inr ⟨z, k⟩, fun k => k.elim (fun w => absurd w.2 z) fun w => w.2⟩
/-- the reference's groups: told apart as words of n letters do -/
def yc_C (x : gk_T) (L : Nat) (q : Nat → Nat) (n : Nat) (C : Nat → Int32) : Prop := ∀ s s', s < L → s' < L → (C s = C s' ↔ ap_e x n (q s) (q s'))
def yc_l (x : gk_T) (L : Nat) (q : Nat → Nat) (D : Nat → Int32) : Prop := ∀ s l, s < L → l < 3 → ∃ j, j < L ∧ q j = ap_d x (q s) l ∧ D (s * 3 + l) = nI j
/-- half of the new numbers -/
def yc_N (x : gk_T) (q : Nat → Nat) (n S p : Nat) (N : Nat → Int32) : Prop := (∀ s, s < S → ∃ k, k < p ∧ N s = nI k) ∧ ∀ s s', s < S → s' < S → (N s = N s' ↔ ap_e x (n + 1) (q s) (q s'))
theorem yc_old {q : Nat → Nat} {n S p r : Nat} {N : Nat → Int32} (h : yc_N x q n S p N) (hr : r < S) (e : ap_e x (n + 1) (q r) (q S)) : yc_N x q n (S + 1) p (upd N S (N r)) := by
  obtain ⟨h1, h2⟩ := h
  refine ⟨fun s hs => ?_, fun s s' hs hs' => ?_⟩
  · by_cases z : s = S
    · rw [z, pk_us]; exact h1 r hr
    · rw [pk_un z]; exact h1 s (by omega)
  · by_cases z : s = S <;> by_cases y : s' = S
    · rw [z, y]; exact ⟨fun _ => au_refl _ _, fun _ => rfl⟩
    · rw [z, pk_us, pk_un y, h2 r s' hr (by omega)]
      exact ⟨fun k => au_trans _ _ _ _ (au_symm _ _ _ e) k, fun k => au_trans _ _ _ _ e k⟩
    · rw [y, pk_us, pk_un z, h2 s r (by omega) hr]
      exact ⟨fun k => au_trans _ _ _ _ k e, fun k => au_trans _ _ _ _ k (au_symm _ _ _ e)⟩
    · rw [pk_un z, pk_un y]; exact h2 s s' (by omega) (by omega)
theorem yc_new {q : Nat → Nat} {n S p : Nat} {N : Nat → Int32} (hp : p < 2 ^ 30) (h : yc_N x q n S p N) (e : ∀ r, r < S → ¬ ap_e x (n + 1) (q r) (q S)) : yc_N x q n (S + 1) (p + 1) (upd N S (nI p)) := by
  obtain ⟨h1, h2⟩ := h
  have ne : ∀ s, s < S → N s ≠ nI p := fun s hs w => by
    obtain ⟨k, k1, k2⟩ := h1 s hs
    rw [k2, nI_eq (by omega) (by omega)] at w
    omega
  refine ⟨fun s hs => ?_, fun s s' hs hs' => ?_⟩
  · by_cases z : s = S
    · rw [z, pk_us]; exact ⟨p, by omega, rfl⟩
    · rw [pk_un z]
      obtain ⟨k, k1, k2⟩ := h1 s (by omega)
      exact ⟨k, by omega, k2⟩
  · by_cases z : s = S <;> by_cases y : s' = S
    · rw [z, y]; exact ⟨fun _ => au_refl _ _, fun _ => rfl⟩
    · rw [z, pk_us, pk_un y]
      exact ⟨fun k => absurd k.symm (ne s' (by omega)), fun k => absurd (au_symm _ _ _ k) (e s' (by omega))⟩
    · rw [y, pk_us, pk_un z]
      exact ⟨fun k => absurd k (ne s (by omega)), fun k => absurd k (e s (by omega))⟩
    · rw [pk_un z, pk_un y]; exact h2 s s' (by omega) (by omega)
end
