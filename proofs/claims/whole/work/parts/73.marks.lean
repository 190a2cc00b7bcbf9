/-! the component's marks, and its new groups -/
section
variable {x : gk_T} {n : Nat}
theorem xa_kk {G : Nat → Int32} (h : xa_G x n G) : ∃ kk : Nat → Nat, (∀ m, kk m < 128) ∧ ∀ m, m < 128 → ap_R x m → G m = nI (kk m) := by
  have ex : ∀ m, ∃ k, k < 128 ∧ (m < 128 → ap_R x m → G m = nI k) := by
    intro m
    rcases Classical.em (m < 128 ∧ ap_R x m) with z | z
    · obtain ⟨k, a, b⟩ := (h m z.1).2.1 z.2
      exact ⟨k, a, fun _ _ => b⟩
    · exact ⟨0, by omega, fun a b => absurd ⟨a, b⟩ z⟩
  exact ⟨fun m => Classical.choose (ex m), fun m => (Classical.choose_spec (ex m)).1, fun m => (Classical.choose_spec (ex m)).2⟩
theorem xa_GM (hx : gk_wf x) {G M : Nat → Int32} {kk : Nat → Nat} (hG : xa_G x n G) (hk : ∀ m, kk m < 128) (hk2 : ∀ m, m < 128 → ap_R x m → G m = nI (kk m)) (hM : ∀ m, m < 128 → (ap_R x m → M m = nI (xa_k x kk m 3)) ∧ (¬ ap_R x m → M m = -1)) : xa_M x n M := by
  have ke : ∀ m m', m < 128 → m' < 128 → ap_R x m → ap_R x m' → (kk m = kk m' ↔ ap_e x n m m') := by
    intro m m' hm hm' r r'
    rw [← (hG m hm).2.2 m' hm' r r', hk2 m hm r, hk2 m' hm' r', nI_eq (by have := hk m; omega) (by have := hk m'; omega)]
  intro m hm
  refine ⟨(hM m hm).2, fun r => ⟨_, (xa_kb hk m).2.2.2, (hM m hm).1 r⟩, fun m' hm' r r' => ?_⟩
  rw [(hM m hm).1 r, (hM m' hm').1 r', nI_eq (by have := (xa_kb (x := x) hk m).2.2.2; omega) (by have := (xa_kb (x := x) hk m').2.2.2; omega), xa_ke hk, ke m m' hm hm' r r']
  have s : ∀ l, l < 3 → (kk (ap_d x m l) = kk (ap_d x m' l) ↔ ap_e x n (ap_d x m l) (ap_d x m' l)) := fun l hl => ke _ _ (sm_128 _) (sm_128 _) (ap_R1 r hl) (ap_R1 r' hl)
  exact ⟨fun z => ⟨z.1, fun l hl => (s l hl).mp (z.2 l hl)⟩, fun z => ⟨z.1, fun l hl => (s l hl).mpr (z.2 l hl)⟩⟩
theorem xa_R {M : Nat → Int32} (hM : xa_M x n M) {m k : Nat} (hm : m < 128) (hr : ap_R x m) (hk : k < 128) (e : M k = M m) : ap_R x k := by
  refine Classical.byContradiction fun z => ?_
  obtain ⟨j, j1, j2⟩ := (hM m hm).2.1 hr
  rw [(hM k hk).1 z, j2] at e
  exact nI_nm (by omega) e.symm
theorem xa_first {M : Nat → Int32} (hM : xa_M x n M) {m k : Nat} (hm : m < 128) (hr : ap_R x m) (hk : k ≤ m) (e : M k = M m) (hl : ∀ j, j < k → M j ≠ M m) : k = m ↔ au_f (ap_e x (n + 1)) (ap_R x) (fun m => m) m := by
  constructor
  · rintro rfl
    refine ⟨hr, fun i hi ri ei => hl i hi ?_⟩
    exact ((hM i (by omega)).2.2 k hm ri hr).mpr ei
  · rintro ⟨_, h⟩
    refine Classical.byContradiction fun z => ?_
    have rk := xa_R hM hm hr (by omega) e
    exact h k (by omega) rk (((hM k (by omega)).2.2 m hm rk hr).mp e)
theorem xa_MG {M G : Nat → Int32} (hM : xa_M x n M) (hG : ∀ m, m < 128 → (¬ ap_R x m → G m = -1) ∧ (ap_R x m → ∃ k, k ≤ m ∧ G m = nI k ∧ M k = M m ∧ ∀ j, j < k → M j ≠ M m)) : xa_G x (n + 1) G := by
  intro m hm
  refine ⟨(hG m hm).1, fun r => ?_, fun m' hm' r r' => ?_⟩
  · obtain ⟨k, a, b, _⟩ := (hG m hm).2 r
    exact ⟨k, by omega, b⟩
  · obtain ⟨k, a, b, c, d⟩ := (hG m hm).2 r
    obtain ⟨k', a', b', c', d'⟩ := (hG m' hm').2 r'
    rw [b, b', nI_eq (by omega) (by omega), ← (hM m hm).2.2 m' hm' r r']
    constructor
    · intro e
      rw [← c, e, c']
    · intro e
      rcases Nat.lt_trichotomy k k' with z | z | z
      · exact absurd (c.trans e) (d' k z)
      · exact z
      · exact absurd (c'.trans e.symm) (d k' z)
end
