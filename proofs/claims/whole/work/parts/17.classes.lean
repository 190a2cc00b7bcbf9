/-! sets of spots told apart by words of up to n letters, and how many classes there are -/
def au_e (δ : Nat → Nat → Nat) (ac : Nat → Prop) : Nat → Nat → Nat → Prop
  | 0 => fun m m' => (ac m ↔ ac m')
  | n + 1 => fun m m' => au_e δ ac n m m' ∧ ∀ l, l < 3 → au_e δ ac n (δ m l) (δ m' l)
theorem au_refl {δ : Nat → Nat → Nat} {ac : Nat → Prop} : ∀ n m, au_e δ ac n m m := by
  intro n
  induction n with
  | zero => intro m; exact Iff.rfl
  | succ n ih => intro m; exact ⟨ih m, fun l _ => ih _⟩
theorem au_symm {δ : Nat → Nat → Nat} {ac : Nat → Prop} : ∀ n m m', au_e δ ac n m m' → au_e δ ac n m' m := by
  intro n
  induction n with
  | zero => intro m m' h; exact Iff.symm h
  | succ n ih => intro m m' h; exact ⟨ih _ _ h.1, fun l hl => ih _ _ (h.2 l hl)⟩
theorem au_trans {δ : Nat → Nat → Nat} {ac : Nat → Prop} : ∀ n a b c, au_e δ ac n a b → au_e δ ac n b c → au_e δ ac n a c := by
  intro n
  induction n with
  | zero => intro a b c h1 h2; exact Iff.trans h1 h2
  | succ n ih => intro a b c h1 h2; exact ⟨ih _ _ _ h1.1 h2.1, fun l hl => ih _ _ _ (h1.2 l hl) (h2.2 l hl)⟩
/-- those that are the first of their kind, in a list p -/
def au_f (E : Nat → Nat → Prop) (P : Nat → Prop) (p : Nat → Nat) (i : Nat) : Prop := P i ∧ ∀ i', i' < i → P i' → ¬ E (p i') (p i)
theorem au_two {E : Nat → Nat → Prop} (sy : ∀ a b, E a b → E b a) (tr : ∀ a b c, E a b → E b c → E a c) {P Q : Nat → Prop} {p q : Nat → Nat} {N M : Nat}
    (h : ∀ i, i < N → P i → ∃ j, j < M ∧ Q j ∧ E (p i) (q j)) : cn_c (au_f E P p) N ≤ cn_c (au_f E Q q) M := by
  have ex : ∀ i, ∃ j, i < N → P i → (j < M ∧ Q j ∧ E (p i) (q j)) ∧ ∀ j', j' < j → ¬ (j' < M ∧ Q j' ∧ E (p i) (q j')) := by
    intro i
    rcases Classical.em (i < N ∧ P i) with z | z
    · obtain ⟨j, h1, h2⟩ := pk_least (fun j => j < M ∧ Q j ∧ E (p i) (q j)) (h i z.1 z.2)
      exact ⟨j, fun _ _ => ⟨h1, h2⟩⟩
    · exact ⟨0, fun h1 h2 => absurd ⟨h1, h2⟩ z⟩
  obtain ⟨f, hf⟩ : ∃ f : Nat → Nat, ∀ i, i < N → P i → (f i < M ∧ Q (f i) ∧ E (p i) (q (f i))) ∧ ∀ j', j' < f i → ¬ (j' < M ∧ Q j' ∧ E (p i) (q j')) := ⟨fun i => Classical.choose (ex i), fun i => Classical.choose_spec (ex i)⟩
  refine cn_inj f (fun i hi hp => ?_) (fun i l hi hl hp hq e => ?_)
  · obtain ⟨⟨a, b, c⟩, d⟩ := hf i hi hp.1
    refine ⟨a, b, fun j' hj' hq he => d j' hj' ⟨by omega, hq, ?_⟩⟩
    exact tr _ _ _ c (sy _ _ he)
  · obtain ⟨⟨a, b, c⟩, _⟩ := hf i hi hp.1
    obtain ⟨⟨a', b', c'⟩, _⟩ := hf l hl hq.1
    rw [e] at c
    have c3 := tr _ _ _ c (sy _ _ c')
    rcases Nat.lt_trichotomy i l with z | z | z
    · exact absurd c3 (hq.2 i z hp.1)
    · exact z
    · exact absurd (sy _ _ c3) (hp.2 l z hq.1)
noncomputable def au_c (δ : Nat → Nat → Nat) (ac : Nat → Prop) (R : Nat → Prop) (n : Nat) : Nat := cn_c (au_f (au_e δ ac n) R (fun m => m)) 128
theorem au_list {δ : Nat → Nat → Nat} {ac : Nat → Prop} {R : Nat → Prop} {q : Nat → Nat} {N : Nat} (hR : ∀ m, R m → m < 128) (h1 : ∀ s, s < N → R (q s)) (h2 : ∀ m, R m → ∃ s, s < N ∧ q s = m) (n : Nat) :
    cn_c (au_f (au_e δ ac n) (fun _ => True) q) N = au_c δ ac R n := by
  apply Nat.le_antisymm
  · exact au_two (au_symm n) (au_trans n) (fun i hi _ => ⟨q i, hR _ (h1 i hi), h1 i hi, au_refl n _⟩)
  · refine au_two (au_symm n) (au_trans n) (fun m _ hm => ?_)
    obtain ⟨s, a, b⟩ := h2 m hm
    exact ⟨s, a, trivial, by rw [b]; exact au_refl n _⟩
theorem au_up {δ : Nat → Nat → Nat} {ac : Nat → Prop} {R : Nat → Prop} (n : Nat) : au_c δ ac R n ≤ au_c δ ac R (n + 1) :=
  cn_mono fun _ _ h => ⟨h.1, fun i' hi hp he => h.2 i' hi hp he.1⟩
theorem au_65 {δ : Nat → Nat → Nat} {ac : Nat → Prop} {R : Nat → Prop} (hR : ∀ m, R m → m < 65) (n : Nat) : au_c δ ac R n ≤ 65 := by
  refine Nat.le_trans (cn_inj (M := 65) (Q := fun _ => True) (fun m => m) (fun m _ h => ⟨hR m h.1, trivial⟩) (fun _ _ _ _ _ _ e => e)) (cn_le _ 65)
theorem au_1 {δ : Nat → Nat → Nat} {ac : Nat → Prop} {R : Nat → Prop} {m : Nat} (hR : ∀ m, R m → m < 128) (hm : R m) (n : Nat) : 1 ≤ au_c δ ac R n := by
  have := au_list (δ := δ) (ac := ac) (R := fun k => k = m) (q := fun _ => m) (N := 1) (by rintro k rfl; exact hR _ hm) (fun _ _ => rfl) (by rintro k rfl; exact ⟨0, by omega, rfl⟩) n
  have h2 : au_c δ ac (fun k => k = m) n ≤ au_c δ ac R n := au_two (au_symm n) (au_trans n) (by rintro i hi rfl; exact ⟨i, hi, hm, au_refl n _⟩)
  have h3 : cn_c (au_f (au_e δ ac n) (fun _ => True) (fun _ => m)) 1 = 1 := by
    show 0 + cn_b _ = 1
    rw [cn_bt]
    exact ⟨trivial, fun i' hi => absurd hi (Nat.not_lt_zero _)⟩
  omega
