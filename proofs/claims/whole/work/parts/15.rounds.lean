/-! a search in rounds of m steps: step k leaves the state alone (sat k s) or makes its count c grow; after m * B steps nothing is left to do -/
def rd_J {σ : Type} (m : Nat) (sat : Nat → σ → Prop) (c : σ → Nat) (n : Nat) (s : σ) : Prop :=
  (∀ k, k < m → sat k s) ∨ ∃ a, a ≤ n ∧ n - a < m ∧ a ≤ m * c s ∧ ∀ i, a ≤ i → i < n → sat (i % m) s
theorem rd_0 {σ : Type} {m : Nat} {sat : Nat → σ → Prop} {c : σ → Nat} {s : σ} (hm : 0 < m) : rd_J m sat c 0 s :=
  Or.inr ⟨0, Nat.le_refl _, by omega, Nat.zero_le _, fun i _ h => absurd h (Nat.not_lt_zero i)⟩
theorem rd_cov {m a k : Nat} (hk : k < m) : ∃ i, a ≤ i ∧ i < a + m ∧ i % m = k := by
  have hm : 0 < m := by omega
  have ha := Nat.mod_lt a hm
  have hd := Nat.div_add_mod a m
  rcases Nat.lt_or_ge k (a % m) with h | h
  · refine ⟨m * (a / m) + m + k, by omega, by omega, ?_⟩
    rw [show m * (a / m) + m + k = k + m * (a / m + 1) by rw [Nat.mul_add]; omega, Nat.add_mul_mod_self_left, Nat.mod_eq_of_lt hk]
  · refine ⟨m * (a / m) + k, by omega, by omega, ?_⟩
    rw [show m * (a / m) + k = k + m * (a / m) by omega, Nat.add_mul_mod_self_left, Nat.mod_eq_of_lt hk]
theorem rd_keep {σ : Type} {m n : Nat} {sat : Nat → σ → Prop} {c : σ → Nat} {s : σ} (hm : 0 < m) (h : rd_J m sat c n s) (hs : sat (n % m) s) : rd_J m sat c (n + 1) s := by
  rcases h with h | ⟨a, h1, h2, h3, h4⟩
  · exact Or.inl h
  · have h5 : ∀ i, a ≤ i → i < n + 1 → sat (i % m) s := by
      intro i hi hn
      rcases Nat.lt_or_ge i n with z | z
      · exact h4 i hi z
      · have e : i = n := by omega
        subst e; exact hs
    rcases Nat.lt_or_ge (n + 1 - a) m with z | z
    · exact Or.inr ⟨a, by omega, z, h3, h5⟩
    · refine Or.inl fun k hk => ?_
      obtain ⟨i, b1, b2, b3⟩ := rd_cov (a := a) hk
      rw [← b3]
      exact h5 i b1 (by omega)
theorem rd_grow {σ : Type} {m n : Nat} {sat : Nat → σ → Prop} {c : σ → Nat} {s s' : σ} (hm : 0 < m) (h : rd_J m sat c n s) (hs : ¬ sat (n % m) s) (hc : c s < c s') : rd_J m sat c (n + 1) s' := by
  rcases h with h | ⟨a, h1, h2, h3, h4⟩
  · exact absurd (h _ (Nat.mod_lt _ hm)) hs
  · refine Or.inr ⟨n + 1, Nat.le_refl _, by omega, ?_, fun i h1 h2 => by omega⟩
    have : m * c s + m ≤ m * c s' := by rw [← Nat.mul_succ]; exact Nat.mul_le_mul_left _ hc
    omega
theorem rd_end {σ : Type} {m n B : Nat} {sat : Nat → σ → Prop} {c : σ → Nat} {s : σ} (h : rd_J m sat c n s) (hB : c s ≤ B) (hn : m * B ≤ n) (hfull : c s = B → ∀ k, k < m → sat k s) : ∀ k, k < m → sat k s := by
  rcases h with h | ⟨a, h1, h2, h3, h4⟩
  · exact h
  · rcases Nat.lt_or_ge (c s) B with z | z
    · have : m * c s + m ≤ m * B := by rw [← Nat.mul_succ]; exact Nat.mul_le_mul_left _ z
      omega
    · exact hfull (by omega)
/-! the numbers of two sets, one sent into the other -/
theorem cn_del {Q : Nat → Prop} {y : Nat} (hy : Q y) : ∀ {M : Nat}, y < M → cn_c Q M = cn_c (fun k => Q k ∧ k ≠ y) M + 1
  | 0, h => by omega
  | M + 1, h => by
    simp only [cn_c]
    rcases Nat.lt_or_ge y M with z | z
    · rw [cn_del hy z]
      have : cn_b (Q M) = cn_b (Q M ∧ M ≠ y) := Nat.le_antisymm (cn_bm fun q => ⟨q, by omega⟩) (cn_bm fun q => q.1)
      omega
    · have e : y = M := by omega
      subst e
      rw [cn_eq (P := Q) (Q := fun k => Q k ∧ k ≠ y) (fun k hk => ⟨fun q => ⟨q, by omega⟩, fun q => q.1⟩), cn_bt hy, cn_bf (P := Q y ∧ y ≠ y) (fun q => q.2 rfl)]
theorem cn_inj {P : Nat → Prop} {M : Nat} (f : Nat → Nat) : ∀ {N : Nat} {Q : Nat → Prop}, (∀ k, k < N → P k → f k < M ∧ Q (f k)) → (∀ k l, k < N → l < N → P k → P l → f k = f l → k = l) → cn_c P N ≤ cn_c Q M
  | 0, _, _, _ => Nat.zero_le _
  | N + 1, Q, h1, h2 => by
    simp only [cn_c]
    rcases Classical.em (P N) with z | z
    · obtain ⟨a, b⟩ := h1 N (by omega) z
      rw [cn_bt z, cn_del b a]
      have := cn_inj f (N := N) (Q := fun k => Q k ∧ k ≠ f N) (fun k hk hp => ⟨(h1 k (by omega) hp).1, (h1 k (by omega) hp).2, fun e => by
        have := h2 k N (by omega) (by omega) hp z e
        omega⟩) (fun k l hk hl hp hq e => h2 k l (by omega) (by omega) hp hq e)
      omega
    · rw [cn_bf z]
      exact cn_inj f (N := N) (Q := Q) (fun k hk hp => h1 k (by omega) hp) (fun k l hk hl hp hq e => h2 k l (by omega) (by omega) hp hq e)
