/-! the longest word and the tokens, told purely -/
theorem gk_it_c {R : Nat → Nat → Prop} {i m : Nat} (h : R i m) : ∀ c j, gk_it R c m j → gk_it R (c + 1) i j := by
  intro c
  induction c with
  | zero => intro j z; have z : m = j := z; subst z; exact ⟨i, rfl, h⟩
  | succ c ih => intro j z; obtain ⟨k, a, b⟩ := z; exact ⟨k, ih k a, b⟩
theorem gk_it_u {R : Nat → Nat → Prop} {i : Nat} : ∀ c j, gk_it R (c + 1) i j → ∃ m, R i m ∧ gk_it R c m j := by
  intro c
  induction c with
  | zero => intro j z; obtain ⟨k, a, b⟩ := z; have a : i = k := a; subst a; exact ⟨j, b, rfl⟩
  | succ c ih =>
    intro j z
    obtain ⟨k, a, b⟩ := z
    obtain ⟨m, e, f⟩ := ih k a
    exact ⟨m, e, k, f, b⟩
theorem gk_swap {R : Nat → Nat → Prop} {i j : Nat} : (∃ m, R i m ∧ gk_star R m j) ↔ ∃ k, gk_star R i k ∧ R k j := by
  constructor
  · rintro ⟨m, h, c, hc⟩
    obtain ⟨k, a, b⟩ := gk_it_c h c j hc
    exact ⟨k, ⟨c, a⟩, b⟩
  · rintro ⟨k, ⟨c, hc⟩, h⟩
    obtain ⟨m, a, b⟩ := gk_it_u c j ⟨k, hc, h⟩
    exact ⟨m, a, c, b⟩
theorem gk_short {R : Nat → Nat → Prop} (hR : ∀ i j, R i j → i ≤ j) {i : Nat} : ∀ l j, j - i ≤ l → gk_star R i j → ∃ c, c ≤ l ∧ gk_it R c i j := by
  intro l
  induction l with
  | zero =>
    intro j hl h
    have := gk_star_le hR h
    have e : i = j := by omega
    exact ⟨0, Nat.le_refl _, e⟩
  | succ l ih =>
    intro j hl h
    have hle := gk_star_le hR h
    rcases Nat.lt_or_ge i j with z | z
    · obtain ⟨k, a, b, c⟩ := gk_star_last hR h z
      obtain ⟨d, d1, d2⟩ := ih k (by omega) a
      exact ⟨d + 1, by omega, k, d2, c⟩
    · have e : i = j := by omega
      exact ⟨0, by omega, e⟩
theorem gk_acc_no {t : Nat → Nat} {i j : Nat} : ¬ gk_acc gk_none t i j := by
  intro h
  rcases h.2 with ⟨_, z⟩ | ⟨b, _, z⟩ <;> exact z.elim
/-- the length of the longest word of at most m letters from a place -/
noncomputable def lg_w (A : Nat → Prop) (place : Nat) : Nat → Nat
  | 0 => 0
  | m + 1 => @ite Nat (A (place + (m + 1))) (Classical.propDecidable _) (m + 1) (lg_w A place m)
theorem lg_w_le {A : Nat → Prop} {place : Nat} : ∀ m, lg_w A place m ≤ m := by
  intro m
  induction m with
  | zero => exact Nat.le_refl _
  | succ m ih =>
    show @ite Nat (A (place + (m + 1))) (Classical.propDecidable _) (m + 1) (lg_w A place m) ≤ m + 1
    split <;> omega
theorem lg_w_s {A : Nat → Prop} {place m : Nat} (h : A (place + (m + 1))) : lg_w A place (m + 1) = m + 1 := if_pos h
theorem lg_w_n {A : Nat → Prop} {place m : Nat} (h : ¬ A (place + (m + 1))) : lg_w A place (m + 1) = lg_w A place m := if_neg h
section
variable (kd : Nat → gk_T) (t : Nat → Nat) (n : Nat)
/-- the longest word of kind k at a place -/
noncomputable def ct_l (k place : Nat) : Nat := lg_w (fun j => gk_acc (kd k) t place j) place (n - place)
noncomputable def ct_1 (place : Nat) : Nat := if ct_l kd t n 1 place ≤ ct_l kd t n 0 place then 0 else 1
noncomputable def ct_k (place : Nat) : Nat := if ct_l kd t n 2 place ≤ ct_l kd t n (ct_1 kd t n place) place then ct_1 kd t n place else 2
noncomputable def ct_n (place : Nat) : Nat := ct_l kd t n (ct_k kd t n place) place
/-- the place of token c -/
noncomputable def ct_p : Nat → Nat
  | 0 => 0
  | c + 1 => ct_p c + ct_n kd t n (ct_p c)
/-- c tokens, and no more -/
def ct_C (c : Nat) : Prop := (∀ i, i < c → ct_p kd t n i < n ∧ ct_n kd t n (ct_p kd t n i) ≠ 0) ∧ (n ≤ ct_p kd t n c ∨ ct_n kd t n (ct_p kd t n c) = 0)
noncomputable def ct_w (c : Nat) : Int32 := if ct_p kd t n c < n then nI (ct_p kd t n c) else -4
end
section
variable {kd : Nat → gk_T} {t : Nat → Nat} {n : Nat}
theorem ct_k3 (place : Nat) : ct_k kd t n place < 3 := by
  have : ct_1 kd t n place < 3 := by unfold ct_1; split <;> omega
  unfold ct_k
  split <;> omega
theorem ct_n_le (place : Nat) : ct_n kd t n place ≤ n - place := lg_w_le _
theorem ct_C_one {c d : Nat} (h : ct_C kd t n c) (h' : ct_C kd t n d) : c = d := by
  rcases Nat.lt_trichotomy c d with z | z | z
  · have a := h'.1 c z
    rcases h.2 with b | b
    · omega
    · exact absurd b a.2
  · exact z
  · have a := h.1 d z
    rcases h'.2 with b | b
    · omega
    · exact absurd b a.2
theorem ct_p_ge {c : Nat} (h : ∀ i, i < c → ct_p kd t n i < n ∧ ct_n kd t n (ct_p kd t n i) ≠ 0) : c ≤ ct_p kd t n c ∧ ct_p kd t n c ≤ n ∧ ∀ i, i < c → ct_p kd t n i < ct_p kd t n (i + 1) := by
  induction c with
  | zero => exact ⟨Nat.le_refl _, Nat.zero_le _, fun i hi => absurd hi (Nat.not_lt_zero i)⟩
  | succ c ih =>
    obtain ⟨a, b, d⟩ := ih (fun i hi => h i (by omega))
    have e := h c (by omega)
    have f := ct_n_le (kd := kd) (t := t) (n := n) (ct_p kd t n c)
    have g : ct_p kd t n (c + 1) = ct_p kd t n c + ct_n kd t n (ct_p kd t n c) := rfl
    refine ⟨by omega, by omega, fun i hi => ?_⟩
    rcases Nat.lt_or_ge i c with z | z
    · exact d i z
    · have : i = c := by omega
      subst this
      omega
theorem ct_C_24 {c : Nat} (hn : n ≤ 24) (h : ∀ i, i < c → ct_p kd t n i < n ∧ ct_n kd t n (ct_p kd t n i) ≠ 0) : c ≤ 24 := by
  have := ct_p_ge h
  omega
end
