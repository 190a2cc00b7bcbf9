/-! sets of spots as numbers, and the least automaton of a pattern -/
def gh_u {α : Type} (f : Nat → α) (m : Nat) (v : α) : Nat → α := fun p => if p = m then v else f p
theorem gh_s {α : Type} {f : Nat → α} {m : Nat} {v : α} : gh_u f m v m = v := if_pos rfl
theorem gh_n {α : Type} {f : Nat → α} {m p : Nat} {v : α} (h : p ≠ m) : gh_u f m v p = f p := if_neg h
theorem bn_bt (n b : Nat) : bt (nI n) b = (decide (b < 32) && n.testBit b) := by
  unfold bt
  show (BitVec.ofNat 32 n).getLsbD b = _
  rw [BitVec.getLsbD_ofNat]
theorem bn_t {n b : Nat} (hb : b < 32) : bt (nI n) b = n.testBit b := by rw [bn_bt, decide_eq_true hb, Bool.true_and]
theorem bn_of {x : Int32} {k : Nat} (h : ∀ b, bt x b = true → b < k) : ∃ m, m < 2 ^ k ∧ x = nI m := by
  refine ⟨x.toBitVec.toNat, ?_, ?_⟩
  · refine Nat.lt_pow_two_of_testBit _ (fun i hi => ?_)
    cases e : x.toBitVec.toNat.testBit i
    · rfl
    · have := h i e
      omega
  · apply b_ext
    intro i hi
    rw [bn_t hi]
    rfl
theorem bn_lt {n k : Nat} (hn : n < 2 ^ k) {b : Nat} (h : bt (nI n) b = true) : b < k := by
  refine Classical.byContradiction fun z => ?_
  rw [bn_bt, Nat.testBit_lt_two_pow (Nat.lt_of_lt_of_le hn (Nat.pow_le_pow_right (by decide) (by omega))), Bool.and_false] at h
  cases h
theorem bn_inj {m n : Nat} (hm : m < 128) (hn : n < 128) (h : ∀ b, b < 7 → (bt (nI m) b = true ↔ bt (nI n) b = true)) : m = n := by
  apply Nat.eq_of_testBit_eq
  intro i
  by_cases z : i < 7
  · have := h i z
    rw [bn_t (by omega), bn_t (by omega)] at this
    cases e1 : m.testBit i <;> cases e2 : n.testBit i
    · rfl
    · rw [e1, e2] at this; exact absurd (this.mpr rfl) (by decide)
    · rw [e1, e2] at this; exact absurd (this.mp rfl) (by decide)
    · rfl
  · have p : 2 ^ 7 ≤ 2 ^ i := Nat.pow_le_pow_right (by decide) (by omega)
    rw [Nat.testBit_lt_two_pow (Nat.lt_of_lt_of_le hm p), Nat.testBit_lt_two_pow (Nat.lt_of_lt_of_le hn p)]
noncomputable def sm_m (P : Nat → Prop) : Nat := (mk_l fun b => b < 7 ∧ P b).toBitVec.toNat
theorem sm_t (P : Nat → Prop) (b : Nat) : (sm_m P).testBit b = true ↔ b < 7 ∧ P b := by
  have e : (sm_m P).testBit b = bl (mk_l fun b => b < 7 ∧ P b) b := rfl
  rw [e]
  by_cases hb : b < 64
  · exact mk_bl _ hb
  · rw [bl_big (by omega)]
    exact ⟨(fun q => by cases q), fun q => by omega⟩
theorem sm_lt {P : Nat → Prop} {k : Nat} (h : ∀ b, P b → b < k) : sm_m P < 2 ^ k := by
  refine Nat.lt_pow_two_of_testBit _ (fun i hi => ?_)
  cases e : (sm_m P).testBit i
  · rfl
  · have := h i ((sm_t P i).mp e).2
    omega
theorem sm_128 (P : Nat → Prop) : sm_m P < 128 := by
  show sm_m P < 2 ^ 7
  refine Nat.lt_pow_two_of_testBit _ (fun i hi => ?_)
  cases e : (sm_m P).testBit i
  · rfl
  · have := ((sm_t P i).mp e).1
    omega
theorem sm_b (P : Nat → Prop) (b : Nat) : bt (nI (sm_m P)) b = true ↔ b < 7 ∧ P b := by
  rw [bn_bt, Bool.and_eq_true, sm_t, decide_eq_true_eq]
  exact ⟨fun q => q.2, fun q => ⟨by omega, q⟩⟩
theorem bn_64 (b : Nat) : bt (nI 64) b = true ↔ b = 6 := by
  have := b_64 b
  have e : (64 : Int32) = nI 64 := rfl
  rw [e] at this
  rw [this, decide_eq_true_eq]
def ap_a (x : gk_T) (a b : Nat) : Prop := (a = 6 ∧ gk_bg x b) ∨ (a < gk_c x ∧ gk_ar x a b)
noncomputable def ap_d (x : gk_T) (m l : Nat) : Nat := sm_m fun b => (∃ a, bt (nI m) a = true ∧ ap_a x a b) ∧ gk_tk x b l
def ap_c (x : gk_T) (m : Nat) : Prop := ∃ b, bt (nI m) b = true ∧ (gk_en x b ∨ (b = 6 ∧ gk_nu x))
/-- the sets that words lead to -/
def ap_R (x : gk_T) (m : Nat) : Prop := ∀ P : Nat → Prop, P 64 → (∀ m l, P m → l < 3 → P (ap_d x m l)) → P m
theorem ap_R0 (x : gk_T) : ap_R x 64 := fun _ h _ => h
theorem ap_R1 {x : gk_T} {m l : Nat} (h : ap_R x m) (hl : l < 3) : ap_R x (ap_d x m l) := fun P h1 h2 => h2 m l (h P h1 h2) hl
theorem ap_d64 {x : gk_T} (hx : gk_wf x) (m l : Nat) : ap_d x m l < 64 ∧ ∀ b, bt (nI (ap_d x m l)) b = true → b < gk_c x := by
  have c6 := hx.1
  constructor
  · show _ < 2 ^ 6
    refine sm_lt fun b hb => ?_
    have := hx.2.2.2.2 b l hb.2
    omega
  · intro b hb
    exact hx.2.2.2.2 b l ((sm_b _ b).mp hb).2.2
theorem ap_Rb {x : gk_T} (hx : gk_wf x) {m : Nat} (h : ap_R x m) : m = 64 ∨ (m < 64 ∧ ∀ b, bt (nI m) b = true → b < gk_c x) :=
  h (fun m => m = 64 ∨ (m < 64 ∧ ∀ b, bt (nI m) b = true → b < gk_c x)) (Or.inl rfl) (fun m l _ _ => Or.inr (ap_d64 hx m l))
theorem ap_R65 {x : gk_T} (hx : gk_wf x) {m : Nat} (h : ap_R x m) : m < 65 := by
  rcases ap_Rb hx h with z | z <;> omega
theorem ap_Rc {x : gk_T} (hx : gk_wf x) {m : Nat} (h : ap_R x m) {b : Nat} (hb : bt (nI m) b = true) : b < gk_c x ∨ b = 6 := by
  rcases ap_Rb hx h with z | z
  · subst z
    exact Or.inr ((bn_64 b).mp hb)
  · exact Or.inl (z.2 b hb)
abbrev ap_e (x : gk_T) : Nat → Nat → Nat → Prop := au_e (ap_d x) (ap_c x)
noncomputable def ap_n (x : gk_T) (n : Nat) : Nat := au_c (ap_d x) (ap_c x) (ap_R x) n
/-- the answer -/
def ap_A (x : gk_T) (r : Int32) : Prop := ∃ k, (∀ j, j < k → ap_n x (j + 1) ≠ ap_n x (j + 2)) ∧ ap_n x (k + 1) = ap_n x (k + 2) ∧ r = nI (ap_n x (k + 2))
theorem ap_A1 {x : gk_T} {r r' : Int32} (h : ap_A x r) (h' : ap_A x r') : r = r' := by
  obtain ⟨k, a1, a2, rfl⟩ := h
  obtain ⟨k', b1, b2, rfl⟩ := h'
  rcases Nat.lt_trichotomy k k' with z | z | z
  · exact absurd a2 (b1 k z)
  · rw [z]
  · exact absurd b2 (a1 k' z)
theorem ap_n65 {x : gk_T} (hx : gk_wf x) (n : Nat) : ap_n x n ≤ 65 := au_65 (fun _ h => ap_R65 hx h) n
theorem ap_n1 {x : gk_T} (hx : gk_wf x) (n : Nat) : 1 ≤ ap_n x n := au_1 (fun _ h => by have := ap_R65 hx h; omega) (ap_R0 x) n
theorem ap_ge {x : gk_T} (hx : gk_wf x) : ∀ k, (∀ j, j < k → ap_n x (j + 1) ≠ ap_n x (j + 2)) → k + 1 ≤ ap_n x (k + 1) := by
  intro k
  induction k with
  | zero => intro _; exact ap_n1 hx 1
  | succ k ih =>
    intro h
    have a := ih fun j hj => h j (by omega)
    have b := h k (by omega)
    have c : ap_n x (k + 1) ≤ ap_n x (k + 2) := au_up (k + 1)
    show k + 2 ≤ ap_n x (k + 2)
    omega
theorem ap_none (n : Nat) : ap_n gk_none n = 1 := by
  have e : ∀ n m m', au_e (ap_d gk_none) (ap_c gk_none) n m m' := by
    have no : ∀ m, ¬ ap_c gk_none m := by
      rintro m ⟨b, _, h | h⟩
      · exact h
      · exact h.2
    intro n
    induction n with
    | zero => intro m m'; exact ⟨fun z => absurd z (no _), fun z => absurd z (no _)⟩
    | succ n ih => intro m m'; exact ⟨ih m m', fun l _ => ih _ _⟩
  have h1 := ap_n1 gk_wf_none n
  have h2 : ap_n gk_none n ≤ cn_c (au_f (au_e (ap_d gk_none) (ap_c gk_none) n) (fun _ => True) (fun _ => 64)) 1 := au_two (au_symm n) (au_trans n) fun i hi hp => ⟨0, by omega, trivial, e n _ _⟩
  have h3 := cn_le (au_f (au_e (ap_d gk_none) (ap_c gk_none) n) (fun _ => True) (fun _ => 64)) 1
  omega
theorem ap_Anone : ap_A gk_none 1 := ⟨0, fun j hj => absurd hj (Nat.not_lt_zero _), by rw [ap_none, ap_none], by rw [ap_none]; rfl⟩
/-- numbers that differ, below a bound -/
theorem ls_le {q : Nat → Nat} {L M : Nat} (h1 : ∀ i, i < L → q i < M) (h2 : ∀ i j, i < L → j < L → q i = q j → i = j) : L ≤ M := by
  have h := cn_inj (P := fun _ => True) (Q := fun _ => True) (N := L) (M := M) q (fun k hk _ => ⟨h1 k hk, trivial⟩) (fun k l hk hl _ _ e => h2 k l hk hl e)
  have t : ∀ n, cn_c (fun _ => True) n = n := by
    intro n
    induction n with
    | zero => rfl
    | succ n ih =>
      show cn_c (fun _ => True) n + cn_b True = n + 1
      rw [ih, cn_bt trivial]
  rw [t, t] at h
  exact h
/-- seven bits behind -/
theorem sh_or {a b : Nat} (ha : a < 2 ^ 21) (hb : b < 128) : (nI a <<< ((7 : Int32) &&& 31)) ||| nI b = nI (a * 128 + b) := by
  have e : (nI a <<< ((7 : Int32) &&& 31)) = nI (a * 2 ^ 7) := pk_shlN _ 7 (by decide) (by omega)
  rw [e]
  apply b_ext
  intro i hi
  rw [b_or, bn_t hi, bn_t hi, bn_t hi]
  have h := Nat.testBit_two_pow_mul_add a (b := b) (i := 7) hb i
  have h0 := Nat.testBit_two_pow_mul_add a (b := 0) (i := 7) (by decide) i
  rw [Nat.mul_comm] at h h0
  rw [show a * 128 + b = a * 2 ^ 7 + b from rfl, h]
  rw [Nat.add_zero] at h0
  rw [h0]
  by_cases z : i < 7
  · rw [if_pos z, if_pos z, Nat.zero_testBit, Bool.false_or]
  · rw [if_neg z, if_neg z, Nat.testBit_lt_two_pow (Nat.lt_of_lt_of_le (show b < 2 ^ 7 from hb) (Nat.pow_le_pow_right (by decide) (by omega))), Bool.or_false]
/-- the component's groups and marks -/
def xa_G (x : gk_T) (n : Nat) (G : Nat → Int32) : Prop := ∀ m, m < 128 → (¬ ap_R x m → G m = -1) ∧ (ap_R x m → ∃ k, k < 128 ∧ G m = nI k) ∧ ∀ m', m' < 128 → ap_R x m → ap_R x m' → (G m = G m' ↔ ap_e x n m m')
def xa_M (x : gk_T) (n : Nat) (M : Nat → Int32) : Prop := ∀ m, m < 128 → (¬ ap_R x m → M m = -1) ∧ (ap_R x m → ∃ k, k < 2 ^ 28 ∧ M m = nI k) ∧ ∀ m', m' < 128 → ap_R x m → ap_R x m' → (M m = M m' ↔ ap_e x (n + 1) m m')
noncomputable def xa_k (x : gk_T) (k : Nat → Nat) (m : Nat) : Nat → Nat
  | 0 => k m
  | l + 1 => xa_k x k m l * 128 + k (ap_d x m l)
theorem xa_kb {x : gk_T} {k : Nat → Nat} (hk : ∀ m, k m < 128) (m : Nat) : xa_k x k m 0 < 2 ^ 7 ∧ xa_k x k m 1 < 2 ^ 14 ∧ xa_k x k m 2 < 2 ^ 21 ∧ xa_k x k m 3 < 2 ^ 28 := by
  have h0 := hk m
  have h1 := hk (ap_d x m 0)
  have h2 := hk (ap_d x m 1)
  have h3 := hk (ap_d x m 2)
  have e1 : xa_k x k m 1 = k m * 128 + k (ap_d x m 0) := rfl
  have e2 : xa_k x k m 2 = xa_k x k m 1 * 128 + k (ap_d x m 1) := rfl
  have e3 : xa_k x k m 3 = xa_k x k m 2 * 128 + k (ap_d x m 2) := rfl
  have e0 : xa_k x k m 0 = k m := rfl
  rw [e0]
  refine ⟨by omega, by omega, by omega, by omega⟩
theorem xa_ke {x : gk_T} {k : Nat → Nat} (hk : ∀ m, k m < 128) {m m' : Nat} : xa_k x k m 3 = xa_k x k m' 3 ↔ k m = k m' ∧ ∀ l, l < 3 → k (ap_d x m l) = k (ap_d x m' l) := by
  have h1 := hk (ap_d x m 0)
  have h2 := hk (ap_d x m 1)
  have h3 := hk (ap_d x m 2)
  have g1 := hk (ap_d x m' 0)
  have g2 := hk (ap_d x m' 1)
  have g3 := hk (ap_d x m' 2)
  have e3 : xa_k x k m 3 = ((k m * 128 + k (ap_d x m 0)) * 128 + k (ap_d x m 1)) * 128 + k (ap_d x m 2) := rfl
  have f3 : xa_k x k m' 3 = ((k m' * 128 + k (ap_d x m' 0)) * 128 + k (ap_d x m' 1)) * 128 + k (ap_d x m' 2) := rfl
  constructor
  · intro e
    rw [e3, f3] at e
    refine ⟨by omega, fun l hl => ?_⟩
    have hl : l = 0 ∨ l = 1 ∨ l = 2 := by omega
    rcases hl with rfl | rfl | rfl <;> omega
  · rintro ⟨a, b⟩
    rw [e3, f3, a, b 0 (by omega), b 1 (by omega), b 2 (by omega)]
