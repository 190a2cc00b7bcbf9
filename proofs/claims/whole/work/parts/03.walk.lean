/-! indices and stretches of arrays -/
theorem ix_m (a k b : Nat) : nI a * nI k + nI b = nI (a * k + b) := by rw [pk_mul, nI_add]
theorem ix_7 (p i : Nat) : nI p * 7 + nI i = nI (p * 7 + i) := ix_m p 7 i
theorem ix_3 (p i : Nat) : nI p * 3 + nI i = nI (p * 3 + i) := ix_m p 3 i
theorem ix_4 (p i : Nat) : nI p * 4 + nI i = nI (p * 4 + i) := ix_m p 4 i
theorem ix_5 (p i : Nat) : nI p * 5 + nI i = nI (p * 5 + i) := ix_m p 5 i
theorem ix_l (k p i : Nat) : nI k * nI p + nI i = nI (p * k + i) := by rw [ix_m, Nat.mul_comm]
theorem ix_25 (p i : Nat) : 25 * nI p + nI i = nI (p * 25 + i) := ix_l 25 p i
theorem ix_l4 (p i : Nat) : 4 * nI p + nI i = nI (p * 4 + i) := ix_l 4 p i
theorem ix_l3 (p i : Nat) : 3 * nI p + nI i = nI (p * 3 + i) := ix_l 3 p i
theorem ix_l5 (p i : Nat) : 5 * nI p + nI i = nI (p * 5 + i) := ix_l 5 p i
theorem ix_8 (i : Nat) : 8 + nI i = nI (8 + i) := nI_add 8 i
/-- the array with the n values v at b, b + 1 .. -/
def ax_set {α : Type} (a : Nat → α) (b n : Nat) (v : Nat → α) : Nat → α := fun j => if b ≤ j ∧ j < b + n then v (j - b) else a j
theorem ax_0 {α : Type} (a : Nat → α) (b : Nat) (v : Nat → α) : ax_set a b 0 v = a := by
  funext j
  exact if_neg (by omega)
theorem ax_s (a : Nat → Int32) (b n : Nat) (v : Nat → Int32) : upd (ax_set a b n v) (b + n) (v n) = ax_set a b (n + 1) v := by
  funext j
  unfold upd ax_set
  by_cases h : j = b + n
  · subst h
    rw [if_pos rfl, if_pos (by omega), Nat.add_sub_cancel_left]
  · rw [if_neg h]
    by_cases h2 : b ≤ j ∧ j < b + n
    · rw [if_pos h2, if_pos (by omega)]
    · rw [if_neg h2, if_neg (by omega)]
theorem ax_sL (a : Nat → Int64) (b n : Nat) (v : Nat → Int64) : vp_updL (ax_set a b n v) (b + n) (v n) = ax_set a b (n + 1) v := by
  funext j
  unfold vp_updL ax_set
  by_cases h : j = b + n
  · subst h
    rw [if_pos rfl, if_pos (by omega), Nat.add_sub_cancel_left]
  · rw [if_neg h]
    by_cases h2 : b ≤ j ∧ j < b + n
    · rw [if_pos h2, if_pos (by omega)]
    · rw [if_neg h2, if_neg (by omega)]
theorem ax_in {α : Type} {a : Nat → α} {b n j : Nat} {v : Nat → α} (h : j < n) : ax_set a b n v (b + j) = v j := by
  unfold ax_set
  rw [if_pos (by omega), Nat.add_sub_cancel_left]
theorem ax_out {α : Type} {a : Nat → α} {b n j : Nat} {v : Nat → α} (h : j < b ∨ b + n ≤ j) : ax_set a b n v j = a j := if_neg (by omega)
theorem ax_up (a : Nat → Int32) (k : Nat) (x : Int32) (j : Nat) : upd a k x j = if j = k then x else a j := rfl
theorem ax_upL (a : Nat → Int64) (k : Nat) (x : Int64) (j : Nat) : vp_updL a k x j = if j = k then x else a j := rfl
