/-! Int64 by its bits -/
def bl (x : Int64) (i : Nat) : Bool := x.toBitVec.getLsbD i
theorem bl_ext {x y : Int64} (h : ∀ i, i < 64 → bl x i = bl y i) : x = y := Int64.toBitVec_inj.mp (BitVec.eq_of_getLsbD_eq (fun i hi => h i hi))
theorem bl_or (x y : Int64) (i : Nat) : bl (x ||| y) i = (bl x i || bl y i) := by unfold bl; rw [Int64.toBitVec_or, BitVec.getLsbD_or]
theorem bl_and (x y : Int64) (i : Nat) : bl (x &&& y) i = (bl x i && bl y i) := by unfold bl; rw [Int64.toBitVec_and, BitVec.getLsbD_and]
theorem bl_xor (x y : Int64) (i : Nat) : bl (x ^^^ y) i = (bl x i ^^ bl y i) := by unfold bl; rw [Int64.toBitVec_xor, BitVec.getLsbD_xor]
theorem bl_big {x : Int64} {i : Nat} (h : 64 ≤ i) : bl x i = false := BitVec.getLsbD_of_ge _ _ h
theorem bl_0 (i : Nat) : bl 0 i = false := BitVec.getLsbD_zero
theorem bl_m1 : ∀ i, i < 64 → bl (-1) i = true := by decide +kernel
theorem bl_not (x : Int64) {i : Nat} (hi : i < 64) : bl (x ^^^ (-1)) i = !bl x i := by rw [bl_xor, bl_m1 i hi]; cases bl x i <;> rfl
theorem bl_s : ∀ n, n < 64 → (((nI n).toInt64 &&& 63).toBitVec.smod 64).toNat = n := by decide +kernel
theorem bl_shl (n : Nat) (hn : n < 64) (x : Int64) {i : Nat} (hi : i < 64) : bl (x <<< ((nI n).toInt64 &&& 63)) i = (decide (n ≤ i) && bl x (i - n)) := by
  unfold bl
  rw [Int64.toBitVec_shiftLeft]
  show (x.toBitVec <<< (((nI n).toInt64 &&& 63).toBitVec.smod 64).toNat).getLsbD i = _
  rw [bl_s n hn, BitVec.getLsbD_shiftLeft]
  rcases Nat.lt_or_ge i n with h | h
  · simp [h, Nat.not_le.mpr h]
  · simp [hi, h, Nat.not_lt.mpr h]
theorem bl_sshr (n : Nat) (hn : n < 64) (x : Int64) {i : Nat} (hi : i < 64) : bl (x >>> ((nI n).toInt64 &&& 63)) i = if n + i < 64 then bl x (n + i) else bl x 63 := by
  unfold bl
  rw [Int64.toBitVec_shiftRight]
  show (x.toBitVec.sshiftRight (((nI n).toInt64 &&& 63).toBitVec.smod 64).toNat).getLsbD i = _
  rw [bl_s n hn, BitVec.getLsbD_sshiftRight, BitVec.msb_eq_getLsbD_last]
  simp [hi]
theorem bl_1b (i : Nat) : bl 1 i = decide (i = 0) := by
  rcases Nat.lt_or_ge i 64 with h | h
  · exact (by decide +kernel : ∀ i, i < 64 → bl 1 i = decide (i = 0)) i h
  · rw [bl_big h, decide_eq_false (by omega)]
theorem bl_2b (i : Nat) : bl 2 i = decide (i = 1) := by
  rcases Nat.lt_or_ge i 64 with h | h
  · exact (by decide +kernel : ∀ i, i < 64 → bl 2 i = decide (i = 1)) i h
  · rw [bl_big h, decide_eq_false (by omega)]
theorem b_1b (i : Nat) : bt 1 i = decide (i = 0) := by
  rcases Nat.lt_or_ge i 32 with h | h
  · exact (by decide +kernel : ∀ i, i < 32 → bt 1 i = decide (i = 0)) i h
  · rw [b_big h, decide_eq_false (by omega)]
theorem b_2b (i : Nat) : bt 2 i = decide (i = 1) := by
  rcases Nat.lt_or_ge i 32 with h | h
  · exact (by decide +kernel : ∀ i, i < 32 → bt 2 i = decide (i = 1)) i h
  · rw [b_big h, decide_eq_false (by omega)]
theorem bl_one (n : Nat) (hn : n < 64) (i : Nat) : bl ((1 : Int64) <<< ((nI n).toInt64 &&& 63)) i = decide (i = n) := by
  rcases Nat.lt_or_ge i 64 with h | h
  · rw [bl_shl n hn _ h, bl_1b]
    by_cases e : i = n
    · subst e; simp
    · rcases Nat.lt_or_ge i n with z | z
      · simp [e, Nat.not_le.mpr z]
      · have : i - n ≠ 0 := by omega
        simp [e, this]
  · rw [bl_big h, decide_eq_false (by omega)]
theorem bl_two (n : Nat) (hn : n < 63) (i : Nat) : bl ((2 : Int64) <<< ((nI n).toInt64 &&& 63)) i = decide (i = n + 1) := by
  rcases Nat.lt_or_ge i 64 with h | h
  · rw [bl_shl n (by omega) _ h, bl_2b]
    by_cases e : i = n + 1
    · subst e; simp
    · rcases Nat.lt_or_ge i n with z | z
      · simp [e, Nat.not_le.mpr z]
      · have : i - n ≠ 1 := by omega
        simp [e, this]
  · rw [bl_big h, decide_eq_false (by omega)]
theorem b_one (n : Nat) (hn : n < 32) (i : Nat) : bt ((1 : Int32) <<< (nI n &&& 31)) i = decide (i = n) := by
  rcases Nat.lt_or_ge i 32 with h | h
  · rw [b_shl n hn _ h, b_1b]
    by_cases e : i = n
    · subst e; simp
    · rcases Nat.lt_or_ge i n with z | z
      · simp [e, Nat.not_le.mpr z]
      · have : i - n ≠ 0 := by omega
        simp [e, this]
  · rw [b_big h, decide_eq_false (by omega)]
theorem b_two (n : Nat) (hn : n < 31) (i : Nat) : bt ((2 : Int32) <<< (nI n &&& 31)) i = decide (i = n + 1) := by
  rcases Nat.lt_or_ge i 32 with h | h
  · rw [b_shl n (by omega) _ h, b_2b]
    by_cases e : i = n + 1
    · subst e; simp
    · rcases Nat.lt_or_ge i n with z | z
      · simp [e, Nat.not_le.mpr z]
      · have : i - n ≠ 1 := by omega
        simp [e, this]
  · rw [b_big h, decide_eq_false (by omega)]
/-- x & 1 is 1 where bit 0 is set, else 0 -/
theorem b_and1 (x : Int32) : x &&& 1 = if bt x 0 = true then 1 else 0 := by
  apply b_ext
  intro i hi
  rw [b_and, b_1b]
  by_cases h0 : i = 0
  · subst h0
    cases h : bt x 0
    · rw [if_neg (by simp), b_0]; simp
    · rw [if_pos rfl, b_1b]; simp
  · cases h : bt x 0
    · rw [if_neg (by simp), b_0]; simp [h0]
    · rw [if_pos rfl, b_1b]; simp [h0]
theorem bl_and1 (x : Int64) : x &&& 1 = if bl x 0 = true then 1 else 0 := by
  apply bl_ext
  intro i hi
  rw [bl_and, bl_1b]
  by_cases h0 : i = 0
  · subst h0
    cases h : bl x 0
    · rw [if_neg (by simp), bl_0]; simp
    · rw [if_pos rfl, bl_1b]; simp
  · cases h : bl x 0
    · rw [if_neg (by simp), bl_0]; simp [h0]
    · rw [if_pos rfl, bl_1b]; simp [h0]
theorem b_test (x : Int32) {n : Nat} (hn : n < 32) : (x >>> (nI n &&& 31)) &&& 1 = 1 ↔ bt x n = true := by
  have e : bt (x >>> (nI n &&& 31)) 0 = bt x n := by rw [b_sshr n hn x (by omega), if_pos (by omega), Nat.add_zero]
  rw [b_and1, e]
  cases h : bt x n
  · simp
  · simp
theorem b_test0 (x : Int32) {n : Nat} (hn : n < 32) : (x >>> (nI n &&& 31)) &&& 1 = 0 ↔ bt x n = false := by
  have e : bt (x >>> (nI n &&& 31)) 0 = bt x n := by rw [b_sshr n hn x (by omega), if_pos (by omega), Nat.add_zero]
  rw [b_and1, e]
  cases h : bt x n
  · simp
  · simp
theorem bl_test (x : Int64) {n : Nat} (hn : n < 64) : (x >>> ((nI n).toInt64 &&& 63)) &&& 1 = 1 ↔ bl x n = true := by
  have e : bl (x >>> ((nI n).toInt64 &&& 63)) 0 = bl x n := by rw [bl_sshr n hn x (by omega), if_pos (by omega), Nat.add_zero]
  rw [bl_and1, e]
  cases h : bl x n
  · simp
  · simp
theorem bl_test0 (x : Int64) {n : Nat} (hn : n < 64) : (x >>> ((nI n).toInt64 &&& 63)) &&& 1 = 0 ↔ bl x n = false := by
  have e : bl (x >>> ((nI n).toInt64 &&& 63)) 0 = bl x n := by rw [bl_sshr n hn x (by omega), if_pos (by omega), Nat.add_zero]
  rw [bl_and1, e]
  cases h : bl x n
  · simp
  · simp
theorem bl_zero {x : Int64} : x = 0 ↔ ∀ i, i < 64 → bl x i = false := by
  constructor
  · rintro rfl i _; exact bl_0 i
  · intro h; exact bl_ext fun i hi => by rw [h i hi, bl_0]
theorem b_zero {x : Int32} : x = 0 ↔ ∀ i, i < 32 → bt x i = false := by
  constructor
  · rintro rfl i _; exact b_0 i
  · intro h; exact b_ext fun i hi => by rw [h i hi, b_0]
/-- a set of numbers below 64 as a mask -/
noncomputable def mk_r (P : Nat → Prop) : Nat → Int64
  | 0 => 0
  | n + 1 => mk_r P n ||| @ite Int64 (P n) (Classical.propDecidable _) ((1 : Int64) <<< ((nI n).toInt64 &&& 63)) 0
theorem mk_rb (P : Nat → Prop) (i : Nat) : ∀ n, n ≤ 64 → (bl (mk_r P n) i = true ↔ i < n ∧ P i) := by
  intro n
  induction n with
  | zero => intro _; show bl 0 i = true ↔ _; rw [bl_0]; exact ⟨(fun h => by cases h), fun h => by omega⟩
  | succ n ih =>
    intro hn
    show bl (mk_r P n ||| @ite Int64 (P n) (Classical.propDecidable _) ((1 : Int64) <<< ((nI n).toInt64 &&& 63)) 0) i = true ↔ _
    rw [bl_or, Bool.or_eq_true, ih (by omega)]
    by_cases hp : P n
    · rw [if_pos hp, bl_one n (by omega), decide_eq_true_eq]
      constructor
      · rintro (⟨h1, h2⟩ | rfl)
        · exact ⟨by omega, h2⟩
        · exact ⟨by omega, hp⟩
      · rintro ⟨h1, h2⟩
        rcases Nat.lt_or_ge i n with z | z
        · exact Or.inl ⟨z, h2⟩
        · exact Or.inr (by omega)
    · rw [if_neg hp, bl_0]
      constructor
      · rintro (⟨h1, h2⟩ | h)
        · exact ⟨by omega, h2⟩
        · cases h
      · rintro ⟨h1, h2⟩
        rcases Nat.lt_or_ge i n with z | z
        · exact Or.inl ⟨z, h2⟩
        · have e : i = n := by omega
          subst e; exact absurd h2 hp
noncomputable def mk_l (P : Nat → Prop) : Int64 := mk_r P 64
theorem mk_bl (P : Nat → Prop) {i : Nat} (hi : i < 64) : bl (mk_l P) i = true ↔ P i := by
  unfold mk_l
  rw [mk_rb P i 64 (Nat.le_refl _)]
  exact ⟨fun h => h.2, fun h => ⟨hi, h⟩⟩
