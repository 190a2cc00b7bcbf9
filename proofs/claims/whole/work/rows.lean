section
/-! pure rows to paste: stores, nI and lN arithmetic, masks, shifts, narrowing, branches by naturals (pk_le, pk_lt, pk_eq), loops (lp1 .. lp16: the measure of the state; rp1 ..: recursion), negatives. Take what you need -/
theorem pk_us {f : Nat → Int32} {k : Nat} {x : Int32} : upd f k x k = x := if_pos rfl
theorem pk_un {f : Nat → Int32} {k j : Nat} {x : Int32} (h : j ≠ k) : upd f k x j = f j := if_neg h
theorem pk_uLs {f : Nat → Int64} {k : Nat} {x : Int64} : vp_updL f k x k = x := if_pos rfl
theorem pk_uLn {f : Nat → Int64} {k j : Nat} {x : Int64} (h : j ≠ k) : vp_updL f k x j = f j := if_neg h
theorem pk_sub {a b : Nat} (h : b ≤ a) : nI a - nI b = nI (a - b) := by
  obtain ⟨c, rfl⟩ : ∃ c, a = c + b := ⟨a - b, by omega⟩
  rw [← nI_add, Int32.add_sub_cancel, Nat.add_sub_cancel]
theorem pk_m1 (n : Nat) : nI (n + 1) + (-1) = nI n := by
  rw [← nI_1, Int32.add_assoc, show (1 : Int32) + (-1) = 0 from rfl, Int32.add_zero]
theorem pk_mul (a b : Nat) : nI a * nI b = nI (a * b) := (Int32.ofNat_mul a b).symm
theorem pk_div {a d : Nat} (ha : a < 2 ^ 31) (h0 : 0 < d) (hd : d < 2 ^ 31) : nI a / nI d = nI (a / d) := by
  apply Int32.toInt_inj.mp
  rw [lg_idiv_nonneg (by rw [nI_toInt ha]; omega) (by rw [nI_toInt hd]; omega), nI_toInt ha, nI_toInt hd, nI_toInt (Nat.lt_of_le_of_lt (Nat.div_le_self a d) ha)]
  first | rfl | exact (Int.natCast_ediv _ _).symm
theorem pk_rem {a d : Nat} (ha : a < 2 ^ 31) (h0 : 0 < d) (hd : d < 2 ^ 31) : nI a - nI a / nI d * nI d = nI (a % d) := by
  rw [pk_div ha h0 hd, pk_mul, pk_sub (Nat.div_mul_le_self a d)]
  exact congrArg nI (by have := Nat.div_add_mod' a d; omega)
theorem pk_sub_toInt {a b : Nat} (ha : a < 2 ^ 30) (hb : b < 2 ^ 30) : (nI a - nI b).toInt = (a : Int) - b := by
  rw [Int32.toInt_sub, nI_toInt (by omega), nI_toInt (by omega)]
  exact Int.bmod_eq_of_le (by omega) (by omega)
theorem pk_sneg {a b : Nat} (hb : b < 2 ^ 30) (h : a < b) : nI a - nI b < 0 := by
  rw [Int32.lt_iff_toInt_lt, pk_sub_toInt (by omega) hb, show (0 : Int32).toInt = 0 from by decide]
  omega
theorem pk_ix (x : Int32) {n : Nat} (hn : n < 2 ^ 31) : x < 0 ∨ nI n ≤ x ∨ ∃ j : Nat, j < n ∧ x = nI j := by
  by_cases h : x < 0
  · exact Or.inl h
  · obtain ⟨j, hj, rfl⟩ := nI_of h
    by_cases h2 : j < n
    · exact Or.inr (Or.inr ⟨j, h2, rfl⟩)
    · exact Or.inr (Or.inl (nI_le (by omega) hj))
theorem pk_le {x y : Int32} {A B : Prop} (a b : Nat) (f : a ≤ b → A) (g : b < a → B) (hx : x = nI a := by rfl) (hy : y = nI b := by rfl) (ha : a < 2 ^ 31 := by omega) (hb : b < 2 ^ 31 := by omega) : (x ≤ y → A) ∧ (¬ x ≤ y → B) := by
  subst hx hy
  rw [nI_leI ha hb]
  exact ⟨f, fun z => g (by omega)⟩
theorem pk_lt {x y : Int32} {A B : Prop} (a b : Nat) (f : a < b → A) (g : b ≤ a → B) (hx : x = nI a := by rfl) (hy : y = nI b := by rfl) (ha : a < 2 ^ 31 := by omega) (hb : b < 2 ^ 31 := by omega) : (x < y → A) ∧ (¬ x < y → B) := by
  subst hx hy
  rw [nI_ltI ha hb]
  exact ⟨f, fun z => g (by omega)⟩
theorem pk_eq {x y : Int32} {A B : Prop} (a b : Nat) (f : a = b → A) (g : a ≠ b → B) (hx : x = nI a := by rfl) (hy : y = nI b := by rfl) (ha : a < 2 ^ 31 := by omega) (hb : b < 2 ^ 31 := by omega) : (x = y → A) ∧ (¬ x = y → B) := by
  subst hx hy
  rw [nI_eq ha hb]
  exact ⟨f, g⟩
theorem pk_in {x : Int32} (n N : Nat) (h : n < N) (hx : x = nI n := by rfl) (hN : N < 2 ^ 31 := by omega) : vp_in x N := by
  subst hx
  exact vp_in_nI h hN
theorem pk_cl {x : Int32} (n : Nat) (hx : x = nI n := by rfl) (h : n < 2 ^ 31 := by omega) : x.toNatClampNeg = n := by
  subst hx
  exact nI_clamp h
theorem pk_tn {n : Nat} (h : n < 2 ^ 32) : (nI n).toBitVec.toNat = n := Nat.mod_eq_of_lt h
theorem pk_and (x : Int32) {m : Int32} (k : Nat) (hm : m.toBitVec.toNat = 2 ^ k - 1) : x &&& m = nI (x.toBitVec.toNat % 2 ^ k) := by
  apply Int32.toBitVec_inj.mp
  apply BitVec.eq_of_toNat_eq
  rw [Int32.toBitVec_and, BitVec.toNat_and, hm, Nat.and_two_pow_sub_one_eq_mod]
  show _ = (BitVec.ofNat 32 _).toNat
  rw [BitVec.toNat_ofNat]
  exact (Nat.mod_eq_of_lt (Nat.lt_of_le_of_lt (Nat.mod_le _ _) x.toBitVec.isLt)).symm
theorem pk_andN {n : Nat} (h : n < 2 ^ 32) {m : Int32} (k : Nat) (hm : m.toBitVec.toNat = 2 ^ k - 1) : nI n &&& m = nI (n % 2 ^ k) := by
  rw [pk_and _ k hm, pk_tn h]
theorem pk_andE (x : Int32) {m : Int32} (k : Nat) (hm : m.toBitVec.toNat = 2 ^ k - 1) : ∃ j : Nat, j < 2 ^ k ∧ x &&& m = nI j := ⟨_, Nat.mod_lt _ (Nat.two_pow_pos k), pk_and x k hm⟩
theorem pk_andIn (x : Int32) {m : Int32} (k : Nat) (hm : m.toBitVec.toNat = 2 ^ k - 1) (hk : k ≤ 30) : vp_in (x &&& m) (2 ^ k) := by
  obtain ⟨j, hj, e⟩ := pk_andE x k hm
  rw [e]
  exact vp_in_nI hj (Nat.lt_of_le_of_lt (Nat.pow_le_pow_right (by decide) hk) (by decide))
theorem pk_shl (a s : Int32) (k : Nat) (hs : (s.toBitVec.smod 32).toNat = k) : (a <<< s).toBitVec.toNat = a.toBitVec.toNat * 2 ^ k % 2 ^ 32 := by
  show (a.toBitVec <<< (s.toBitVec.smod 32).toNat).toNat = _
  rw [hs, BitVec.toNat_shiftLeft, Nat.shiftLeft_eq]
theorem pk_shlN {n : Nat} (s : Int32) (k : Nat) (hs : (s.toBitVec.smod 32).toNat = k) (h : n * 2 ^ k < 2 ^ 32) : nI n <<< s = nI (n * 2 ^ k) := by
  apply Int32.toBitVec_inj.mp
  apply BitVec.eq_of_toNat_eq
  have hn : n < 2 ^ 32 := Nat.lt_of_le_of_lt (Nat.le_mul_of_pos_right n (Nat.two_pow_pos k)) h
  rw [pk_shl _ _ k hs, pk_tn hn, pk_tn h, Nat.mod_eq_of_lt h]
theorem pk_shr (a s : Int32) (k : Nat) (hs : (s.toBitVec.smod 32).toNat = k) : (a >>> s).toInt = a.toInt >>> k := by
  show (a.toBitVec.sshiftRight (s.toBitVec.smod 32).toNat).toInt = _
  rw [hs, BitVec.toInt_sshiftRight]
  rfl
theorem pk_shrN {n : Nat} (h : n < 2 ^ 31) (s : Int32) (k : Nat) (hs : (s.toBitVec.smod 32).toNat = k) : nI n >>> s = nI (n / 2 ^ k) := by
  apply Int32.toInt_inj.mp
  have h2 : n / 2 ^ k ≤ n := Nat.div_le_self _ _
  rw [pk_shr _ _ k hs, nI_toInt h, nI_toInt (by omega), Int.shiftRight_eq_div_pow]
  rfl
theorem pk_ushr (x s : Int32) (k : Nat) (hs : ((s.toUInt32 &&& Int32.toUInt32 31).toBitVec % 32).toNat = k) : (x.toUInt32 >>> (s.toUInt32 &&& Int32.toUInt32 31)).toInt32.toBitVec.toNat = x.toBitVec.toNat / 2 ^ k := by
  have e : (x.toUInt32 >>> (s.toUInt32 &&& Int32.toUInt32 31)).toInt32.toBitVec = x.toBitVec >>> k := by
    rw [← hs]
    exact UInt32.toBitVec_shiftRight _ _
  rw [e, BitVec.toNat_ushiftRight, Nat.shiftRight_eq_div_pow]
theorem pk_ushrN {n : Nat} (hn : n < 2 ^ 32) (s : Int32) (k : Nat) (hs : ((s.toUInt32 &&& Int32.toUInt32 31).toBitVec % 32).toNat = k) : ((nI n).toUInt32 >>> (s.toUInt32 &&& Int32.toUInt32 31)).toInt32 = nI (n / 2 ^ k) := by
  apply Int32.toBitVec_inj.mp
  apply BitVec.eq_of_toNat_eq
  rw [pk_ushr _ s k hs, pk_tn hn, pk_tn (Nat.lt_of_le_of_lt (Nat.div_le_self _ _) hn)]
theorem pk_nb (z : Int32) : narrow .byte (.int z.toInt8.toInt32) = .int z.toInt8.toInt32 := congrArg Value.int (by simp)
theorem pk_ns (z : Int32) : narrow .short (.int z.toInt16.toInt32) = .int z.toInt16.toInt32 := congrArg Value.int (by simp)
theorem pk_fb (r : Int32) : fits .byte (.int r.toInt8.toInt32) = true := by
  have ⟨a, b⟩ := lg_i2b_range r
  have h1 : (-128 : Int32).toInt = -128 := by decide
  have h2 : (127 : Int32).toInt = 127 := by decide
  simp only [fits, Bool.and_eq_true, decide_eq_true_eq, Int32.le_iff_toInt_le, h1, h2]
  omega
theorem pk_fs (r : Int32) : fits .short (.int r.toInt16.toInt32) = true := by
  have ⟨a, b⟩ := lg_i2s_range r
  have h1 : (-32768 : Int32).toInt = -32768 := by decide
  have h2 : (32767 : Int32).toInt = 32767 := by decide
  simp only [fits, Bool.and_eq_true, decide_eq_true_eq, Int32.le_iff_toInt_le, h1, h2]
  omega
theorem pk_charN {q : Nat} (hq : q < 65536) : narrow .char (.int (nI q)) = .int (nI q) ∧ fits .char (.int (nI q)) = true := by
  constructor
  · have e : (nI q).toUInt32.toUInt16.toUInt32.toInt32 = nI q := by
      apply Int32.toBitVec_inj.mp
      apply BitVec.eq_of_toNat_eq
      show (nI q).toUInt32.toUInt16.toUInt32.toNat = q % 2 ^ 32
      rw [UInt16.toNat_toUInt32, UInt32.toNat_toUInt16, show (nI q).toUInt32.toNat = q % 2 ^ 32 from rfl]
      omega
    exact congrArg Value.int e
  · have a : (0 : Int32) ≤ nI q := nI_pos' (by omega)
    have b : nI q ≤ 65535 := nI_le (b := 65535) (by omega) (by decide)
    show (decide ((0 : Int32) ≤ nI q) && decide (nI q ≤ 65535)) = true
    rw [decide_eq_true a, decide_eq_true b]
    rfl
theorem pk_char (x : Int32) : (x.toUInt32 % 65536).toInt32 = nI (x.toBitVec.toNat % 65536) := by
  apply Int32.toBitVec_inj.mp
  apply BitVec.eq_of_toNat_eq
  rw [pk_tn (by omega)]
  show (x.toUInt32 % 65536).toNat = _
  rw [UInt32.toNat_mod]
  rfl
theorem pk_nc (x : Int32) : narrow .char (.int (x.toUInt32 % 65536).toInt32) = .int (x.toUInt32 % 65536).toInt32 := by
  rw [pk_char]
  exact (pk_charN (Nat.mod_lt _ (by decide))).1
theorem pk_fc (x : Int32) : fits .char (.int (x.toUInt32 % 65536).toInt32) = true := by
  rw [pk_char]
  exact (pk_charN (Nat.mod_lt _ (by decide))).2
theorem pk_vb (z : Int32) : vp_nar .byte z.toInt8.toInt32 = z.toInt8.toInt32 := by rw [vp_nar_byte]; simp
theorem pk_vs (z : Int32) : vp_nar .short z.toInt16.toInt32 = z.toInt16.toInt32 := by rw [vp_nar_short]; simp
theorem pk_vc (z : Int32) : vp_nar .char (z.toUInt32 % 65536).toInt32 = (z.toUInt32 % 65536).toInt32 := Value.int.inj (pk_nc z)
theorem pk_lT {n : Nat} (h : n < 2 ^ 63) : (lN n).toInt = (n : Int) := lg_ofNat_toInt h
theorem pk_lLT {a b : Nat} (ha : a < 2 ^ 63) (hb : b < 2 ^ 63) : lN a < lN b ↔ a < b := by
  rw [Int64.lt_iff_toInt_lt, pk_lT ha, pk_lT hb]; omega
theorem pk_lLE {a b : Nat} (ha : a < 2 ^ 63) (hb : b < 2 ^ 63) : lN a ≤ lN b ↔ a ≤ b := by
  rw [Int64.le_iff_toInt_le, pk_lT ha, pk_lT hb]; omega
theorem pk_lEQ {a b : Nat} (ha : a < 2 ^ 63) (hb : b < 2 ^ 63) : lN a = lN b ↔ a = b := by
  rw [← Int64.toInt_inj, pk_lT ha, pk_lT hb]; omega
theorem pk_lOf {x : Int64} (h : ¬ x < 0) : ∃ k : Nat, k < 2 ^ 63 ∧ x = lN k := by
  rw [Int64.lt_iff_toInt_lt] at h
  have h0 : (0 : Int64).toInt = 0 := by decide
  have hx := Int64.toInt_lt x
  refine ⟨x.toInt.toNat, by omega, Int64.toInt_inj.mp ?_⟩
  rw [pk_lT (by omega)]
  omega
theorem pk_lDiv {a b : Nat} (ha : a < 2 ^ 63) (h0 : 0 < b) (hb : b < 2 ^ 63) : lN a / lN b = lN (a / b) := by
  apply Int64.toInt_inj.mp
  rw [lg_ldiv_nonneg (by rw [pk_lT ha]; omega) (by rw [pk_lT hb]; omega), pk_lT ha, pk_lT hb, pk_lT (Nat.lt_of_le_of_lt (Nat.div_le_self a b) ha)]
  rfl
theorem pk_lRem {a b : Nat} (ha : a < 2 ^ 63) (h0 : 0 < b) (hb : b < 2 ^ 63) : lN a - lN a / lN b * lN b = lN (a % b) := by
  rw [pk_lDiv ha h0 hb, lN_mul, lN_sub (Nat.div_mul_le_self a b)]
  exact congrArg lN (by have := Nat.div_add_mod' a b; omega)
theorem pk_loop {σ : Type} (W : Nat → Nat → σ → Prop) (I : Nat → σ → Prop) (e i0 : Nat) (s : σ) (hi : i0 ≤ e) (h0 : I i0 s) (hx : ∀ n s, I e s → W (n + 1) e s)
    (hs : ∀ n i s, i < e → I i s → (∀ s', I (i + 1) s' → W n (i + 1) s') → W (n + 1) i s) : ∃ n, W n i0 s :=
  ⟨e + 1, loop_i W I e hx hs (e + 1) i0 s hi (by omega) h0⟩
theorem pk_loopD {σ : Type} (W : Nat → Nat → σ → Prop) (I : Nat → σ → Prop) (hx : ∀ n s, I 0 s → W (n + 1) 0 s)
    (hs : ∀ n i s, I (i + 1) s → (∀ s', I i s' → W n i s') → W (n + 1) (i + 1) s) : ∀ (e : Nat) (s : σ), I e s → W (e + 1) e s := by
  intro e
  induction e with
  | zero => exact fun s h => hx 0 s h
  | succ e ih => exact fun s h => hs (e + 1) e s h (fun s' h' => ih s' h')
theorem lp1 {A1 : Type} (W : Nat → A1 → Prop) (I : A1 → Prop) (μ : A1 → Nat) (hs : ∀ (n : Nat) (a1 : A1), I a1 → (∀ (b1 : A1), I b1 → μ b1 < μ a1 → W n b1) → W (n + 1) a1) (a1 : A1) (h : I a1) : ∃ n, W n a1 :=
  loop_m (σ := A1) (fun n s => W n s) (fun s => I s) (fun s => μ s) (fun n s hI hk => hs n s hI (fun b1 h9 hm => hk b1 h9 hm)) a1 h
theorem lp2 {A1 A2 : Type} (W : Nat → A1 → A2 → Prop) (I : A1 → A2 → Prop) (μ : A1 → A2 → Nat) (hs : ∀ (n : Nat) (a1 : A1) (a2 : A2), I a1 a2 → (∀ (b1 : A1) (b2 : A2), I b1 b2 → μ b1 b2 < μ a1 a2 → W n b1 b2) → W (n + 1) a1 a2) (a1 : A1) (a2 : A2) (h : I a1 a2) : ∃ n, W n a1 a2 :=
  loop_m (σ := A1 × A2) (fun n s => W n s.1 s.2) (fun s => I s.1 s.2) (fun s => μ s.1 s.2) (fun n s hI hk => hs n s.1 s.2 hI (fun b1 b2 h9 hm => hk (b1, b2) h9 hm)) (a1, a2) h
theorem lp3 {A1 A2 A3 : Type} (W : Nat → A1 → A2 → A3 → Prop) (I : A1 → A2 → A3 → Prop) (μ : A1 → A2 → A3 → Nat) (hs : ∀ (n : Nat) (a1 : A1) (a2 : A2) (a3 : A3), I a1 a2 a3 → (∀ (b1 : A1) (b2 : A2) (b3 : A3), I b1 b2 b3 → μ b1 b2 b3 < μ a1 a2 a3 → W n b1 b2 b3) → W (n + 1) a1 a2 a3) (a1 : A1) (a2 : A2) (a3 : A3) (h : I a1 a2 a3) : ∃ n, W n a1 a2 a3 :=
  loop_m (σ := A1 × A2 × A3) (fun n s => W n s.1 s.2.1 s.2.2) (fun s => I s.1 s.2.1 s.2.2) (fun s => μ s.1 s.2.1 s.2.2) (fun n s hI hk => hs n s.1 s.2.1 s.2.2 hI (fun b1 b2 b3 h9 hm => hk (b1, b2, b3) h9 hm)) (a1, a2, a3) h
theorem lp4 {A1 A2 A3 A4 : Type} (W : Nat → A1 → A2 → A3 → A4 → Prop) (I : A1 → A2 → A3 → A4 → Prop) (μ : A1 → A2 → A3 → A4 → Nat) (hs : ∀ (n : Nat) (a1 : A1) (a2 : A2) (a3 : A3) (a4 : A4), I a1 a2 a3 a4 → (∀ (b1 : A1) (b2 : A2) (b3 : A3) (b4 : A4), I b1 b2 b3 b4 → μ b1 b2 b3 b4 < μ a1 a2 a3 a4 → W n b1 b2 b3 b4) → W (n + 1) a1 a2 a3 a4) (a1 : A1) (a2 : A2) (a3 : A3) (a4 : A4) (h : I a1 a2 a3 a4) : ∃ n, W n a1 a2 a3 a4 :=
  loop_m (σ := A1 × A2 × A3 × A4) (fun n s => W n s.1 s.2.1 s.2.2.1 s.2.2.2) (fun s => I s.1 s.2.1 s.2.2.1 s.2.2.2) (fun s => μ s.1 s.2.1 s.2.2.1 s.2.2.2) (fun n s hI hk => hs n s.1 s.2.1 s.2.2.1 s.2.2.2 hI (fun b1 b2 b3 b4 h9 hm => hk (b1, b2, b3, b4) h9 hm)) (a1, a2, a3, a4) h
theorem lp5 {A1 A2 A3 A4 A5 : Type} (W : Nat → A1 → A2 → A3 → A4 → A5 → Prop) (I : A1 → A2 → A3 → A4 → A5 → Prop) (μ : A1 → A2 → A3 → A4 → A5 → Nat) (hs : ∀ (n : Nat) (a1 : A1) (a2 : A2) (a3 : A3) (a4 : A4) (a5 : A5), I a1 a2 a3 a4 a5 → (∀ (b1 : A1) (b2 : A2) (b3 : A3) (b4 : A4) (b5 : A5), I b1 b2 b3 b4 b5 → μ b1 b2 b3 b4 b5 < μ a1 a2 a3 a4 a5 → W n b1 b2 b3 b4 b5) → W (n + 1) a1 a2 a3 a4 a5) (a1 : A1) (a2 : A2) (a3 : A3) (a4 : A4) (a5 : A5) (h : I a1 a2 a3 a4 a5) : ∃ n, W n a1 a2 a3 a4 a5 :=
  loop_m (σ := A1 × A2 × A3 × A4 × A5) (fun n s => W n s.1 s.2.1 s.2.2.1 s.2.2.2.1 s.2.2.2.2) (fun s => I s.1 s.2.1 s.2.2.1 s.2.2.2.1 s.2.2.2.2) (fun s => μ s.1 s.2.1 s.2.2.1 s.2.2.2.1 s.2.2.2.2) (fun n s hI hk => hs n s.1 s.2.1 s.2.2.1 s.2.2.2.1 s.2.2.2.2 hI (fun b1 b2 b3 b4 b5 h9 hm => hk (b1, b2, b3, b4, b5) h9 hm)) (a1, a2, a3, a4, a5) h
theorem lp6 {A1 A2 A3 A4 A5 A6 : Type} (W : Nat → A1 → A2 → A3 → A4 → A5 → A6 → Prop) (I : A1 → A2 → A3 → A4 → A5 → A6 → Prop) (μ : A1 → A2 → A3 → A4 → A5 → A6 → Nat) (hs : ∀ (n : Nat) (a1 : A1) (a2 : A2) (a3 : A3) (a4 : A4) (a5 : A5) (a6 : A6), I a1 a2 a3 a4 a5 a6 → (∀ (b1 : A1) (b2 : A2) (b3 : A3) (b4 : A4) (b5 : A5) (b6 : A6), I b1 b2 b3 b4 b5 b6 → μ b1 b2 b3 b4 b5 b6 < μ a1 a2 a3 a4 a5 a6 → W n b1 b2 b3 b4 b5 b6) → W (n + 1) a1 a2 a3 a4 a5 a6) (a1 : A1) (a2 : A2) (a3 : A3) (a4 : A4) (a5 : A5) (a6 : A6) (h : I a1 a2 a3 a4 a5 a6) : ∃ n, W n a1 a2 a3 a4 a5 a6 :=
  loop_m (σ := A1 × A2 × A3 × A4 × A5 × A6) (fun n s => W n s.1 s.2.1 s.2.2.1 s.2.2.2.1 s.2.2.2.2.1 s.2.2.2.2.2) (fun s => I s.1 s.2.1 s.2.2.1 s.2.2.2.1 s.2.2.2.2.1 s.2.2.2.2.2) (fun s => μ s.1 s.2.1 s.2.2.1 s.2.2.2.1 s.2.2.2.2.1 s.2.2.2.2.2) (fun n s hI hk => hs n s.1 s.2.1 s.2.2.1 s.2.2.2.1 s.2.2.2.2.1 s.2.2.2.2.2 hI (fun b1 b2 b3 b4 b5 b6 h9 hm => hk (b1, b2, b3, b4, b5, b6) h9 hm)) (a1, a2, a3, a4, a5, a6) h
theorem lp7 {A1 A2 A3 A4 A5 A6 A7 : Type} (W : Nat → A1 → A2 → A3 → A4 → A5 → A6 → A7 → Prop) (I : A1 → A2 → A3 → A4 → A5 → A6 → A7 → Prop) (μ : A1 → A2 → A3 → A4 → A5 → A6 → A7 → Nat) (hs : ∀ (n : Nat) (a1 : A1) (a2 : A2) (a3 : A3) (a4 : A4) (a5 : A5) (a6 : A6) (a7 : A7), I a1 a2 a3 a4 a5 a6 a7 → (∀ (b1 : A1) (b2 : A2) (b3 : A3) (b4 : A4) (b5 : A5) (b6 : A6) (b7 : A7), I b1 b2 b3 b4 b5 b6 b7 → μ b1 b2 b3 b4 b5 b6 b7 < μ a1 a2 a3 a4 a5 a6 a7 → W n b1 b2 b3 b4 b5 b6 b7) → W (n + 1) a1 a2 a3 a4 a5 a6 a7) (a1 : A1) (a2 : A2) (a3 : A3) (a4 : A4) (a5 : A5) (a6 : A6) (a7 : A7) (h : I a1 a2 a3 a4 a5 a6 a7) : ∃ n, W n a1 a2 a3 a4 a5 a6 a7 :=
  loop_m (σ := A1 × A2 × A3 × A4 × A5 × A6 × A7) (fun n s => W n s.1 s.2.1 s.2.2.1 s.2.2.2.1 s.2.2.2.2.1 s.2.2.2.2.2.1 s.2.2.2.2.2.2) (fun s => I s.1 s.2.1 s.2.2.1 s.2.2.2.1 s.2.2.2.2.1 s.2.2.2.2.2.1 s.2.2.2.2.2.2) (fun s => μ s.1 s.2.1 s.2.2.1 s.2.2.2.1 s.2.2.2.2.1 s.2.2.2.2.2.1 s.2.2.2.2.2.2) (fun n s hI hk => hs n s.1 s.2.1 s.2.2.1 s.2.2.2.1 s.2.2.2.2.1 s.2.2.2.2.2.1 s.2.2.2.2.2.2 hI (fun b1 b2 b3 b4 b5 b6 b7 h9 hm => hk (b1, b2, b3, b4, b5, b6, b7) h9 hm)) (a1, a2, a3, a4, a5, a6, a7) h
theorem lp8 {A1 A2 A3 A4 A5 A6 A7 A8 : Type} (W : Nat → A1 → A2 → A3 → A4 → A5 → A6 → A7 → A8 → Prop) (I : A1 → A2 → A3 → A4 → A5 → A6 → A7 → A8 → Prop) (μ : A1 → A2 → A3 → A4 → A5 → A6 → A7 → A8 → Nat) (hs : ∀ (n : Nat) (a1 : A1) (a2 : A2) (a3 : A3) (a4 : A4) (a5 : A5) (a6 : A6) (a7 : A7) (a8 : A8), I a1 a2 a3 a4 a5 a6 a7 a8 → (∀ (b1 : A1) (b2 : A2) (b3 : A3) (b4 : A4) (b5 : A5) (b6 : A6) (b7 : A7) (b8 : A8), I b1 b2 b3 b4 b5 b6 b7 b8 → μ b1 b2 b3 b4 b5 b6 b7 b8 < μ a1 a2 a3 a4 a5 a6 a7 a8 → W n b1 b2 b3 b4 b5 b6 b7 b8) → W (n + 1) a1 a2 a3 a4 a5 a6 a7 a8) (a1 : A1) (a2 : A2) (a3 : A3) (a4 : A4) (a5 : A5) (a6 : A6) (a7 : A7) (a8 : A8) (h : I a1 a2 a3 a4 a5 a6 a7 a8) : ∃ n, W n a1 a2 a3 a4 a5 a6 a7 a8 :=
  loop_m (σ := A1 × A2 × A3 × A4 × A5 × A6 × A7 × A8) (fun n s => W n s.1 s.2.1 s.2.2.1 s.2.2.2.1 s.2.2.2.2.1 s.2.2.2.2.2.1 s.2.2.2.2.2.2.1 s.2.2.2.2.2.2.2) (fun s => I s.1 s.2.1 s.2.2.1 s.2.2.2.1 s.2.2.2.2.1 s.2.2.2.2.2.1 s.2.2.2.2.2.2.1 s.2.2.2.2.2.2.2) (fun s => μ s.1 s.2.1 s.2.2.1 s.2.2.2.1 s.2.2.2.2.1 s.2.2.2.2.2.1 s.2.2.2.2.2.2.1 s.2.2.2.2.2.2.2) (fun n s hI hk => hs n s.1 s.2.1 s.2.2.1 s.2.2.2.1 s.2.2.2.2.1 s.2.2.2.2.2.1 s.2.2.2.2.2.2.1 s.2.2.2.2.2.2.2 hI (fun b1 b2 b3 b4 b5 b6 b7 b8 h9 hm => hk (b1, b2, b3, b4, b5, b6, b7, b8) h9 hm)) (a1, a2, a3, a4, a5, a6, a7, a8) h
theorem lp9 {A1 A2 A3 A4 A5 A6 A7 A8 A9 : Type} (W : Nat → A1 → A2 → A3 → A4 → A5 → A6 → A7 → A8 → A9 → Prop) (I : A1 → A2 → A3 → A4 → A5 → A6 → A7 → A8 → A9 → Prop) (μ : A1 → A2 → A3 → A4 → A5 → A6 → A7 → A8 → A9 → Nat) (hs : ∀ (n : Nat) (a1 : A1) (a2 : A2) (a3 : A3) (a4 : A4) (a5 : A5) (a6 : A6) (a7 : A7) (a8 : A8) (a9 : A9), I a1 a2 a3 a4 a5 a6 a7 a8 a9 → (∀ (b1 : A1) (b2 : A2) (b3 : A3) (b4 : A4) (b5 : A5) (b6 : A6) (b7 : A7) (b8 : A8) (b9 : A9), I b1 b2 b3 b4 b5 b6 b7 b8 b9 → μ b1 b2 b3 b4 b5 b6 b7 b8 b9 < μ a1 a2 a3 a4 a5 a6 a7 a8 a9 → W n b1 b2 b3 b4 b5 b6 b7 b8 b9) → W (n + 1) a1 a2 a3 a4 a5 a6 a7 a8 a9) (a1 : A1) (a2 : A2) (a3 : A3) (a4 : A4) (a5 : A5) (a6 : A6) (a7 : A7) (a8 : A8) (a9 : A9) (h : I a1 a2 a3 a4 a5 a6 a7 a8 a9) : ∃ n, W n a1 a2 a3 a4 a5 a6 a7 a8 a9 :=
  loop_m (σ := A1 × A2 × A3 × A4 × A5 × A6 × A7 × A8 × A9) (fun n s => W n s.1 s.2.1 s.2.2.1 s.2.2.2.1 s.2.2.2.2.1 s.2.2.2.2.2.1 s.2.2.2.2.2.2.1 s.2.2.2.2.2.2.2.1 s.2.2.2.2.2.2.2.2) (fun s => I s.1 s.2.1 s.2.2.1 s.2.2.2.1 s.2.2.2.2.1 s.2.2.2.2.2.1 s.2.2.2.2.2.2.1 s.2.2.2.2.2.2.2.1 s.2.2.2.2.2.2.2.2) (fun s => μ s.1 s.2.1 s.2.2.1 s.2.2.2.1 s.2.2.2.2.1 s.2.2.2.2.2.1 s.2.2.2.2.2.2.1 s.2.2.2.2.2.2.2.1 s.2.2.2.2.2.2.2.2) (fun n s hI hk => hs n s.1 s.2.1 s.2.2.1 s.2.2.2.1 s.2.2.2.2.1 s.2.2.2.2.2.1 s.2.2.2.2.2.2.1 s.2.2.2.2.2.2.2.1 s.2.2.2.2.2.2.2.2 hI (fun b1 b2 b3 b4 b5 b6 b7 b8 b9 h9 hm => hk (b1, b2, b3, b4, b5, b6, b7, b8, b9) h9 hm)) (a1, a2, a3, a4, a5, a6, a7, a8, a9) h
theorem lp10 {A1 A2 A3 A4 A5 A6 A7 A8 A9 A10 : Type} (W : Nat → A1 → A2 → A3 → A4 → A5 → A6 → A7 → A8 → A9 → A10 → Prop) (I : A1 → A2 → A3 → A4 → A5 → A6 → A7 → A8 → A9 → A10 → Prop) (μ : A1 → A2 → A3 → A4 → A5 → A6 → A7 → A8 → A9 → A10 → Nat) (hs : ∀ (n : Nat) (a1 : A1) (a2 : A2) (a3 : A3) (a4 : A4) (a5 : A5) (a6 : A6) (a7 : A7) (a8 : A8) (a9 : A9) (a10 : A10), I a1 a2 a3 a4 a5 a6 a7 a8 a9 a10 → (∀ (b1 : A1) (b2 : A2) (b3 : A3) (b4 : A4) (b5 : A5) (b6 : A6) (b7 : A7) (b8 : A8) (b9 : A9) (b10 : A10), I b1 b2 b3 b4 b5 b6 b7 b8 b9 b10 → μ b1 b2 b3 b4 b5 b6 b7 b8 b9 b10 < μ a1 a2 a3 a4 a5 a6 a7 a8 a9 a10 → W n b1 b2 b3 b4 b5 b6 b7 b8 b9 b10) → W (n + 1) a1 a2 a3 a4 a5 a6 a7 a8 a9 a10) (a1 : A1) (a2 : A2) (a3 : A3) (a4 : A4) (a5 : A5) (a6 : A6) (a7 : A7) (a8 : A8) (a9 : A9) (a10 : A10) (h : I a1 a2 a3 a4 a5 a6 a7 a8 a9 a10) : ∃ n, W n a1 a2 a3 a4 a5 a6 a7 a8 a9 a10 :=
  loop_m (σ := A1 × A2 × A3 × A4 × A5 × A6 × A7 × A8 × A9 × A10) (fun n s => W n s.1 s.2.1 s.2.2.1 s.2.2.2.1 s.2.2.2.2.1 s.2.2.2.2.2.1 s.2.2.2.2.2.2.1 s.2.2.2.2.2.2.2.1 s.2.2.2.2.2.2.2.2.1 s.2.2.2.2.2.2.2.2.2) (fun s => I s.1 s.2.1 s.2.2.1 s.2.2.2.1 s.2.2.2.2.1 s.2.2.2.2.2.1 s.2.2.2.2.2.2.1 s.2.2.2.2.2.2.2.1 s.2.2.2.2.2.2.2.2.1 s.2.2.2.2.2.2.2.2.2) (fun s => μ s.1 s.2.1 s.2.2.1 s.2.2.2.1 s.2.2.2.2.1 s.2.2.2.2.2.1 s.2.2.2.2.2.2.1 s.2.2.2.2.2.2.2.1 s.2.2.2.2.2.2.2.2.1 s.2.2.2.2.2.2.2.2.2) (fun n s hI hk => hs n s.1 s.2.1 s.2.2.1 s.2.2.2.1 s.2.2.2.2.1 s.2.2.2.2.2.1 s.2.2.2.2.2.2.1 s.2.2.2.2.2.2.2.1 s.2.2.2.2.2.2.2.2.1 s.2.2.2.2.2.2.2.2.2 hI (fun b1 b2 b3 b4 b5 b6 b7 b8 b9 b10 h9 hm => hk (b1, b2, b3, b4, b5, b6, b7, b8, b9, b10) h9 hm)) (a1, a2, a3, a4, a5, a6, a7, a8, a9, a10) h
theorem lp11 {A1 A2 A3 A4 A5 A6 A7 A8 A9 A10 A11 : Type} (W : Nat → A1 → A2 → A3 → A4 → A5 → A6 → A7 → A8 → A9 → A10 → A11 → Prop) (I : A1 → A2 → A3 → A4 → A5 → A6 → A7 → A8 → A9 → A10 → A11 → Prop) (μ : A1 → A2 → A3 → A4 → A5 → A6 → A7 → A8 → A9 → A10 → A11 → Nat) (hs : ∀ (n : Nat) (a1 : A1) (a2 : A2) (a3 : A3) (a4 : A4) (a5 : A5) (a6 : A6) (a7 : A7) (a8 : A8) (a9 : A9) (a10 : A10) (a11 : A11), I a1 a2 a3 a4 a5 a6 a7 a8 a9 a10 a11 → (∀ (b1 : A1) (b2 : A2) (b3 : A3) (b4 : A4) (b5 : A5) (b6 : A6) (b7 : A7) (b8 : A8) (b9 : A9) (b10 : A10) (b11 : A11), I b1 b2 b3 b4 b5 b6 b7 b8 b9 b10 b11 → μ b1 b2 b3 b4 b5 b6 b7 b8 b9 b10 b11 < μ a1 a2 a3 a4 a5 a6 a7 a8 a9 a10 a11 → W n b1 b2 b3 b4 b5 b6 b7 b8 b9 b10 b11) → W (n + 1) a1 a2 a3 a4 a5 a6 a7 a8 a9 a10 a11) (a1 : A1) (a2 : A2) (a3 : A3) (a4 : A4) (a5 : A5) (a6 : A6) (a7 : A7) (a8 : A8) (a9 : A9) (a10 : A10) (a11 : A11) (h : I a1 a2 a3 a4 a5 a6 a7 a8 a9 a10 a11) : ∃ n, W n a1 a2 a3 a4 a5 a6 a7 a8 a9 a10 a11 :=
  loop_m (σ := A1 × A2 × A3 × A4 × A5 × A6 × A7 × A8 × A9 × A10 × A11) (fun n s => W n s.1 s.2.1 s.2.2.1 s.2.2.2.1 s.2.2.2.2.1 s.2.2.2.2.2.1 s.2.2.2.2.2.2.1 s.2.2.2.2.2.2.2.1 s.2.2.2.2.2.2.2.2.1 s.2.2.2.2.2.2.2.2.2.1 s.2.2.2.2.2.2.2.2.2.2) (fun s => I s.1 s.2.1 s.2.2.1 s.2.2.2.1 s.2.2.2.2.1 s.2.2.2.2.2.1 s.2.2.2.2.2.2.1 s.2.2.2.2.2.2.2.1 s.2.2.2.2.2.2.2.2.1 s.2.2.2.2.2.2.2.2.2.1 s.2.2.2.2.2.2.2.2.2.2) (fun s => μ s.1 s.2.1 s.2.2.1 s.2.2.2.1 s.2.2.2.2.1 s.2.2.2.2.2.1 s.2.2.2.2.2.2.1 s.2.2.2.2.2.2.2.1 s.2.2.2.2.2.2.2.2.1 s.2.2.2.2.2.2.2.2.2.1 s.2.2.2.2.2.2.2.2.2.2) (fun n s hI hk => hs n s.1 s.2.1 s.2.2.1 s.2.2.2.1 s.2.2.2.2.1 s.2.2.2.2.2.1 s.2.2.2.2.2.2.1 s.2.2.2.2.2.2.2.1 s.2.2.2.2.2.2.2.2.1 s.2.2.2.2.2.2.2.2.2.1 s.2.2.2.2.2.2.2.2.2.2 hI (fun b1 b2 b3 b4 b5 b6 b7 b8 b9 b10 b11 h9 hm => hk (b1, b2, b3, b4, b5, b6, b7, b8, b9, b10, b11) h9 hm)) (a1, a2, a3, a4, a5, a6, a7, a8, a9, a10, a11) h
theorem lp12 {A1 A2 A3 A4 A5 A6 A7 A8 A9 A10 A11 A12 : Type} (W : Nat → A1 → A2 → A3 → A4 → A5 → A6 → A7 → A8 → A9 → A10 → A11 → A12 → Prop) (I : A1 → A2 → A3 → A4 → A5 → A6 → A7 → A8 → A9 → A10 → A11 → A12 → Prop) (μ : A1 → A2 → A3 → A4 → A5 → A6 → A7 → A8 → A9 → A10 → A11 → A12 → Nat) (hs : ∀ (n : Nat) (a1 : A1) (a2 : A2) (a3 : A3) (a4 : A4) (a5 : A5) (a6 : A6) (a7 : A7) (a8 : A8) (a9 : A9) (a10 : A10) (a11 : A11) (a12 : A12), I a1 a2 a3 a4 a5 a6 a7 a8 a9 a10 a11 a12 → (∀ (b1 : A1) (b2 : A2) (b3 : A3) (b4 : A4) (b5 : A5) (b6 : A6) (b7 : A7) (b8 : A8) (b9 : A9) (b10 : A10) (b11 : A11) (b12 : A12), I b1 b2 b3 b4 b5 b6 b7 b8 b9 b10 b11 b12 → μ b1 b2 b3 b4 b5 b6 b7 b8 b9 b10 b11 b12 < μ a1 a2 a3 a4 a5 a6 a7 a8 a9 a10 a11 a12 → W n b1 b2 b3 b4 b5 b6 b7 b8 b9 b10 b11 b12) → W (n + 1) a1 a2 a3 a4 a5 a6 a7 a8 a9 a10 a11 a12) (a1 : A1) (a2 : A2) (a3 : A3) (a4 : A4) (a5 : A5) (a6 : A6) (a7 : A7) (a8 : A8) (a9 : A9) (a10 : A10) (a11 : A11) (a12 : A12) (h : I a1 a2 a3 a4 a5 a6 a7 a8 a9 a10 a11 a12) : ∃ n, W n a1 a2 a3 a4 a5 a6 a7 a8 a9 a10 a11 a12 :=
  loop_m (σ := A1 × A2 × A3 × A4 × A5 × A6 × A7 × A8 × A9 × A10 × A11 × A12) (fun n s => W n s.1 s.2.1 s.2.2.1 s.2.2.2.1 s.2.2.2.2.1 s.2.2.2.2.2.1 s.2.2.2.2.2.2.1 s.2.2.2.2.2.2.2.1 s.2.2.2.2.2.2.2.2.1 s.2.2.2.2.2.2.2.2.2.1 s.2.2.2.2.2.2.2.2.2.2.1 s.2.2.2.2.2.2.2.2.2.2.2) (fun s => I s.1 s.2.1 s.2.2.1 s.2.2.2.1 s.2.2.2.2.1 s.2.2.2.2.2.1 s.2.2.2.2.2.2.1 s.2.2.2.2.2.2.2.1 s.2.2.2.2.2.2.2.2.1 s.2.2.2.2.2.2.2.2.2.1 s.2.2.2.2.2.2.2.2.2.2.1 s.2.2.2.2.2.2.2.2.2.2.2) (fun s => μ s.1 s.2.1 s.2.2.1 s.2.2.2.1 s.2.2.2.2.1 s.2.2.2.2.2.1 s.2.2.2.2.2.2.1 s.2.2.2.2.2.2.2.1 s.2.2.2.2.2.2.2.2.1 s.2.2.2.2.2.2.2.2.2.1 s.2.2.2.2.2.2.2.2.2.2.1 s.2.2.2.2.2.2.2.2.2.2.2) (fun n s hI hk => hs n s.1 s.2.1 s.2.2.1 s.2.2.2.1 s.2.2.2.2.1 s.2.2.2.2.2.1 s.2.2.2.2.2.2.1 s.2.2.2.2.2.2.2.1 s.2.2.2.2.2.2.2.2.1 s.2.2.2.2.2.2.2.2.2.1 s.2.2.2.2.2.2.2.2.2.2.1 s.2.2.2.2.2.2.2.2.2.2.2 hI (fun b1 b2 b3 b4 b5 b6 b7 b8 b9 b10 b11 b12 h9 hm => hk (b1, b2, b3, b4, b5, b6, b7, b8, b9, b10, b11, b12) h9 hm)) (a1, a2, a3, a4, a5, a6, a7, a8, a9, a10, a11, a12) h
theorem lp13 {A1 A2 A3 A4 A5 A6 A7 A8 A9 A10 A11 A12 A13 : Type} (W : Nat → A1 → A2 → A3 → A4 → A5 → A6 → A7 → A8 → A9 → A10 → A11 → A12 → A13 → Prop) (I : A1 → A2 → A3 → A4 → A5 → A6 → A7 → A8 → A9 → A10 → A11 → A12 → A13 → Prop) (μ : A1 → A2 → A3 → A4 → A5 → A6 → A7 → A8 → A9 → A10 → A11 → A12 → A13 → Nat) (hs : ∀ (n : Nat) (a1 : A1) (a2 : A2) (a3 : A3) (a4 : A4) (a5 : A5) (a6 : A6) (a7 : A7) (a8 : A8) (a9 : A9) (a10 : A10) (a11 : A11) (a12 : A12) (a13 : A13), I a1 a2 a3 a4 a5 a6 a7 a8 a9 a10 a11 a12 a13 → (∀ (b1 : A1) (b2 : A2) (b3 : A3) (b4 : A4) (b5 : A5) (b6 : A6) (b7 : A7) (b8 : A8) (b9 : A9) (b10 : A10) (b11 : A11) (b12 : A12) (b13 : A13), I b1 b2 b3 b4 b5 b6 b7 b8 b9 b10 b11 b12 b13 → μ b1 b2 b3 b4 b5 b6 b7 b8 b9 b10 b11 b12 b13 < μ a1 a2 a3 a4 a5 a6 a7 a8 a9 a10 a11 a12 a13 → W n b1 b2 b3 b4 b5 b6 b7 b8 b9 b10 b11 b12 b13) → W (n + 1) a1 a2 a3 a4 a5 a6 a7 a8 a9 a10 a11 a12 a13) (a1 : A1) (a2 : A2) (a3 : A3) (a4 : A4) (a5 : A5) (a6 : A6) (a7 : A7) (a8 : A8) (a9 : A9) (a10 : A10) (a11 : A11) (a12 : A12) (a13 : A13) (h : I a1 a2 a3 a4 a5 a6 a7 a8 a9 a10 a11 a12 a13) : ∃ n, W n a1 a2 a3 a4 a5 a6 a7 a8 a9 a10 a11 a12 a13 :=
  loop_m (σ := A1 × A2 × A3 × A4 × A5 × A6 × A7 × A8 × A9 × A10 × A11 × A12 × A13) (fun n s => W n s.1 s.2.1 s.2.2.1 s.2.2.2.1 s.2.2.2.2.1 s.2.2.2.2.2.1 s.2.2.2.2.2.2.1 s.2.2.2.2.2.2.2.1 s.2.2.2.2.2.2.2.2.1 s.2.2.2.2.2.2.2.2.2.1 s.2.2.2.2.2.2.2.2.2.2.1 s.2.2.2.2.2.2.2.2.2.2.2.1 s.2.2.2.2.2.2.2.2.2.2.2.2) (fun s => I s.1 s.2.1 s.2.2.1 s.2.2.2.1 s.2.2.2.2.1 s.2.2.2.2.2.1 s.2.2.2.2.2.2.1 s.2.2.2.2.2.2.2.1 s.2.2.2.2.2.2.2.2.1 s.2.2.2.2.2.2.2.2.2.1 s.2.2.2.2.2.2.2.2.2.2.1 s.2.2.2.2.2.2.2.2.2.2.2.1 s.2.2.2.2.2.2.2.2.2.2.2.2) (fun s => μ s.1 s.2.1 s.2.2.1 s.2.2.2.1 s.2.2.2.2.1 s.2.2.2.2.2.1 s.2.2.2.2.2.2.1 s.2.2.2.2.2.2.2.1 s.2.2.2.2.2.2.2.2.1 s.2.2.2.2.2.2.2.2.2.1 s.2.2.2.2.2.2.2.2.2.2.1 s.2.2.2.2.2.2.2.2.2.2.2.1 s.2.2.2.2.2.2.2.2.2.2.2.2) (fun n s hI hk => hs n s.1 s.2.1 s.2.2.1 s.2.2.2.1 s.2.2.2.2.1 s.2.2.2.2.2.1 s.2.2.2.2.2.2.1 s.2.2.2.2.2.2.2.1 s.2.2.2.2.2.2.2.2.1 s.2.2.2.2.2.2.2.2.2.1 s.2.2.2.2.2.2.2.2.2.2.1 s.2.2.2.2.2.2.2.2.2.2.2.1 s.2.2.2.2.2.2.2.2.2.2.2.2 hI (fun b1 b2 b3 b4 b5 b6 b7 b8 b9 b10 b11 b12 b13 h9 hm => hk (b1, b2, b3, b4, b5, b6, b7, b8, b9, b10, b11, b12, b13) h9 hm)) (a1, a2, a3, a4, a5, a6, a7, a8, a9, a10, a11, a12, a13) h
theorem lp14 {A1 A2 A3 A4 A5 A6 A7 A8 A9 A10 A11 A12 A13 A14 : Type} (W : Nat → A1 → A2 → A3 → A4 → A5 → A6 → A7 → A8 → A9 → A10 → A11 → A12 → A13 → A14 → Prop) (I : A1 → A2 → A3 → A4 → A5 → A6 → A7 → A8 → A9 → A10 → A11 → A12 → A13 → A14 → Prop) (μ : A1 → A2 → A3 → A4 → A5 → A6 → A7 → A8 → A9 → A10 → A11 → A12 → A13 → A14 → Nat) (hs : ∀ (n : Nat) (a1 : A1) (a2 : A2) (a3 : A3) (a4 : A4) (a5 : A5) (a6 : A6) (a7 : A7) (a8 : A8) (a9 : A9) (a10 : A10) (a11 : A11) (a12 : A12) (a13 : A13) (a14 : A14), I a1 a2 a3 a4 a5 a6 a7 a8 a9 a10 a11 a12 a13 a14 → (∀ (b1 : A1) (b2 : A2) (b3 : A3) (b4 : A4) (b5 : A5) (b6 : A6) (b7 : A7) (b8 : A8) (b9 : A9) (b10 : A10) (b11 : A11) (b12 : A12) (b13 : A13) (b14 : A14), I b1 b2 b3 b4 b5 b6 b7 b8 b9 b10 b11 b12 b13 b14 → μ b1 b2 b3 b4 b5 b6 b7 b8 b9 b10 b11 b12 b13 b14 < μ a1 a2 a3 a4 a5 a6 a7 a8 a9 a10 a11 a12 a13 a14 → W n b1 b2 b3 b4 b5 b6 b7 b8 b9 b10 b11 b12 b13 b14) → W (n + 1) a1 a2 a3 a4 a5 a6 a7 a8 a9 a10 a11 a12 a13 a14) (a1 : A1) (a2 : A2) (a3 : A3) (a4 : A4) (a5 : A5) (a6 : A6) (a7 : A7) (a8 : A8) (a9 : A9) (a10 : A10) (a11 : A11) (a12 : A12) (a13 : A13) (a14 : A14) (h : I a1 a2 a3 a4 a5 a6 a7 a8 a9 a10 a11 a12 a13 a14) : ∃ n, W n a1 a2 a3 a4 a5 a6 a7 a8 a9 a10 a11 a12 a13 a14 :=
  loop_m (σ := A1 × A2 × A3 × A4 × A5 × A6 × A7 × A8 × A9 × A10 × A11 × A12 × A13 × A14) (fun n s => W n s.1 s.2.1 s.2.2.1 s.2.2.2.1 s.2.2.2.2.1 s.2.2.2.2.2.1 s.2.2.2.2.2.2.1 s.2.2.2.2.2.2.2.1 s.2.2.2.2.2.2.2.2.1 s.2.2.2.2.2.2.2.2.2.1 s.2.2.2.2.2.2.2.2.2.2.1 s.2.2.2.2.2.2.2.2.2.2.2.1 s.2.2.2.2.2.2.2.2.2.2.2.2.1 s.2.2.2.2.2.2.2.2.2.2.2.2.2) (fun s => I s.1 s.2.1 s.2.2.1 s.2.2.2.1 s.2.2.2.2.1 s.2.2.2.2.2.1 s.2.2.2.2.2.2.1 s.2.2.2.2.2.2.2.1 s.2.2.2.2.2.2.2.2.1 s.2.2.2.2.2.2.2.2.2.1 s.2.2.2.2.2.2.2.2.2.2.1 s.2.2.2.2.2.2.2.2.2.2.2.1 s.2.2.2.2.2.2.2.2.2.2.2.2.1 s.2.2.2.2.2.2.2.2.2.2.2.2.2) (fun s => μ s.1 s.2.1 s.2.2.1 s.2.2.2.1 s.2.2.2.2.1 s.2.2.2.2.2.1 s.2.2.2.2.2.2.1 s.2.2.2.2.2.2.2.1 s.2.2.2.2.2.2.2.2.1 s.2.2.2.2.2.2.2.2.2.1 s.2.2.2.2.2.2.2.2.2.2.1 s.2.2.2.2.2.2.2.2.2.2.2.1 s.2.2.2.2.2.2.2.2.2.2.2.2.1 s.2.2.2.2.2.2.2.2.2.2.2.2.2) (fun n s hI hk => hs n s.1 s.2.1 s.2.2.1 s.2.2.2.1 s.2.2.2.2.1 s.2.2.2.2.2.1 s.2.2.2.2.2.2.1 s.2.2.2.2.2.2.2.1 s.2.2.2.2.2.2.2.2.1 s.2.2.2.2.2.2.2.2.2.1 s.2.2.2.2.2.2.2.2.2.2.1 s.2.2.2.2.2.2.2.2.2.2.2.1 s.2.2.2.2.2.2.2.2.2.2.2.2.1 s.2.2.2.2.2.2.2.2.2.2.2.2.2 hI (fun b1 b2 b3 b4 b5 b6 b7 b8 b9 b10 b11 b12 b13 b14 h9 hm => hk (b1, b2, b3, b4, b5, b6, b7, b8, b9, b10, b11, b12, b13, b14) h9 hm)) (a1, a2, a3, a4, a5, a6, a7, a8, a9, a10, a11, a12, a13, a14) h
theorem lp15 {A1 A2 A3 A4 A5 A6 A7 A8 A9 A10 A11 A12 A13 A14 A15 : Type} (W : Nat → A1 → A2 → A3 → A4 → A5 → A6 → A7 → A8 → A9 → A10 → A11 → A12 → A13 → A14 → A15 → Prop) (I : A1 → A2 → A3 → A4 → A5 → A6 → A7 → A8 → A9 → A10 → A11 → A12 → A13 → A14 → A15 → Prop) (μ : A1 → A2 → A3 → A4 → A5 → A6 → A7 → A8 → A9 → A10 → A11 → A12 → A13 → A14 → A15 → Nat) (hs : ∀ (n : Nat) (a1 : A1) (a2 : A2) (a3 : A3) (a4 : A4) (a5 : A5) (a6 : A6) (a7 : A7) (a8 : A8) (a9 : A9) (a10 : A10) (a11 : A11) (a12 : A12) (a13 : A13) (a14 : A14) (a15 : A15), I a1 a2 a3 a4 a5 a6 a7 a8 a9 a10 a11 a12 a13 a14 a15 → (∀ (b1 : A1) (b2 : A2) (b3 : A3) (b4 : A4) (b5 : A5) (b6 : A6) (b7 : A7) (b8 : A8) (b9 : A9) (b10 : A10) (b11 : A11) (b12 : A12) (b13 : A13) (b14 : A14) (b15 : A15), I b1 b2 b3 b4 b5 b6 b7 b8 b9 b10 b11 b12 b13 b14 b15 → μ b1 b2 b3 b4 b5 b6 b7 b8 b9 b10 b11 b12 b13 b14 b15 < μ a1 a2 a3 a4 a5 a6 a7 a8 a9 a10 a11 a12 a13 a14 a15 → W n b1 b2 b3 b4 b5 b6 b7 b8 b9 b10 b11 b12 b13 b14 b15) → W (n + 1) a1 a2 a3 a4 a5 a6 a7 a8 a9 a10 a11 a12 a13 a14 a15) (a1 : A1) (a2 : A2) (a3 : A3) (a4 : A4) (a5 : A5) (a6 : A6) (a7 : A7) (a8 : A8) (a9 : A9) (a10 : A10) (a11 : A11) (a12 : A12) (a13 : A13) (a14 : A14) (a15 : A15) (h : I a1 a2 a3 a4 a5 a6 a7 a8 a9 a10 a11 a12 a13 a14 a15) : ∃ n, W n a1 a2 a3 a4 a5 a6 a7 a8 a9 a10 a11 a12 a13 a14 a15 :=
  loop_m (σ := A1 × A2 × A3 × A4 × A5 × A6 × A7 × A8 × A9 × A10 × A11 × A12 × A13 × A14 × A15) (fun n s => W n s.1 s.2.1 s.2.2.1 s.2.2.2.1 s.2.2.2.2.1 s.2.2.2.2.2.1 s.2.2.2.2.2.2.1 s.2.2.2.2.2.2.2.1 s.2.2.2.2.2.2.2.2.1 s.2.2.2.2.2.2.2.2.2.1 s.2.2.2.2.2.2.2.2.2.2.1 s.2.2.2.2.2.2.2.2.2.2.2.1 s.2.2.2.2.2.2.2.2.2.2.2.2.1 s.2.2.2.2.2.2.2.2.2.2.2.2.2.1 s.2.2.2.2.2.2.2.2.2.2.2.2.2.2) (fun s => I s.1 s.2.1 s.2.2.1 s.2.2.2.1 s.2.2.2.2.1 s.2.2.2.2.2.1 s.2.2.2.2.2.2.1 s.2.2.2.2.2.2.2.1 s.2.2.2.2.2.2.2.2.1 s.2.2.2.2.2.2.2.2.2.1 s.2.2.2.2.2.2.2.2.2.2.1 s.2.2.2.2.2.2.2.2.2.2.2.1 s.2.2.2.2.2.2.2.2.2.2.2.2.1 s.2.2.2.2.2.2.2.2.2.2.2.2.2.1 s.2.2.2.2.2.2.2.2.2.2.2.2.2.2) (fun s => μ s.1 s.2.1 s.2.2.1 s.2.2.2.1 s.2.2.2.2.1 s.2.2.2.2.2.1 s.2.2.2.2.2.2.1 s.2.2.2.2.2.2.2.1 s.2.2.2.2.2.2.2.2.1 s.2.2.2.2.2.2.2.2.2.1 s.2.2.2.2.2.2.2.2.2.2.1 s.2.2.2.2.2.2.2.2.2.2.2.1 s.2.2.2.2.2.2.2.2.2.2.2.2.1 s.2.2.2.2.2.2.2.2.2.2.2.2.2.1 s.2.2.2.2.2.2.2.2.2.2.2.2.2.2) (fun n s hI hk => hs n s.1 s.2.1 s.2.2.1 s.2.2.2.1 s.2.2.2.2.1 s.2.2.2.2.2.1 s.2.2.2.2.2.2.1 s.2.2.2.2.2.2.2.1 s.2.2.2.2.2.2.2.2.1 s.2.2.2.2.2.2.2.2.2.1 s.2.2.2.2.2.2.2.2.2.2.1 s.2.2.2.2.2.2.2.2.2.2.2.1 s.2.2.2.2.2.2.2.2.2.2.2.2.1 s.2.2.2.2.2.2.2.2.2.2.2.2.2.1 s.2.2.2.2.2.2.2.2.2.2.2.2.2.2 hI (fun b1 b2 b3 b4 b5 b6 b7 b8 b9 b10 b11 b12 b13 b14 b15 h9 hm => hk (b1, b2, b3, b4, b5, b6, b7, b8, b9, b10, b11, b12, b13, b14, b15) h9 hm)) (a1, a2, a3, a4, a5, a6, a7, a8, a9, a10, a11, a12, a13, a14, a15) h
theorem lp16 {A1 A2 A3 A4 A5 A6 A7 A8 A9 A10 A11 A12 A13 A14 A15 A16 : Type} (W : Nat → A1 → A2 → A3 → A4 → A5 → A6 → A7 → A8 → A9 → A10 → A11 → A12 → A13 → A14 → A15 → A16 → Prop) (I : A1 → A2 → A3 → A4 → A5 → A6 → A7 → A8 → A9 → A10 → A11 → A12 → A13 → A14 → A15 → A16 → Prop) (μ : A1 → A2 → A3 → A4 → A5 → A6 → A7 → A8 → A9 → A10 → A11 → A12 → A13 → A14 → A15 → A16 → Nat) (hs : ∀ (n : Nat) (a1 : A1) (a2 : A2) (a3 : A3) (a4 : A4) (a5 : A5) (a6 : A6) (a7 : A7) (a8 : A8) (a9 : A9) (a10 : A10) (a11 : A11) (a12 : A12) (a13 : A13) (a14 : A14) (a15 : A15) (a16 : A16), I a1 a2 a3 a4 a5 a6 a7 a8 a9 a10 a11 a12 a13 a14 a15 a16 → (∀ (b1 : A1) (b2 : A2) (b3 : A3) (b4 : A4) (b5 : A5) (b6 : A6) (b7 : A7) (b8 : A8) (b9 : A9) (b10 : A10) (b11 : A11) (b12 : A12) (b13 : A13) (b14 : A14) (b15 : A15) (b16 : A16), I b1 b2 b3 b4 b5 b6 b7 b8 b9 b10 b11 b12 b13 b14 b15 b16 → μ b1 b2 b3 b4 b5 b6 b7 b8 b9 b10 b11 b12 b13 b14 b15 b16 < μ a1 a2 a3 a4 a5 a6 a7 a8 a9 a10 a11 a12 a13 a14 a15 a16 → W n b1 b2 b3 b4 b5 b6 b7 b8 b9 b10 b11 b12 b13 b14 b15 b16) → W (n + 1) a1 a2 a3 a4 a5 a6 a7 a8 a9 a10 a11 a12 a13 a14 a15 a16) (a1 : A1) (a2 : A2) (a3 : A3) (a4 : A4) (a5 : A5) (a6 : A6) (a7 : A7) (a8 : A8) (a9 : A9) (a10 : A10) (a11 : A11) (a12 : A12) (a13 : A13) (a14 : A14) (a15 : A15) (a16 : A16) (h : I a1 a2 a3 a4 a5 a6 a7 a8 a9 a10 a11 a12 a13 a14 a15 a16) : ∃ n, W n a1 a2 a3 a4 a5 a6 a7 a8 a9 a10 a11 a12 a13 a14 a15 a16 :=
  loop_m (σ := A1 × A2 × A3 × A4 × A5 × A6 × A7 × A8 × A9 × A10 × A11 × A12 × A13 × A14 × A15 × A16) (fun n s => W n s.1 s.2.1 s.2.2.1 s.2.2.2.1 s.2.2.2.2.1 s.2.2.2.2.2.1 s.2.2.2.2.2.2.1 s.2.2.2.2.2.2.2.1 s.2.2.2.2.2.2.2.2.1 s.2.2.2.2.2.2.2.2.2.1 s.2.2.2.2.2.2.2.2.2.2.1 s.2.2.2.2.2.2.2.2.2.2.2.1 s.2.2.2.2.2.2.2.2.2.2.2.2.1 s.2.2.2.2.2.2.2.2.2.2.2.2.2.1 s.2.2.2.2.2.2.2.2.2.2.2.2.2.2.1 s.2.2.2.2.2.2.2.2.2.2.2.2.2.2.2) (fun s => I s.1 s.2.1 s.2.2.1 s.2.2.2.1 s.2.2.2.2.1 s.2.2.2.2.2.1 s.2.2.2.2.2.2.1 s.2.2.2.2.2.2.2.1 s.2.2.2.2.2.2.2.2.1 s.2.2.2.2.2.2.2.2.2.1 s.2.2.2.2.2.2.2.2.2.2.1 s.2.2.2.2.2.2.2.2.2.2.2.1 s.2.2.2.2.2.2.2.2.2.2.2.2.1 s.2.2.2.2.2.2.2.2.2.2.2.2.2.1 s.2.2.2.2.2.2.2.2.2.2.2.2.2.2.1 s.2.2.2.2.2.2.2.2.2.2.2.2.2.2.2) (fun s => μ s.1 s.2.1 s.2.2.1 s.2.2.2.1 s.2.2.2.2.1 s.2.2.2.2.2.1 s.2.2.2.2.2.2.1 s.2.2.2.2.2.2.2.1 s.2.2.2.2.2.2.2.2.1 s.2.2.2.2.2.2.2.2.2.1 s.2.2.2.2.2.2.2.2.2.2.1 s.2.2.2.2.2.2.2.2.2.2.2.1 s.2.2.2.2.2.2.2.2.2.2.2.2.1 s.2.2.2.2.2.2.2.2.2.2.2.2.2.1 s.2.2.2.2.2.2.2.2.2.2.2.2.2.2.1 s.2.2.2.2.2.2.2.2.2.2.2.2.2.2.2) (fun n s hI hk => hs n s.1 s.2.1 s.2.2.1 s.2.2.2.1 s.2.2.2.2.1 s.2.2.2.2.2.1 s.2.2.2.2.2.2.1 s.2.2.2.2.2.2.2.1 s.2.2.2.2.2.2.2.2.1 s.2.2.2.2.2.2.2.2.2.1 s.2.2.2.2.2.2.2.2.2.2.1 s.2.2.2.2.2.2.2.2.2.2.2.1 s.2.2.2.2.2.2.2.2.2.2.2.2.1 s.2.2.2.2.2.2.2.2.2.2.2.2.2.1 s.2.2.2.2.2.2.2.2.2.2.2.2.2.2.1 s.2.2.2.2.2.2.2.2.2.2.2.2.2.2.2 hI (fun b1 b2 b3 b4 b5 b6 b7 b8 b9 b10 b11 b12 b13 b14 b15 b16 h9 hm => hk (b1, b2, b3, b4, b5, b6, b7, b8, b9, b10, b11, b12, b13, b14, b15, b16) h9 hm)) (a1, a2, a3, a4, a5, a6, a7, a8, a9, a10, a11, a12, a13, a14, a15, a16) h
theorem pk_least (P : Nat → Prop) (h : ∃ k, P k) : ∃ k, P k ∧ ∀ j, j < k → ¬ P j := by
  obtain ⟨k, hk⟩ := h
  induction k using Nat.strongRecOn with
  | ind k ih =>
    by_cases e : ∃ j, j < k ∧ P j
    · obtain ⟨j, hj, pj⟩ := e
      exact ih j hj pj
    · exact ⟨k, hk, fun j hj pj => e ⟨j, hj, pj⟩⟩
/-! ===== Int32 by its bits: bt x i ===== -/
def bt (x : Int32) (i : Nat) : Bool := x.toBitVec.getLsbD i
theorem b_ext {x y : Int32} (h : ∀ i, i < 32 → bt x i = bt y i) : x = y := Int32.toBitVec_inj.mp (BitVec.eq_of_getLsbD_eq (fun i hi => h i hi))
theorem b_or (x y : Int32) (i : Nat) : bt (x ||| y) i = (bt x i || bt y i) := by unfold bt; rw [Int32.toBitVec_or, BitVec.getLsbD_or]
theorem b_and (x y : Int32) (i : Nat) : bt (x &&& y) i = (bt x i && bt y i) := by unfold bt; rw [Int32.toBitVec_and, BitVec.getLsbD_and]
theorem b_xor (x y : Int32) (i : Nat) : bt (x ^^^ y) i = (bt x i ^^ bt y i) := by unfold bt; rw [Int32.toBitVec_xor, BitVec.getLsbD_xor]
theorem b_big {x : Int32} {i : Nat} (h : 32 ≤ i) : bt x i = false := BitVec.getLsbD_of_ge _ _ h
theorem b_255 (i : Nat) : bt 255 i = decide (i < 8) := by
  rcases Nat.lt_or_ge i 32 with h | h
  · exact (by decide +kernel : ∀ i, i < 32 → bt 255 i = decide (i < 8)) i h
  · rw [b_big h, decide_eq_false (by omega)]
theorem b_65535 (i : Nat) : bt 65535 i = decide (i < 16) := by
  rcases Nat.lt_or_ge i 32 with h | h
  · exact (by decide +kernel : ∀ i, i < 32 → bt 65535 i = decide (i < 16)) i h
  · rw [b_big h, decide_eq_false (by omega)]
theorem b_m1 : ∀ i, i < 32 → bt (-1) i = true := by decide +kernel
theorem b_0 (i : Nat) : bt 0 i = false := BitVec.getLsbD_zero
theorem s_l : ∀ n, n < 32 → ((nI n &&& 31).toBitVec.smod 32).toNat = n := by decide +kernel
theorem s_u : ∀ n, n < 32 → (((nI n).toUInt32 &&& Int32.toUInt32 31).toBitVec % 32).toNat = n := by decide +kernel
theorem b_shl (n : Nat) (hn : n < 32) (x : Int32) {i : Nat} (hi : i < 32) : bt (x <<< (nI n &&& 31)) i = (decide (n ≤ i) && bt x (i - n)) := by
  unfold bt
  rw [Int32.toBitVec_shiftLeft]
  show (x.toBitVec <<< ((nI n &&& 31).toBitVec.smod 32).toNat).getLsbD i = _
  rw [s_l n hn, BitVec.getLsbD_shiftLeft]
  rcases Nat.lt_or_ge i n with h | h
  · simp [h, Nat.not_le.mpr h]
  · simp [hi, h, Nat.not_lt.mpr h]
theorem b_ushr (n : Nat) (hn : n < 32) (x : Int32) (i : Nat) : bt ((x.toUInt32 >>> ((nI n).toUInt32 &&& Int32.toUInt32 31)).toInt32) i = bt x (n + i) := by
  show (x.toUInt32 >>> ((nI n).toUInt32 &&& Int32.toUInt32 31)).toBitVec.getLsbD i = x.toUInt32.toBitVec.getLsbD (n + i)
  rw [UInt32.toBitVec_shiftRight]
  show (x.toUInt32.toBitVec >>> (((nI n).toUInt32 &&& Int32.toUInt32 31).toBitVec % 32).toNat).getLsbD i = _
  rw [s_u n hn, BitVec.getLsbD_ushiftRight]
theorem b_sshr (n : Nat) (hn : n < 32) (x : Int32) {i : Nat} (hi : i < 32) : bt (x >>> (nI n &&& 31)) i = if n + i < 32 then bt x (n + i) else bt x 31 := by
  unfold bt
  rw [Int32.toBitVec_shiftRight]
  show (x.toBitVec.sshiftRight ((nI n &&& 31).toBitVec.smod 32).toNat).getLsbD i = _
  rw [s_l n hn, BitVec.getLsbD_sshiftRight, BitVec.msb_eq_getLsbD_last]
  simp [hi]
theorem b_shl8 (x : Int32) {i : Nat} (hi : i < 32) : bt (x <<< ((8 : Int32) &&& 31)) i = (decide (8 ≤ i) && bt x (i - 8)) := b_shl 8 (by omega) x hi
theorem b_shl16 (x : Int32) {i : Nat} (hi : i < 32) : bt (x <<< ((16 : Int32) &&& 31)) i = (decide (16 ≤ i) && bt x (i - 16)) := b_shl 16 (by omega) x hi
theorem b_shl24 (x : Int32) {i : Nat} (hi : i < 32) : bt (x <<< ((24 : Int32) &&& 31)) i = (decide (24 ≤ i) && bt x (i - 24)) := b_shl 24 (by omega) x hi
theorem b_sshr8 (x : Int32) {i : Nat} (hi : i < 32) : bt (x >>> ((8 : Int32) &&& 31)) i = if 8 + i < 32 then bt x (8 + i) else bt x 31 := b_sshr 8 (by omega) x hi
theorem ts_nf {x : Bool} (h : ¬ x = false) : x = true := by cases x <;> first | rfl | exact absurd rfl h
theorem ts_nt {x : Bool} (h : ¬ x = true) : x = false := by cases x <;> first | rfl | exact absurd rfl h
end
section
/-! Int64 by its bits -/
def bl (x : Int64) (i : Nat) : Bool := x.toBitVec.getLsbD i
theorem bl_ext {x y : Int64} (h : ∀ i, i < 64 → bl x i = bl y i) : x = y := Int64.toBitVec_inj.mp (BitVec.eq_of_getLsbD_eq (fun i hi => h i hi))
theorem bl_or (x y : Int64) (i : Nat) : bl (x ||| y) i = (bl x i || bl y i) := by unfold bl; rw [Int64.toBitVec_or, BitVec.getLsbD_or]
theorem bl_and (x y : Int64) (i : Nat) : bl (x &&& y) i = (bl x i && bl y i) := by unfold bl; rw [Int64.toBitVec_and, BitVec.getLsbD_and]
theorem bl_xor (x y : Int64) (i : Nat) : bl (x ^^^ y) i = (bl x i ^^ bl y i) := by unfold bl; rw [Int64.toBitVec_xor, BitVec.getLsbD_xor]
theorem bl_big {x : Int64} {i : Nat} (h : 64 ≤ i) : bl x i = false := BitVec.getLsbD_of_ge _ _ h
theorem bl_0 (i : Nat) : bl 0 i = false := BitVec.getLsbD_zero
theorem bl_m1 : ∀ i, i < 64 → bl (-1) i = true := by decide +kernel
theorem bl_not (x : Int64) {i : Nat} (hi : i < 64) : bl (x ^^^ (-1)) i = !bl x i := by rw [bl_xor, bl_m1 i hi]; cases bl x i <;> rfl
theorem bl_s : ∀ n, n < 64 → (((nI n).toInt64 &&& 63).toBitVec.smod 64).toNat = n := by decide +kernel
theorem bl_shl (n : Nat) (hn : n < 64) (x : Int64) {i : Nat} (hi : i < 64) : bl (x <<< ((nI n).toInt64 &&& 63)) i = (decide (n ≤ i) && bl x (i - n)) := by
  unfold bl
  rw [Int64.toBitVec_shiftLeft]
  show (x.toBitVec <<< (((nI n).toInt64 &&& 63).toBitVec.smod 64).toNat).getLsbD i = _
  rw [bl_s n hn, BitVec.getLsbD_shiftLeft]
  rcases Nat.lt_or_ge i n with h | h
  · simp [h, Nat.not_le.mpr h]
  · simp [hi, h, Nat.not_lt.mpr h]
theorem bl_sshr (n : Nat) (hn : n < 64) (x : Int64) {i : Nat} (hi : i < 64) : bl (x >>> ((nI n).toInt64 &&& 63)) i = if n + i < 64 then bl x (n + i) else bl x 63 := by
  unfold bl
  rw [Int64.toBitVec_shiftRight]
  show (x.toBitVec.sshiftRight (((nI n).toInt64 &&& 63).toBitVec.smod 64).toNat).getLsbD i = _
  rw [bl_s n hn, BitVec.getLsbD_sshiftRight, BitVec.msb_eq_getLsbD_last]
  simp [hi]
theorem bl_1b (i : Nat) : bl 1 i = decide (i = 0) := by
  rcases Nat.lt_or_ge i 64 with h | h
  · exact (by decide +kernel : ∀ i, i < 64 → bl 1 i = decide (i = 0)) i h
  · rw [bl_big h, decide_eq_false (by omega)]
theorem bl_2b (i : Nat) : bl 2 i = decide (i = 1) := by
  rcases Nat.lt_or_ge i 64 with h | h
  · exact (by decide +kernel : ∀ i, i < 64 → bl 2 i = decide (i = 1)) i h
  · rw [bl_big h, decide_eq_false (by omega)]
theorem b_1b (i : Nat) : bt 1 i = decide (i = 0) := by
  rcases Nat.lt_or_ge i 32 with h | h
  · exact (by decide +kernel : ∀ i, i < 32 → bt 1 i = decide (i = 0)) i h
  · rw [b_big h, decide_eq_false (by omega)]
theorem b_2b (i : Nat) : bt 2 i = decide (i = 1) := by
  rcases Nat.lt_or_ge i 32 with h | h
  · exact (by decide +kernel : ∀ i, i < 32 → bt 2 i = decide (i = 1)) i h
  · rw [b_big h, decide_eq_false (by omega)]
theorem bl_one (n : Nat) (hn : n < 64) (i : Nat) : bl ((1 : Int64) <<< ((nI n).toInt64 &&& 63)) i = decide (i = n) := by
  rcases Nat.lt_or_ge i 64 with h | h
  · rw [bl_shl n hn _ h, bl_1b]
    by_cases e : i = n
    · subst e; simp
    · rcases Nat.lt_or_ge i n with z | z
      · simp [e, Nat.not_le.mpr z]
      · have : i - n ≠ 0 := by omega
        simp [e, this]
  · rw [bl_big h, decide_eq_false (by omega)]
theorem bl_two (n : Nat) (hn : n < 63) (i : Nat) : bl ((2 : Int64) <<< ((nI n).toInt64 &&& 63)) i = decide (i = n + 1) := by
  rcases Nat.lt_or_ge i 64 with h | h
  · rw [bl_shl n (by omega) _ h, bl_2b]
    by_cases e : i = n + 1
    · subst e; simp
    · rcases Nat.lt_or_ge i n with z | z
      · simp [e, Nat.not_le.mpr z]
      · have : i - n ≠ 1 := by omega
        simp [e, this]
  · rw [bl_big h, decide_eq_false (by omega)]
theorem b_one (n : Nat) (hn : n < 32) (i : Nat) : bt ((1 : Int32) <<< (nI n &&& 31)) i = decide (i = n) := by
  rcases Nat.lt_or_ge i 32 with h | h
  · rw [b_shl n hn _ h, b_1b]
    by_cases e : i = n
    · subst e; simp
    · rcases Nat.lt_or_ge i n with z | z
      · simp [e, Nat.not_le.mpr z]
      · have : i - n ≠ 0 := by omega
        simp [e, this]
  · rw [b_big h, decide_eq_false (by omega)]
theorem b_two (n : Nat) (hn : n < 31) (i : Nat) : bt ((2 : Int32) <<< (nI n &&& 31)) i = decide (i = n + 1) := by
  rcases Nat.lt_or_ge i 32 with h | h
  · rw [b_shl n (by omega) _ h, b_2b]
    by_cases e : i = n + 1
    · subst e; simp
    · rcases Nat.lt_or_ge i n with z | z
      · simp [e, Nat.not_le.mpr z]
      · have : i - n ≠ 1 := by omega
        simp [e, this]
  · rw [b_big h, decide_eq_false (by omega)]
/-- x & 1 is 1 where bit 0 is set, else 0 -/
theorem b_and1 (x : Int32) : x &&& 1 = if bt x 0 = true then 1 else 0 := by
  apply b_ext
  intro i hi
  rw [b_and, b_1b]
  by_cases h0 : i = 0
  · subst h0
    cases h : bt x 0
    · rw [if_neg (by simp), b_0]; simp
    · rw [if_pos rfl, b_1b]; simp
  · cases h : bt x 0
    · rw [if_neg (by simp), b_0]; simp [h0]
    · rw [if_pos rfl, b_1b]; simp [h0]
theorem bl_and1 (x : Int64) : x &&& 1 = if bl x 0 = true then 1 else 0 := by
  apply bl_ext
  intro i hi
  rw [bl_and, bl_1b]
  by_cases h0 : i = 0
  · subst h0
    cases h : bl x 0
    · rw [if_neg (by simp), bl_0]; simp
    · rw [if_pos rfl, bl_1b]; simp
  · cases h : bl x 0
    · rw [if_neg (by simp), bl_0]; simp [h0]
    · rw [if_pos rfl, bl_1b]; simp [h0]
theorem b_test (x : Int32) {n : Nat} (hn : n < 32) : (x >>> (nI n &&& 31)) &&& 1 = 1 ↔ bt x n = true := by
  have e : bt (x >>> (nI n &&& 31)) 0 = bt x n := by rw [b_sshr n hn x (by omega), if_pos (by omega), Nat.add_zero]
  rw [b_and1, e]
  cases h : bt x n
  · simp
  · simp
theorem b_test0 (x : Int32) {n : Nat} (hn : n < 32) : (x >>> (nI n &&& 31)) &&& 1 = 0 ↔ bt x n = false := by
  have e : bt (x >>> (nI n &&& 31)) 0 = bt x n := by rw [b_sshr n hn x (by omega), if_pos (by omega), Nat.add_zero]
  rw [b_and1, e]
  cases h : bt x n
  · simp
  · simp
theorem bl_test (x : Int64) {n : Nat} (hn : n < 64) : (x >>> ((nI n).toInt64 &&& 63)) &&& 1 = 1 ↔ bl x n = true := by
  have e : bl (x >>> ((nI n).toInt64 &&& 63)) 0 = bl x n := by rw [bl_sshr n hn x (by omega), if_pos (by omega), Nat.add_zero]
  rw [bl_and1, e]
  cases h : bl x n
  · simp
  · simp
theorem bl_test0 (x : Int64) {n : Nat} (hn : n < 64) : (x >>> ((nI n).toInt64 &&& 63)) &&& 1 = 0 ↔ bl x n = false := by
  have e : bl (x >>> ((nI n).toInt64 &&& 63)) 0 = bl x n := by rw [bl_sshr n hn x (by omega), if_pos (by omega), Nat.add_zero]
  rw [bl_and1, e]
  cases h : bl x n
  · simp
  · simp
theorem bl_zero {x : Int64} : x = 0 ↔ ∀ i, i < 64 → bl x i = false := by
  constructor
  · rintro rfl i _; exact bl_0 i
  · intro h; exact bl_ext fun i hi => by rw [h i hi, bl_0]
theorem b_zero {x : Int32} : x = 0 ↔ ∀ i, i < 32 → bt x i = false := by
  constructor
  · rintro rfl i _; exact b_0 i
  · intro h; exact b_ext fun i hi => by rw [h i hi, b_0]
/-- a set of numbers below 64 as a mask -/
noncomputable def mk_r (P : Nat → Prop) : Nat → Int64
  | 0 => 0
  | n + 1 => mk_r P n ||| @ite Int64 (P n) (Classical.propDecidable _) ((1 : Int64) <<< ((nI n).toInt64 &&& 63)) 0
theorem mk_rb (P : Nat → Prop) (i : Nat) : ∀ n, n ≤ 64 → (bl (mk_r P n) i = true ↔ i < n ∧ P i) := by
  intro n
  induction n with
  | zero => intro _; show bl 0 i = true ↔ _; rw [bl_0]; exact ⟨(fun h => by cases h), fun h => by omega⟩
  | succ n ih =>
    intro hn
    show bl (mk_r P n ||| @ite Int64 (P n) (Classical.propDecidable _) ((1 : Int64) <<< ((nI n).toInt64 &&& 63)) 0) i = true ↔ _
    rw [bl_or, Bool.or_eq_true, ih (by omega)]
    by_cases hp : P n
    · rw [if_pos hp, bl_one n (by omega), decide_eq_true_eq]
      constructor
      · rintro (⟨h1, h2⟩ | rfl)
        · exact ⟨by omega, h2⟩
        · exact ⟨by omega, hp⟩
      · rintro ⟨h1, h2⟩
        rcases Nat.lt_or_ge i n with z | z
        · exact Or.inl ⟨z, h2⟩
        · exact Or.inr (by omega)
    · rw [if_neg hp, bl_0]
      constructor
      · rintro (⟨h1, h2⟩ | h)
        · exact ⟨by omega, h2⟩
        · cases h
      · rintro ⟨h1, h2⟩
        rcases Nat.lt_or_ge i n with z | z
        · exact Or.inl ⟨z, h2⟩
        · have e : i = n := by omega
          subst e; exact absurd h2 hp
noncomputable def mk_l (P : Nat → Prop) : Int64 := mk_r P 64
theorem mk_bl (P : Nat → Prop) {i : Nat} (hi : i < 64) : bl (mk_l P) i = true ↔ P i := by
  unfold mk_l
  rw [mk_rb P i 64 (Nat.le_refl _)]
  exact ⟨fun h => h.2, fun h => ⟨hi, h⟩⟩
end
section
/-! indices and stretches of arrays -/
theorem ix_m (a k b : Nat) : nI a * nI k + nI b = nI (a * k + b) := by rw [pk_mul, nI_add]
theorem ix_7 (p i : Nat) : nI p * 7 + nI i = nI (p * 7 + i) := ix_m p 7 i
theorem ix_3 (p i : Nat) : nI p * 3 + nI i = nI (p * 3 + i) := ix_m p 3 i
theorem ix_4 (p i : Nat) : nI p * 4 + nI i = nI (p * 4 + i) := ix_m p 4 i
theorem ix_5 (p i : Nat) : nI p * 5 + nI i = nI (p * 5 + i) := ix_m p 5 i
theorem ix_l (k p i : Nat) : nI k * nI p + nI i = nI (p * k + i) := by rw [ix_m, Nat.mul_comm]
theorem ix_25 (p i : Nat) : 25 * nI p + nI i = nI (p * 25 + i) := ix_l 25 p i
theorem ix_l4 (p i : Nat) : 4 * nI p + nI i = nI (p * 4 + i) := ix_l 4 p i
theorem ix_l3 (p i : Nat) : 3 * nI p + nI i = nI (p * 3 + i) := ix_l 3 p i
theorem ix_l5 (p i : Nat) : 5 * nI p + nI i = nI (p * 5 + i) := ix_l 5 p i
theorem ix_8 (i : Nat) : 8 + nI i = nI (8 + i) := nI_add 8 i
/-- the array with the n values v at b, b + 1 .. -/
def ax_set {α : Type} (a : Nat → α) (b n : Nat) (v : Nat → α) : Nat → α := fun j => if b ≤ j ∧ j < b + n then v (j - b) else a j
theorem ax_0 {α : Type} (a : Nat → α) (b : Nat) (v : Nat → α) : ax_set a b 0 v = a := by
  funext j
  exact if_neg (by omega)
theorem ax_s (a : Nat → Int32) (b n : Nat) (v : Nat → Int32) : upd (ax_set a b n v) (b + n) (v n) = ax_set a b (n + 1) v := by
  funext j
  unfold upd ax_set
  by_cases h : j = b + n
  · subst h
    rw [if_pos rfl, if_pos (by omega), Nat.add_sub_cancel_left]
  · rw [if_neg h]
    by_cases h2 : b ≤ j ∧ j < b + n
    · rw [if_pos h2, if_pos (by omega)]
    · rw [if_neg h2, if_neg (by omega)]
theorem ax_sL (a : Nat → Int64) (b n : Nat) (v : Nat → Int64) : vp_updL (ax_set a b n v) (b + n) (v n) = ax_set a b (n + 1) v := by
  funext j
  unfold vp_updL ax_set
  by_cases h : j = b + n
  · subst h
    rw [if_pos rfl, if_pos (by omega), Nat.add_sub_cancel_left]
  · rw [if_neg h]
    by_cases h2 : b ≤ j ∧ j < b + n
    · rw [if_pos h2, if_pos (by omega)]
    · rw [if_neg h2, if_neg (by omega)]
theorem ax_in {α : Type} {a : Nat → α} {b n j : Nat} {v : Nat → α} (h : j < n) : ax_set a b n v (b + j) = v j := by
  unfold ax_set
  rw [if_pos (by omega), Nat.add_sub_cancel_left]
theorem ax_out {α : Type} {a : Nat → α} {b n j : Nat} {v : Nat → α} (h : j < b ∨ b + n ≤ j) : ax_set a b n v j = a j := if_neg (by omega)
theorem ax_up (a : Nat → Int32) (k : Nat) (x : Int32) (j : Nat) : upd a k x j = if j = k then x else a j := rfl
theorem ax_upL (a : Nat → Int64) (k : Nat) (x : Int64) (j : Nat) : vp_updL a k x j = if j = k then x else a j := rfl
end
section
/-! counting -/
noncomputable def cn_b (P : Prop) : Nat := @ite Nat P (Classical.propDecidable P) 1 0
theorem cn_bt {P : Prop} (h : P) : cn_b P = 1 := by unfold cn_b; rw [if_pos h]
theorem cn_bf {P : Prop} (h : ¬ P) : cn_b P = 0 := by unfold cn_b; rw [if_neg h]
theorem cn_ble (P : Prop) : cn_b P ≤ 1 := by
  rcases Classical.em P with h | h
  · rw [cn_bt h]; omega
  · rw [cn_bf h]; omega
theorem cn_bm {P Q : Prop} (h : P → Q) : cn_b P ≤ cn_b Q := by
  rcases Classical.em P with hp | hp
  · rw [cn_bt hp, cn_bt (h hp)]; omega
  · rw [cn_bf hp]; omega
noncomputable def cn_c (P : Nat → Prop) : Nat → Nat
  | 0 => 0
  | k + 1 => cn_c P k + cn_b (P k)
theorem cn_mono {P Q : Nat → Prop} : ∀ {N : Nat}, (∀ k, k < N → P k → Q k) → cn_c P N ≤ cn_c Q N
  | 0, _ => Nat.le_refl _
  | N + 1, h => by
    have a := cn_mono (P := P) (Q := Q) (N := N) (fun k hk => h k (by omega))
    have b := cn_bm (h N (by omega))
    simp only [cn_c]; omega
theorem cn_lt {P Q : Nat → Prop} {a : Nat} (hp : ¬ P a) (hq : Q a) : ∀ {N : Nat}, (∀ k, k < N → P k → Q k) → a < N → cn_c P N < cn_c Q N
  | 0, _, h => by omega
  | N + 1, h, ha => by
    simp only [cn_c]
    rcases Nat.lt_or_ge a N with z | z
    · have x := cn_lt hp hq (N := N) (fun k hk => h k (by omega)) z
      have b := cn_bm (h N (by omega))
      omega
    · have e : a = N := by omega
      subst e
      have x := cn_mono (P := P) (Q := Q) (N := a) (fun k hk => h k (by omega))
      rw [cn_bt hq, cn_bf hp]; omega
theorem cn_le (P : Nat → Prop) : ∀ N, cn_c P N ≤ N
  | 0 => Nat.le_refl _
  | N + 1 => by have := cn_le P N; have := cn_ble (P N); simp only [cn_c]; omega
theorem cn_eq {P Q : Nat → Prop} {N : Nat} (h : ∀ k, k < N → (P k ↔ Q k)) : cn_c P N = cn_c Q N :=
  Nat.le_antisymm (cn_mono fun k hk => (h k hk).mp) (cn_mono fun k hk => (h k hk).mpr)
/-- a rising chain of sets below N, each made of the one before, stands still at N -/
theorem cn_chain (S : Nat → Nat → Prop) (N : Nat) (hm : ∀ d x, S d x → S (d + 1) x)
    (hs : ∀ d, (∀ x, S (d + 1) x → S d x) → ∀ x, S (d + 2) x → S (d + 1) x) (hN : ∀ d x, S d x → x < N) : ∀ d x, S d x → S N x := by
  have mono : ∀ e k x, S e x → S (e + k) x := by
    intro e k
    induction k with
    | zero => intro x h; exact h
    | succ k ih => intro x h; exact hm _ _ (ih x h)
  have key : ∀ d, (∃ e, e < d ∧ ∀ x, S (e + 1) x → S e x) ∨ d ≤ cn_c (S d) N := by
    intro d
    induction d with
    | zero => exact Or.inr (Nat.zero_le _)
    | succ d ih =>
      rcases ih with ⟨e, he, h⟩ | h
      · exact Or.inl ⟨e, by omega, h⟩
      · rcases Classical.em (∀ x, S (d + 1) x → S d x) with hst | hst
        · exact Or.inl ⟨d, by omega, hst⟩
        · obtain ⟨x, hx⟩ := Classical.not_forall.mp hst
          have hx1 : S (d + 1) x := Classical.byContradiction fun z => hx (fun y => absurd y z)
          have hx2 : ¬ S d x := fun z => hx (fun _ => z)
          have := cn_lt (P := S d) (Q := S (d + 1)) hx2 hx1 (N := N) (fun k _ h => hm d k h) (hN _ _ hx1)
          exact Or.inr (by omega)
  rcases key (N + 1) with ⟨e, he, h⟩ | h
  · have st : ∀ k x, S (e + k + 1) x → S (e + k) x := by
      intro k
      induction k with
      | zero => exact h
      | succ k ih => exact hs (e + k) ih
    have dn : ∀ k x, S (e + k) x → S e x := by
      intro k
      induction k with
      | zero => intro x h; exact h
      | succ k ih => intro x h; exact ih x (st k x h)
    intro d x hx
    have h1 : S (e + d) x := by rw [Nat.add_comm]; exact mono d e x hx
    have h2 := mono e (N - e) x (dn d x h1)
    rwa [show e + (N - e) = N by omega] at h2
  · have := cn_le (S (N + 1)) N
    omega
/-! a grammar: its rules in use, lefts, sizes, rights; a text: kinds and their number; an algebra: a leaf's and a node's value -/
abbrev gr_T : Type := (Nat → Prop) × (Nat → Nat) × (Nat → Nat) × (Nat → Nat → Nat)
def gr_U (G : gr_T) : Nat → Prop := G.1
def gr_l (G : gr_T) : Nat → Nat := G.2.1
def gr_c (G : gr_T) : Nat → Nat := G.2.2.1
def gr_h (G : gr_T) : Nat → Nat → Nat := G.2.2.2
/-- what is known of a grammar: rule 9 is the first one -/
def gr_ok (G : gr_T) : Prop := (∀ r, gr_U G r → r < 9 ∧ 3 ≤ gr_l G r ∧ gr_l G r < 7) ∧ (∀ r, gr_U G r ∨ r = 9 → gr_c G r ≤ 4 ∧ ∀ k, k < gr_c G r → gr_h G r k < 7) ∧ gr_l G 9 = 7 ∧ gr_c G 9 = 1 ∧ gr_h G 9 0 = 3
abbrev tx_T : Type := (Nat → Nat) × Nat
def tx_k (X : tx_T) (j : Nat) : Nat := if j < X.2 then X.1 j else 3
def tx_ok (X : tx_T) : Prop := ∀ i, i < X.2 → X.1 i < 3
abbrev al_T (V : Type) : Type := (Nat → V) × (Nat → List V → V)
def dv_pre {V : Type} (h : Nat → Nat) (Q : Nat → Nat → Nat → V → Prop) : Nat → Nat → Nat → List V → Prop
  | 0 => fun i j vs => i = j ∧ vs = []
  | k + 1 => fun i j vs => ∃ m v ws, dv_pre h Q k i m ws ∧ Q (h k) m j v ∧ vs = v :: ws
def dv_tr {V : Type} (G : gr_T) (X : tx_T) (A : al_T V) : Nat → Nat → Nat → Nat → V → Prop
  | 0 => fun s i j v => s < 3 ∧ i < X.2 ∧ X.1 i = s ∧ j = i + 1 ∧ v = A.1 i
  | d + 1 => fun s i j v => dv_tr G X A d s i j v ∨ ∃ r vs, gr_U G r ∧ gr_l G r = s ∧ dv_pre (gr_h G r) (dv_tr G X A d) (gr_c G r) i j vs ∧ v = A.2 r vs
theorem dv_pre_mono {V : Type} {h : Nat → Nat} {Q Q' : Nat → Nat → Nat → V → Prop} (hq : ∀ s i j v, Q s i j v → Q' s i j v) : ∀ k i j vs, dv_pre h Q k i j vs → dv_pre h Q' k i j vs := by
  intro k
  induction k with
  | zero => intro i j vs z; exact z
  | succ k ih =>
    intro i j vs z
    obtain ⟨m, v, ws, h1, h2, h3⟩ := z
    exact ⟨m, v, ws, ih _ _ _ h1, hq _ _ _ _ h2, h3⟩
theorem dv_tr_up {V : Type} {G : gr_T} {X : tx_T} {A : al_T V} {s i j : Nat} {v : V} : ∀ k d, dv_tr G X A d s i j v → dv_tr G X A (d + k) s i j v := by
  intro k
  induction k with
  | zero => intro d z; exact z
  | succ k ih => intro d z; exact Or.inl (ih d z)
theorem dv_tr_le {V : Type} {G : gr_T} {X : tx_T} {A : al_T V} {s i j : Nat} {v : V} {d e : Nat} (h : d ≤ e) (z : dv_tr G X A d s i j v) : dv_tr G X A e s i j v := by
  have := dv_tr_up (e - d) d z
  rwa [show d + (e - d) = e by omega] at this
theorem dv_pre_rng {V : Type} {h : Nat → Nat} {Q : Nat → Nat → Nat → V → Prop} {n : Nat} (hq : ∀ s i j v, Q s i j v → i ≤ j ∧ (i ≤ n → j ≤ n)) : ∀ k i j vs, dv_pre h Q k i j vs → i ≤ j ∧ (i ≤ n → j ≤ n) := by
  intro k
  induction k with
  | zero => intro i j vs z; obtain ⟨rfl, _⟩ := z; exact ⟨Nat.le_refl _, id⟩
  | succ k ih =>
    intro i j vs z
    obtain ⟨m, v, ws, h1, h2, h3⟩ := z
    have a := ih _ _ _ h1
    have b := hq _ _ _ _ h2
    exact ⟨by omega, fun z => b.2 (a.2 z)⟩
theorem dv_tr_rng {V : Type} {G : gr_T} {X : tx_T} {A : al_T V} : ∀ d s i j v, dv_tr G X A d s i j v → i ≤ j ∧ (i ≤ X.2 → j ≤ X.2) := by
  intro d
  induction d with
  | zero => intro s i j v z; obtain ⟨_, h, _, rfl, _⟩ := z; exact ⟨by omega, fun _ => by omega⟩
  | succ d ih =>
    intro s i j v z
    rcases z with z | ⟨r, vs, _, _, h, _⟩
    · exact ih _ _ _ _ z
    · exact dv_pre_rng ih _ _ _ _ h
/-- a kind's tree is its leaf -/
theorem dv_tr_kind {V : Type} {G : gr_T} {X : tx_T} {A : al_T V} (hG : gr_ok G) : ∀ d s i j v, s < 3 → dv_tr G X A d s i j v → dv_tr G X A 0 s i j v := by
  intro d
  induction d with
  | zero => intro s i j v _ z; exact z
  | succ d ih =>
    intro s i j v hs z
    rcases z with z | ⟨r, vs, hU, hl, _, _⟩
    · exact ih _ _ _ _ hs z
    · have := (hG.1 r hU).2.1; omega
/-- a variable's tree is a rule's -/
theorem dv_tr_var {V : Type} {G : gr_T} {X : tx_T} {A : al_T V} : ∀ d s i j v, 3 ≤ s → dv_tr G X A d s i j v → ∃ e r vs, e < d ∧ gr_U G r ∧ gr_l G r = s ∧ dv_pre (gr_h G r) (dv_tr G X A e) (gr_c G r) i j vs ∧ v = A.2 r vs := by
  intro d
  induction d with
  | zero => intro s i j v h z; have := z.1; omega
  | succ d ih =>
    intro s i j v hs z
    rcases z with z | ⟨r, vs, hU, hl, h, hv⟩
    · obtain ⟨e, r, vs, he, z⟩ := ih _ _ _ _ hs z
      exact ⟨e, r, vs, by omega, z⟩
    · exact ⟨d, r, vs, by omega, hU, hl, h, hv⟩
def dv_D (G : gr_T) (X : tx_T) (s i j : Nat) : Prop := ∃ d, dv_tr G X ((fun _ => (), fun _ _ => ()) : al_T Unit) d s i j ()
/-! the looks that a list can begin with -/
def fs_b (F : Nat → Nat → Prop) (h : Nat → Nat) : Nat → Nat → Nat → Prop
  | 0 => fun _ b => b = 3
  | c + 1 => fun p b => (b < 3 ∧ F (h p) b) ∨ (F (h p) 3 ∧ fs_b F h c (p + 1) b)
def fs_t (F : Nat → Nat → Prop) (h : Nat → Nat) (c p t a : Nat) : Prop := (a < 3 ∧ fs_b F h c p a) ∨ (fs_b F h c p 3 ∧ a = t)
def fs_ok (G : gr_T) (F : Nat → Nat → Prop) : Prop := (∀ s, s < 3 → F s s) ∧ ∀ r b, gr_U G r → fs_b F (gr_h G r) (gr_c G r) 0 b → F (gr_l G r) b
theorem fs_back {F : Nat → Nat → Prop} {h : Nat → Nat} {c p t a a' : Nat} (h1 : (a < 3 ∧ F (h p) a) ∨ (F (h p) 3 ∧ a = a')) (h2 : fs_t F h c (p + 1) t a') : fs_t F h (c + 1) p t a := by
  rcases h1 with ⟨h1, h3⟩ | ⟨h1, rfl⟩
  · exact Or.inl ⟨h1, Or.inl ⟨h1, h3⟩⟩
  · rcases h2 with ⟨h2, h3⟩ | ⟨h2, h3⟩
    · exact Or.inl ⟨h2, Or.inr ⟨h1, h3⟩⟩
    · exact Or.inr ⟨Or.inr ⟨h1, h2⟩, h3⟩
theorem fs_pre {V : Type} {F : Nat → Nat → Prop} {h : Nat → Nat} {Q : Nat → Nat → Nat → V → Prop} {w : Nat → Nat} {N M : Nat} {c t : Nat} (hN : N ≤ M) (hw : ∀ i, i < M → w i < 3) (hr : ∀ s i j v, Q s i j v → i ≤ j ∧ (i ≤ M → j ≤ M)) (hq : ∀ s i j v, Q s i j v → i ≤ M → (i < j → F s (w i)) ∧ (i = j → F s 3)) :
    ∀ k i j vs, k ≤ c → j ≤ N → i ≤ M → dv_pre h Q k i j vs → fs_t F h (c - k) k t (if j < N then w j else 3) → fs_t F h c 0 t (if i < N then w i else 3) := by
  intro k
  induction k with
  | zero => intro i j vs _ _ _ z h2; obtain ⟨rfl, _⟩ := z; exact h2
  | succ k ih =>
    intro i j vs hk hj hi z h2
    obtain ⟨m, v, ws, h3, h4, _⟩ := z
    have hmM := (dv_pre_rng hr _ _ _ _ h3).2 hi
    have hmj := (hr _ _ _ _ h4).1
    obtain ⟨b, e⟩ := hq _ _ _ _ h4 hmM
    have x : fs_t F h (c - k) k t (if m < N then w m else 3) := by
      rw [show c - k = (c - (k + 1)) + 1 by omega]
      refine fs_back ?_ h2
      rcases Nat.lt_or_ge m j with z | z
      · have hm : m < N := by omega
        rw [if_pos hm]
        exact Or.inl ⟨hw m (by omega), b z⟩
      · have z : m = j := by omega
        subst z
        exact Or.inr ⟨e rfl, rfl⟩
    exact ih i m ws (by omega) (by omega) hi h3 x
theorem fs_tr {V : Type} {G : gr_T} {X : tx_T} {A : al_T V} {F : Nat → Nat → Prop} (hX : tx_ok X) (hF : fs_ok G F) : ∀ d s i j v, dv_tr G X A d s i j v → i ≤ X.2 → (i < j → F s (X.1 i)) ∧ (i = j → F s 3) := by
  intro d
  induction d with
  | zero =>
    intro s i j v z _
    obtain ⟨h1, h2, rfl, rfl, _⟩ := z
    exact ⟨fun _ => hF.1 _ h1, fun z => by omega⟩
  | succ d ih =>
    intro s i j v z hi
    rcases z with z | ⟨r, vs, hU, rfl, h, _⟩
    · exact ih _ _ _ _ z hi
    · have hij := dv_pre_rng (fun s i j v z => dv_tr_rng d s i j v z) _ _ _ _ h
      have y := fs_pre (F := F) (t := 3) (N := j) (M := X.2) (c := gr_c G r) (w := X.1) (hij.2 hi) hX (fun s i j v z => dv_tr_rng d s i j v z) ih (gr_c G r) i j vs (Nat.le_refl _) (Nat.le_refl _) hi h (by
          rw [Nat.sub_self, if_neg (by omega)]; exact Or.inr ⟨rfl, rfl⟩)
      refine ⟨fun z => ?_, fun z => ?_⟩
      · rw [if_pos z] at y
        rcases y with ⟨_, y⟩ | ⟨_, y⟩
        · exact hF.2 r _ hU y
        · have := hX i (by omega); omega
      · rw [if_neg (by omega)] at y
        rcases y with ⟨y, _⟩ | ⟨y, _⟩
        · omega
        · exact hF.2 r _ hU y
end
section
/-! the reader by states: items with looks lk q r p t, steps nx q x -/
abbrev lr_K : Type := Nat → Nat → Nat → Nat → Prop
abbrev lr_N : Type := Nat → Nat → Option Nat
abbrev lr_C (V : Type) : Type := List (Nat × V) × Nat
def lr_A (G : gr_T) (F : Nat → Nat → Prop) (lk : lr_K) (nx : lr_N) : Prop :=
  lk 0 9 0 3 ∧
  (∀ q r p t r' t', lk q r p t → p < gr_c G r → gr_U G r' → gr_l G r' = gr_h G r p → fs_t F (gr_h G r) (gr_c G r - (p + 1)) (p + 1) t t' → lk q r' 0 t') ∧
  (∀ q r p t, lk q r p t → p < gr_c G r → ∃ q', nx q (gr_h G r p) = some q' ∧ lk q' r (p + 1) t) ∧
  (∀ q r r' t, lk q r (gr_c G r) t → lk q r' (gr_c G r') t → r = r') ∧
  (∀ q r t r' p' t', lk q r (gr_c G r) t → t < 3 → lk q r' p' t' → p' < gr_c G r' → gr_h G r' p' ≠ t)
def lr_st {V : Type} (G : gr_T) (X : tx_T) (A : al_T V) (lk : lr_K) (nx : lr_N) (c c' : lr_C V) : Prop :=
  (∃ q v rest q', c.1 = (q, v) :: rest ∧ (∀ r, ¬ lk q r (gr_c G r) (tx_k X c.2)) ∧ c.2 < X.2 ∧ nx q (X.1 c.2) = some q' ∧ c' = ((q', A.1 c.2) :: c.1, c.2 + 1)) ∨
  (∃ q v rest r pop q0 v0 base q', c.1 = (q, v) :: rest ∧ lk q r (gr_c G r) (tx_k X c.2) ∧ r ≠ 9 ∧ c.1 = pop ++ (q0, v0) :: base ∧ pop.length = gr_c G r ∧ nx q0 (gr_l G r) = some q' ∧ c' = ((q', A.2 r (pop.map Prod.snd)) :: (q0, v0) :: base, c.2))
def lr_run {V : Type} (G : gr_T) (X : tx_T) (A : al_T V) (lk : lr_K) (nx : lr_N) (H : Nat) : Nat → lr_C V → lr_C V → Prop
  | 0 => fun c c' => c = c'
  | k + 1 => fun c c' => ∃ d, lr_st G X A lk nx c d ∧ d.1.length ≤ H ∧ lr_run G X A lk nx H k d c'
theorem lr_run_tr {V : Type} {G : gr_T} {X : tx_T} {A : al_T V} {lk : lr_K} {nx : lr_N} {H : Nat} {l : Nat} {d e : lr_C V} : ∀ k c, lr_run G X A lk nx H k c d → lr_run G X A lk nx H l d e → lr_run G X A lk nx H (k + l) c e := by
  intro k
  induction k with
  | zero => intro c h1 h2; cases h1; rw [Nat.zero_add]; exact h2
  | succ k ih =>
    intro c h1 h2
    obtain ⟨f, a, b, g⟩ := h1
    rw [show k + 1 + l = (k + l) + 1 by omega]
    exact ⟨f, a, b, ih f g h2⟩
theorem lr_run_1 {V : Type} {G : gr_T} {X : tx_T} {A : al_T V} {lk : lr_K} {nx : lr_N} {H : Nat} {c d : lr_C V} (h : lr_st G X A lk nx c d) (hl : d.1.length ≤ H) : lr_run G X A lk nx H 1 c d := ⟨d, h, hl, rfl⟩
def lr_sum {V : Type} (f : V → Nat) : List V → Nat
  | [] => 0
  | v :: vs => lr_sum f vs + f v
def lr_sz {V : Type} (A : al_T V) (sz : V → Nat) : Prop := (∀ i, sz (A.1 i) = 1) ∧ ∀ r vs, sz (A.2 r vs) = lr_sum sz vs + 1
def lr_Tr {V : Type} (G : gr_T) (X : tx_T) (A : al_T V) (F : Nat → Nat → Prop) (lk : lr_K) (nx : lr_N) (sz : V → Nat) (d : Nat) : Prop :=
  ∀ s i j v, dv_tr G X A d s i j v → i ≤ X.2 → ∀ q v0 rest r p t, lk q r p t → p < gr_c G r → gr_h G r p = s → fs_t F (gr_h G r) (gr_c G r - (p + 1)) (p + 1) t (tx_k X j) → ∀ H, rest.length + 1 + 3 * d + 1 ≤ H →
    ∃ q', nx q s = some q' ∧ lk q' r (p + 1) t ∧ lr_run G X A lk nx H (sz v) ((q, v0) :: rest, i) ((q', v) :: (q, v0) :: rest, j)
theorem lr_fsk {G : gr_T} {X : tx_T} {F : Nat → Nat → Prop} {V : Type} {A : al_T V} (hX : tx_ok X) (hF : fs_ok G F) {d s m j : Nat} {v : V} (z : dv_tr G X A d s m j v) (hm : m ≤ X.2) : (tx_k X m < 3 ∧ F s (tx_k X m)) ∨ (F s 3 ∧ tx_k X m = tx_k X j) := by
  have a := fs_tr hX hF d s m j v z hm
  have b := dv_tr_rng d s m j v z
  rcases Nat.lt_or_ge m j with h | h
  · have hn : m < X.2 := by have := b.2 hm; omega
    unfold tx_k
    rw [if_pos hn]
    exact Or.inl ⟨hX m hn, a.1 h⟩
  · have e : m = j := by omega
    subst e
    exact Or.inr ⟨a.2 rfl, rfl⟩
theorem lr_chain {V : Type} {G : gr_T} {X : tx_T} {A : al_T V} {F : Nat → Nat → Prop} {lk : lr_K} {nx : lr_N} {sz : V → Nat} (hX : tx_ok X) (hF : fs_ok G F) {d : Nat} (hT : lr_Tr G X A F lk nx sz d)
    {q : Nat} {v0 : V} {rest : List (Nat × V)} {r t i : Nat} (h0 : lk q r 0 t) (hc4 : gr_c G r ≤ 4) (hi : i ≤ X.2) {H : Nat} (hH : rest.length + 1 + 3 * d + 4 ≤ H) :
    ∀ k j ws, k ≤ gr_c G r → dv_pre (gr_h G r) (dv_tr G X A d) k i j ws → fs_t F (gr_h G r) (gr_c G r - k) k t (tx_k X j) →
      ∃ pop : List (Nat × V), pop.map Prod.snd = ws ∧ pop.length = k ∧ (∃ q1 v1 rest1, pop ++ (q, v0) :: rest = (q1, v1) :: rest1 ∧ lk q1 r k t) ∧ lr_run G X A lk nx H (lr_sum sz ws) ((q, v0) :: rest, i) (pop ++ (q, v0) :: rest, j) := by
  intro k
  induction k with
  | zero =>
    intro j ws _ z _
    obtain ⟨rfl, rfl⟩ := z
    exact ⟨[], rfl, rfl, ⟨q, v0, rest, rfl, h0⟩, rfl⟩
  | succ k ih =>
    intro j ws hk z hfs
    obtain ⟨m, v, ws', z1, z2, rfl⟩ := z
    have hm : m ≤ X.2 := (dv_pre_rng (fun s i j v z => dv_tr_rng d s i j v z) _ _ _ _ z1).2 hi
    have hfm : fs_t F (gr_h G r) (gr_c G r - k) k t (tx_k X m) := by
      rw [show gr_c G r - k = (gr_c G r - (k + 1)) + 1 by omega]
      exact fs_back (lr_fsk hX hF z2 hm) hfs
    obtain ⟨pop, e1, e2, ⟨q1, v1, rest1, e3, hl⟩, hr⟩ := ih m ws' (by omega) z1 hfm
    have hlen : rest1.length + 1 = k + (rest.length + 1) := by
      have := congrArg List.length e3
      rw [List.length_append, List.length_cons, List.length_cons, e2] at this
      omega
    obtain ⟨q', n1, n2, n3⟩ := hT _ m j v z2 hm q1 v1 rest1 r k t hl (by omega) rfl hfs H (by omega)
    refine ⟨(q', v) :: pop, by rw [List.map_cons, e1], by rw [List.length_cons, e2], ⟨q', v, pop ++ (q, v0) :: rest, rfl, n2⟩, ?_⟩
    rw [← e3] at n3
    exact lr_run_tr _ _ hr n3
theorem lr_tree {V : Type} {G : gr_T} {X : tx_T} {A : al_T V} {F : Nat → Nat → Prop} {lk : lr_K} {nx : lr_N} {sz : V → Nat} (hG : gr_ok G) (hX : tx_ok X) (hF : fs_ok G F) (hA : lr_A G F lk nx) (hz : lr_sz A sz) : ∀ d, lr_Tr G X A F lk nx sz d := by
  obtain ⟨-, A2, A3, A4, A5⟩ := hA
  intro d
  induction d with
  | zero =>
    intro s i j v z hi q v0 rest r p t hl hp hs hfs H hH
    obtain ⟨h1, h2, h3, rfl, rfl⟩ := z
    subst hs
    obtain ⟨q', n1, n2⟩ := A3 q r p t hl hp
    refine ⟨q', n1, n2, ?_⟩
    rw [hz.1 i]
    have hk : tx_k X i = gr_h G r p := by unfold tx_k; rw [if_pos h2, h3]
    refine lr_run_1 (Or.inl ⟨q, v0, rest, q', rfl, fun r' z => ?_, h2, ?_, rfl⟩) (by simp only [List.length_cons]; omega)
    · have z : lk q r' (gr_c G r') (tx_k X i) := z
      rw [hk] at z
      exact A5 q r' _ r p t z h1 hl hp rfl
    · show nx q (X.1 i) = some q'
      rw [h3]; exact n1
  | succ d ih =>
    intro s i j v z hi q v0 rest r p t hl hp hs hfs H hH
    rcases z with z | ⟨r', vs, hU, hle, z, rfl⟩
    · exact ih s i j v z hi q v0 rest r p t hl hp hs hfs H (by omega)
    · have hj := dv_pre_rng (fun s i j v z => dv_tr_rng d s i j v z) _ _ _ _ z
      have h0 : lk q r' 0 (tx_k X j) := A2 q r p t r' (tx_k X j) hl hp hU (hle.trans hs.symm) hfs
      obtain ⟨pop, e1, e2, ⟨q1, v1, rest1, e3, hl1⟩, hr⟩ := lr_chain hX hF ih (v0 := v0) (rest := rest) h0 (hG.2.1 r' (Or.inl hU)).1 hi (H := H) (by omega) (gr_c G r') j vs (Nat.le_refl _) z (by rw [Nat.sub_self]; exact Or.inr ⟨rfl, rfl⟩)
      obtain ⟨q', n1, n2⟩ := A3 q r p t hl hp
      rw [hs] at n1
      refine ⟨q', n1, n2, ?_⟩
      rw [hz.2]
      refine lr_run_tr _ _ hr (lr_run_1 (Or.inr ⟨q1, v1, rest1, r', pop, q, v0, rest, q', e3, hl1, ?_, rfl, e2, ?_, ?_⟩) (by simp only [List.length_cons]; omega))
      · have := (hG.1 r' hU).1; omega
      · rw [hle]; exact n1
      · rw [e1]
/-! the reader is determined -/
theorem lr_det {V : Type} {G : gr_T} {X : tx_T} {A : al_T V} {F : Nat → Nat → Prop} {lk : lr_K} {nx : lr_N} (hA : lr_A G F lk nx) {c c1 c2 : lr_C V} (h1 : lr_st G X A lk nx c c1) (h2 : lr_st G X A lk nx c c2) : c1 = c2 := by
  obtain ⟨-, -, -, A4, -⟩ := hA
  rcases h1 with ⟨q, v, rest, q', e, hn, hp, hx, rfl⟩ | ⟨q, v, rest, r, pop, q0, v0, base, q', e, hl, h9, e2, e3, hx, rfl⟩
  · rcases h2 with ⟨p, u, rs, p', f, hn', hp', hx', rfl⟩ | ⟨p, u, rs, r', po, p0, u0, ba, p', f, hl', h9', f2, f3, hx', rfl⟩
    · rw [e] at f
      obtain ⟨f1, f2⟩ := List.cons.inj f
      have f3 := congrArg Prod.fst f1
      have f3 : q = p := f3
      subst f3
      rw [hx] at hx'
      cases hx'
      rfl
    · rw [e] at f
      obtain ⟨f1, f2⟩ := List.cons.inj f
      have f3 : q = p := congrArg Prod.fst f1
      subst f3
      exact absurd hl' (hn r')
  · rcases h2 with ⟨p, u, rs, p', f, hn', hp', hx', rfl⟩ | ⟨p, u, rs, r', po, p0, u0, ba, p', f, hl', h9', f2, f3, hx', rfl⟩
    · rw [e] at f
      obtain ⟨f1, f2⟩ := List.cons.inj f
      have f3 : q = p := congrArg Prod.fst f1
      subst f3
      exact absurd hl (hn' r)
    · rw [e] at f
      obtain ⟨f1, f4⟩ := List.cons.inj f
      have f5 : q = p := congrArg Prod.fst f1
      subst f5
      have er : r = r' := A4 _ _ _ _ hl hl'
      subst er
      rw [e2] at f2
      obtain ⟨g1, g2⟩ := List.append_inj f2 (by rw [e3, f3])
      subst g1
      obtain ⟨g3, rfl⟩ := List.cons.inj g2
      cases g3
      rw [hx] at hx'
      cases hx'
      rfl
def lr_acc {V : Type} (G : gr_T) (X : tx_T) (lk : lr_K) (c : lr_C V) : Prop := ∃ q v rest, c.1 = (q, v) :: rest ∧ lk q 9 (gr_c G 9) (tx_k X c.2)
theorem lr_acc_no {V : Type} {G : gr_T} {X : tx_T} {A : al_T V} {F : Nat → Nat → Prop} {lk : lr_K} {nx : lr_N} (hA : lr_A G F lk nx) {c d : lr_C V} (h : lr_acc G X lk c) : ¬ lr_st G X A lk nx c d := by
  obtain ⟨-, -, -, A4, -⟩ := hA
  obtain ⟨q, v, rest, e, hl⟩ := h
  intro h2
  rcases h2 with ⟨p, u, rs, p', f, hn', hp', hx', rfl⟩ | ⟨p, u, rs, r', po, p0, u0, ba, p', f, hl', h9', f2, f3, hx', rfl⟩
  · rw [e] at f
    obtain ⟨f1, f2⟩ := List.cons.inj f
    have f3 : q = p := congrArg Prod.fst f1
    subst f3
    exact hn' 9 hl
  · rw [e] at f
    obtain ⟨f1, f4⟩ := List.cons.inj f
    have f5 : q = p := congrArg Prod.fst f1
    subst f5
    exact h9' (A4 _ _ _ _ hl' hl)
theorem lr_uniq {V : Type} {G : gr_T} {X : tx_T} {A : al_T V} {F : Nat → Nat → Prop} {lk : lr_K} {nx : lr_N} (hA : lr_A G F lk nx) {H H' : Nat} {a b : lr_C V} (ha : lr_acc G X lk a) (hb : lr_acc G X lk b) : ∀ k l c, lr_run G X A lk nx H k c a → lr_run G X A lk nx H' l c b → a = b := by
  intro k
  induction k with
  | zero =>
    intro l c h1 h2
    cases h1
    cases l with
    | zero => exact h2
    | succ l => obtain ⟨d, hd, _⟩ := h2; exact absurd hd (lr_acc_no hA ha)
  | succ k ih =>
    intro l c h1 h2
    obtain ⟨d, hd, _, h3⟩ := h1
    cases l with
    | zero => cases h2; exact absurd hd (lr_acc_no hA hb)
    | succ l =>
      obtain ⟨e, he, _, h4⟩ := h2
      have := lr_det hA hd he
      subst this
      exact ih l d h3 h4
/-- a sentence's tree is read -/
theorem lr_sent {V : Type} {G : gr_T} {X : tx_T} {A : al_T V} {F : Nat → Nat → Prop} {lk : lr_K} {nx : lr_N} {sz : V → Nat} (hG : gr_ok G) (hX : tx_ok X) (hF : fs_ok G F) (hA : lr_A G F lk nx) (hz : lr_sz A sz) {d : Nat} {v v0 : V} (z : dv_tr G X A d 3 0 X.2 v) {H : Nat} (hH : 3 * d + 2 ≤ H) :
    ∃ q', lr_run G X A lk nx H (sz v) ([(0, v0)], 0) ([(q', v), (0, v0)], X.2) ∧ lr_acc G X lk ([(q', v), (0, v0)], X.2) := by
  have hk : tx_k X X.2 = 3 := if_neg (by omega)
  obtain ⟨q', n1, n2, n3⟩ := lr_tree hG hX hF hA hz d 3 0 X.2 v z (by omega) 0 v0 [] 9 0 3 hA.1 (by rw [hG.2.2.2.1]; omega) hG.2.2.2.2 (by rw [hk, hG.2.2.2.1]; exact Or.inr ⟨rfl, rfl⟩) H (by simp only [List.length_nil]; omega)
  refine ⟨q', n3, q', v, [(0, v0)], rfl, ?_⟩
  show lk q' 9 (gr_c G 9) (tx_k X X.2)
  rw [hk, hG.2.2.2.1]
  exact n2
theorem lr_one {V : Type} {G : gr_T} {X : tx_T} {A : al_T V} {F : Nat → Nat → Prop} {lk : lr_K} {nx : lr_N} {sz : V → Nat} (hG : gr_ok G) (hX : tx_ok X) (hF : fs_ok G F) (hA : lr_A G F lk nx) (hz : lr_sz A sz) {d e : Nat} {v w : V} (z : dv_tr G X A d 3 0 X.2 v) (y : dv_tr G X A e 3 0 X.2 w) : v = w := by
  obtain ⟨q1, a1, a2⟩ := lr_sent hG hX hF hA hz (v0 := v) z (Nat.le_refl _)
  obtain ⟨q2, b1, b2⟩ := lr_sent hG hX hF hA hz (v0 := v) y (Nat.le_refl _)
  have h := lr_uniq hA a2 b2 _ _ _ a1 b1
  have h1 := congrArg Prod.fst h
  have h2 := (List.cons.inj h1).1
  exact congrArg Prod.snd h2
end
section
/-! chains without values, and the least sets of items between places -/
def dv_prd (h : Nat → Nat) (Q : Nat → Nat → Nat → Prop) : Nat → Nat → Nat → Prop
  | 0 => fun i j => i = j
  | k + 1 => fun i j => ∃ m, dv_prd h Q k i m ∧ Q (h k) m j
theorem dv_prd_mono {h : Nat → Nat} {Q Q' : Nat → Nat → Nat → Prop} (hq : ∀ s i j, Q s i j → Q' s i j) : ∀ k i j, dv_prd h Q k i j → dv_prd h Q' k i j := by
  intro k
  induction k with
  | zero => intro i j z; exact z
  | succ k ih => intro i j z; obtain ⟨m, a, b⟩ := z; exact ⟨m, ih _ _ a, hq _ _ _ b⟩
theorem dv_prd_v {V : Type} {h : Nat → Nat} {Q : Nat → Nat → Nat → Prop} {Q' : Nat → Nat → Nat → V → Prop} (hq : ∀ s i j, Q s i j → ∃ v, Q' s i j v) : ∀ k i j, dv_prd h Q k i j → ∃ vs, dv_pre h Q' k i j vs := by
  intro k
  induction k with
  | zero => intro i j z; exact ⟨[], z, rfl⟩
  | succ k ih =>
    intro i j z
    obtain ⟨m, a, b⟩ := z
    obtain ⟨vs, c⟩ := ih _ _ a
    obtain ⟨v, e⟩ := hq _ _ _ b
    exact ⟨v :: vs, m, v, vs, c, e, rfl⟩
theorem dv_pre_d {V : Type} {h : Nat → Nat} {Q : Nat → Nat → Nat → Prop} {Q' : Nat → Nat → Nat → V → Prop} (hq : ∀ s i j v, Q' s i j v → Q s i j) : ∀ k i j vs, dv_pre h Q' k i j vs → dv_prd h Q k i j := by
  intro k
  induction k with
  | zero => intro i j vs z; exact z.1
  | succ k ih =>
    intro i j vs z
    obtain ⟨m, v, ws, a, b, _⟩ := z
    exact ⟨m, ih _ _ _ a, hq _ _ _ _ b⟩
theorem dv_unif {V : Type} {G : gr_T} {X : tx_T} {A : al_T V} {h : Nat → Nat} : ∀ k i j vs, dv_pre h (fun s i j v => ∃ d, dv_tr G X A d s i j v) k i j vs → ∃ d, dv_pre h (dv_tr G X A d) k i j vs := by
  intro k
  induction k with
  | zero => intro i j vs z; exact ⟨0, z⟩
  | succ k ih =>
    intro i j vs z
    obtain ⟨m, v, ws, a, ⟨d, b⟩, c⟩ := z
    obtain ⟨e, a⟩ := ih _ _ _ a
    exact ⟨e + d, m, v, ws, dv_pre_mono (fun _ _ _ _ z => dv_tr_up d e z) _ _ _ _ a, dv_tr_le (by omega) b, c⟩
/-- trees of one algebra are trees of another -/
theorem dv_alg {V W : Type} {G : gr_T} {X : tx_T} {A : al_T V} (B : al_T W) : ∀ d s i j v, dv_tr G X A d s i j v → ∃ w, dv_tr G X B d s i j w := by
  intro d
  induction d with
  | zero => intro s i j v z; obtain ⟨a, b, c, e, _⟩ := z; exact ⟨_, a, b, c, e, rfl⟩
  | succ d ih =>
    intro s i j v z
    rcases z with z | ⟨r, vs, hU, hl, z, _⟩
    · obtain ⟨w, hw⟩ := ih _ _ _ _ z
      exact ⟨w, Or.inl hw⟩
    · obtain ⟨ws, hw⟩ := dv_prd_v (Q := fun s i j => ∃ v, dv_tr G X A d s i j v) (Q' := dv_tr G X B d) (fun s i j z => by obtain ⟨v, z⟩ := z; exact ih s i j v z) _ _ _ (dv_pre_d (fun s i j v z => ⟨v, z⟩) _ _ _ _ z)
      exact ⟨_, Or.inr ⟨r, ws, hU, hl, hw, rfl⟩⟩
theorem dv_D_of {V : Type} {G : gr_T} {X : tx_T} {A : al_T V} {d s i j : Nat} {v : V} (z : dv_tr G X A d s i j v) : dv_D G X s i j := by
  obtain ⟨w, h⟩ := dv_alg ((fun _ => (), fun _ _ => ()) : al_T Unit) d s i j v z
  exact ⟨d, h⟩
theorem dv_D_to {V : Type} {G : gr_T} {X : tx_T} (A : al_T V) {s i j : Nat} (z : dv_D G X s i j) : ∃ d v, dv_tr G X A d s i j v := by
  obtain ⟨d, z⟩ := z
  obtain ⟨w, h⟩ := dv_alg A d s i j () z
  exact ⟨d, w, h⟩
theorem dv_D_node {G : gr_T} {X : tx_T} {r i j : Nat} (hU : gr_U G r) (z : dv_prd (gr_h G r) (dv_D G X) (gr_c G r) i j) : dv_D G X (gr_l G r) i j := by
  obtain ⟨vs, h⟩ := dv_prd_v (V := Unit) (Q' := fun s i j v => ∃ d, dv_tr G X ((fun _ => (), fun _ _ => ()) : al_T Unit) d s i j v) (fun s i j z => ⟨(), z⟩) _ _ _ z
  obtain ⟨d, h⟩ := dv_unif _ _ _ _ h
  exact ⟨d + 1, Or.inr ⟨r, vs, hU, rfl, h, rfl⟩⟩
theorem dv_D_kind {G : gr_T} {X : tx_T} {i : Nat} (hX : tx_ok X) (hi : i < X.2) : dv_D G X (X.1 i) i (i + 1) := ⟨0, hX i hi, hi, rfl, rfl, rfl⟩
theorem dv_D_rng {G : gr_T} {X : tx_T} {s i j : Nat} (z : dv_D G X s i j) : i ≤ j ∧ (i ≤ X.2 → j ≤ X.2) := by
  obtain ⟨d, z⟩ := z
  exact dv_tr_rng d s i j () z
def er_cl (G : gr_T) (X : tx_T) (R : Nat → Nat → Nat → Nat → Prop) : Prop :=
  R 0 0 9 0 ∧
  (∀ i j r p r', R i j r p → p < gr_c G r → gr_U G r' → gr_l G r' = gr_h G r p → R j j r' 0) ∧
  (∀ i j r p, R i j r p → p < gr_c G r → j < X.2 → gr_h G r p = X.1 j → R i (j + 1) r (p + 1)) ∧
  (∀ i m j r p r', R i m r p → p < gr_c G r → R m j r' (gr_c G r') → gr_U G r' → gr_l G r' = gr_h G r p → R i j r (p + 1))
def er_E (G : gr_T) (X : tx_T) (i j r p : Nat) : Prop := ∀ R, er_cl G X R → R i j r p
theorem er_self (G : gr_T) (X : tx_T) : er_cl G X (er_E G X) :=
  ⟨fun _ h => h.1, fun i j r p r' a b c e R h => h.2.1 i j r p r' (a R h) b c e, fun i j r p a b c e R h => h.2.2.1 i j r p (a R h) b c e, fun i m j r p r' a b c e f R h => h.2.2.2 i m j r p r' (a R h) b (c R h) e f⟩
/-- induction that may use membership -/
theorem er_ind {G : gr_T} {X : tx_T} (R : Nat → Nat → Nat → Nat → Prop) (h0 : R 0 0 9 0)
    (h1 : ∀ i j r p r', er_E G X i j r p → R i j r p → p < gr_c G r → gr_U G r' → gr_l G r' = gr_h G r p → R j j r' 0)
    (h2 : ∀ i j r p, er_E G X i j r p → R i j r p → p < gr_c G r → j < X.2 → gr_h G r p = X.1 j → R i (j + 1) r (p + 1))
    (h3 : ∀ i m j r p r', er_E G X i m r p → R i m r p → p < gr_c G r → er_E G X m j r' (gr_c G r') → R m j r' (gr_c G r') → gr_U G r' → gr_l G r' = gr_h G r p → R i j r (p + 1)) {i j r p : Nat} (h : er_E G X i j r p) : R i j r p := by
  have s := er_self G X
  exact (h (fun i j r p => er_E G X i j r p ∧ R i j r p) ⟨⟨s.1, h0⟩, fun i j r p r' a b c e => ⟨s.2.1 i j r p r' a.1 b c e, h1 i j r p r' a.1 a.2 b c e⟩, fun i j r p a b c e => ⟨s.2.2.1 i j r p a.1 b c e, h2 i j r p a.1 a.2 b c e⟩,
    fun i m j r p r' a b c e f => ⟨s.2.2.2 i m j r p r' a.1 b c.1 e f, h3 i m j r p r' a.1 a.2 b c.1 c.2 e f⟩⟩).2
/-- an item goes on over what its next symbol derives -/
theorem er_step {V : Type} {G : gr_T} {X : tx_T} {A : al_T V} : ∀ d s i j v, dv_tr G X A d s i j v → ∀ i0 r p, er_E G X i0 i r p → p < gr_c G r → gr_h G r p = s → er_E G X i0 j r (p + 1) := by
  have S := er_self G X
  intro d
  induction d with
  | zero =>
    intro s i j v z i0 r p h hp hs
    obtain ⟨_, h2, h3, rfl, _⟩ := z
    exact S.2.2.1 i0 i r p h hp h2 (hs.trans h3.symm)
  | succ d ih =>
    intro s i j v z i0 r p h hp hs
    rcases z with z | ⟨r', vs, hU, hl, z, _⟩
    · exact ih s i j v z i0 r p h hp hs
    · have a : er_E G X i i r' 0 := S.2.1 i0 i r p r' h hp hU (hl.trans hs.symm)
      have ch : ∀ k j' ws, k ≤ gr_c G r' → dv_pre (gr_h G r') (dv_tr G X A d) k i j' ws → er_E G X i j' r' k := by
        intro k
        induction k with
        | zero => intro j' ws _ z; obtain ⟨rfl, _⟩ := z; exact a
        | succ k ihk =>
          intro j' ws hk z
          obtain ⟨m, v, ws', z1, z2, _⟩ := z
          exact ih _ m j' v z2 i r' k (ihk m ws' (by omega) z1) (by omega) rfl
      exact S.2.2.2 i0 i j r p r' h hp (ch _ j vs (Nat.le_refl _) z) hU (hl.trans hs.symm)
/-- what an item has behind it -/
theorem er_sound {G : gr_T} {X : tx_T} (hX : tx_ok X) (hG : gr_ok G) {i j r p : Nat} (h : er_E G X i j r p) : dv_prd (gr_h G r) (dv_D G X) p i j ∧ (gr_U G r ∨ r = 9) ∧ p ≤ gr_c G r ∧ i ≤ j ∧ j ≤ X.2 ∧ (r = 9 → i = 0) := by
  refine er_ind (G := G) (X := X) (fun i j r p => dv_prd (gr_h G r) (dv_D G X) p i j ∧ (gr_U G r ∨ r = 9) ∧ p ≤ gr_c G r ∧ i ≤ j ∧ j ≤ X.2 ∧ (r = 9 → i = 0)) ?_ ?_ ?_ ?_ h
  · exact ⟨rfl, Or.inr rfl, Nat.zero_le _, Nat.le_refl _, Nat.zero_le _, fun _ => rfl⟩
  · intro i j r p r' _ z _ hU _
    have h9 := (hG.1 r' hU).1
    exact ⟨rfl, Or.inl hU, Nat.zero_le _, Nat.le_refl _, z.2.2.2.2.1, fun z => by omega⟩
  · intro i j r p _ z hp hj hs
    refine ⟨⟨j, z.1, ?_⟩, z.2.1, hp, by have := z.2.2.2.1; omega, hj, z.2.2.2.2.2⟩
    rw [hs]; exact dv_D_kind hX hj
  · intro i m j r p r' _ z hp _ y hU hl
    refine ⟨⟨m, z.1, ?_⟩, z.2.1, hp, by have := z.2.2.2.1; have := y.2.2.2.1; omega, y.2.2.2.2.1, z.2.2.2.2.2⟩
    rw [← hl]; exact dv_D_node hU y.1
/-- the last step of an item -/
def er_dv (G : gr_T) (X : tx_T) (s m j : Nat) : Prop := (s < 3 ∧ m < X.2 ∧ X.1 m = s ∧ j = m + 1) ∨ (3 ≤ s ∧ ∃ r, gr_U G r ∧ gr_l G r = s ∧ er_E G X m j r (gr_c G r))
theorem er_inv {G : gr_T} {X : tx_T} (hX : tx_ok X) (hG : gr_ok G) {i j r p : Nat} (h : er_E G X i j r p) : ∀ q, p = q + 1 → ∃ m, er_E G X i m r q ∧ q < gr_c G r ∧ er_dv G X (gr_h G r q) m j := by
  refine er_ind (G := G) (X := X) (fun i j r p => ∀ q, p = q + 1 → ∃ m, er_E G X i m r q ∧ q < gr_c G r ∧ er_dv G X (gr_h G r q) m j) ?_ ?_ ?_ ?_ h
  · intro q e; omega
  · intro i j r p r' _ _ _ _ _ q e; omega
  · intro i j r p z _ hp hj hs q e
    have e : p = q := by omega
    subst e
    exact ⟨j, z, hp, Or.inl ⟨by rw [hs]; exact hX j hj, hj, hs.symm, rfl⟩⟩
  · intro i m j r p r' z _ hp y _ hU hl q e
    have e : p = q := by omega
    subst e
    exact ⟨m, z, hp, Or.inr ⟨by rw [← hl]; exact (hG.1 r' hU).2.1, r', hU, hl, y⟩⟩
theorem er_dv_D {G : gr_T} {X : tx_T} (hX : tx_ok X) (hG : gr_ok G) {s m j : Nat} (h : er_dv G X s m j) : dv_D G X s m j := by
  rcases h with ⟨h1, h2, rfl, rfl⟩ | ⟨h1, r, hU, rfl, h⟩
  · exact dv_D_kind hX h2
  · exact dv_D_node hU (er_sound hX hG h).1
theorem er_dv_go {G : gr_T} {X : tx_T} {s m j i r p : Nat} (h : er_dv G X s m j) (a : er_E G X i m r p) (hp : p < gr_c G r) (hs : gr_h G r p = s) : er_E G X i j r (p + 1) := by
  have S := er_self G X
  rcases h with ⟨h1, h2, h3, rfl⟩ | ⟨h1, r', hU, hl, h⟩
  · exact S.2.2.1 i m r p a hp h2 (hs.trans h3.symm)
  · exact S.2.2.2 i m j r p r' a hp h hU (hl.trans hs.symm)
theorem er_dv_of {V : Type} {G : gr_T} {X : tx_T} {A : al_T V} (hG : gr_ok G) {d s m j i r p : Nat} {v : V} (z : dv_tr G X A d s m j v) (a : er_E G X i m r p) (hp : p < gr_c G r) (hs : gr_h G r p = s) : er_dv G X s m j := by
  rcases Nat.lt_or_ge s 3 with h | h
  · obtain ⟨_, h2, h3, h4, _⟩ := dv_tr_kind hG d s m j v h z
    exact Or.inl ⟨h, h2, h3, h4⟩
  · obtain ⟨e, r', vs, _, hU, hl, z, _⟩ := dv_tr_var d s m j v h z
    have S := er_self G X
    have a0 : er_E G X m m r' 0 := S.2.1 i m r p r' a hp hU (hl.trans hs.symm)
    have ch : ∀ k j' ws, k ≤ gr_c G r' → dv_pre (gr_h G r') (dv_tr G X A e) k m j' ws → er_E G X m j' r' k := by
      intro k
      induction k with
      | zero => intro j' ws _ z; obtain ⟨rfl, _⟩ := z; exact a0
      | succ k ihk =>
        intro j' ws hk z
        obtain ⟨m', v, ws', z1, z2, _⟩ := z
        exact er_step e _ m' j' v z2 m r' k (ihk m' ws' (by omega) z1) (by omega) rfl
    exact Or.inr ⟨h, r', hU, hl, ch _ j vs (Nat.le_refl _) z⟩
/-- the text can go on at a place -/
def er_S (G : gr_T) (X : tx_T) (j : Nat) : Prop := j < X.2 ∧ ∃ i r p, er_E G X i j r p ∧ p < gr_c G r ∧ gr_h G r p = X.1 j
/-! beginnings of trees, up to a place -/
def pt_p (G : gr_T) (X : tx_T) : Nat → Nat → Nat → Nat → Prop
  | 0 => fun s i m => s < 3 ∧ i < X.2 ∧ X.1 i = s ∧ m = i + 1
  | d + 1 => fun s i m => pt_p G X d s i m ∨ ∃ r k i', gr_U G r ∧ gr_l G r = s ∧ k < gr_c G r ∧ dv_prd (gr_h G r) (dv_D G X) k i i' ∧ pt_p G X d (gr_h G r k) i' m
theorem pt_of {G : gr_T} {X : tx_T} (hX : tx_ok X) (hG : gr_ok G) {m : Nat} (h : er_S G X m) : ∃ d, pt_p G X d 3 0 (m + 1) := by
  obtain ⟨hm, i, r, p, h, hp, hs⟩ := h
  have up : ∀ i j r p, er_E G X i j r p → ∀ p0 i' m d, p0 < gr_c G r → dv_prd (gr_h G r) (dv_D G X) p0 i i' → pt_p G X d (gr_h G r p0) i' m → ∃ d', pt_p G X d' 3 0 m := by
    intro i j r p h
    refine er_ind (G := G) (X := X) (fun i j r p => ∀ p0 i' m d, p0 < gr_c G r → dv_prd (gr_h G r) (dv_D G X) p0 i i' → pt_p G X d (gr_h G r p0) i' m → ∃ d', pt_p G X d' 3 0 m) ?_ ?_ ?_ ?_ h
    · intro p0 i' m d h0 h1 h2
      rw [hG.2.2.2.1] at h0
      have e : p0 = 0 := by omega
      subst e
      have e : 0 = i' := h1
      subst e
      rw [hG.2.2.2.2] at h2
      exact ⟨d, h2⟩
    · intro i j r p r' z ih hp hU hl p0 i' m d h0 h1 h2
      refine ih p j m (d + 1) hp (er_sound hX hG z).1 (Or.inr ⟨r', p0, i', hU, hl, h0, h1, h2⟩)
    · intro i j r p _ ih _ _ _; exact ih
    · intro i m j r p r' _ ih _ _ _ _ _; exact ih
  refine up i m r p h p m (m + 1) 0 hp (er_sound hX hG h).1 ⟨?_, hm, hs.symm, rfl⟩
  rw [hs]; exact hX m hm
theorem pt_rng {G : gr_T} {X : tx_T} : ∀ d s i m, pt_p G X d s i m → i < m ∧ m ≤ X.2 := by
  intro d
  induction d with
  | zero => intro s i m z; obtain ⟨_, h, _, rfl⟩ := z; omega
  | succ d ih =>
    intro s i m z
    rcases z with z | ⟨r, k, i', _, _, _, z, y⟩
    · exact ih _ _ _ z
    · have a := ih _ _ _ y
      have b : i ≤ i' := by
        obtain ⟨vs, h⟩ := dv_prd_v (V := Unit) (Q' := fun s i j _ => dv_D G X s i j) (fun s i j z => ⟨(), z⟩) _ _ _ z
        exact (dv_pre_rng (n := X.2) (fun s i j v z => dv_D_rng z) _ _ _ _ h).1
      omega
theorem pt_sym {G : gr_T} {X : tx_T} (hG : gr_ok G) : ∀ d s i m, pt_p G X d s i m → s < 7 := by
  intro d
  induction d with
  | zero => intro s i m z; have := z.1; omega
  | succ d ih =>
    intro s i m z
    rcases z with z | ⟨r, k, i', hU, hl, _⟩
    · exact ih _ _ _ z
    · have := (hG.1 r hU).2.2; omega
theorem pt_168 {G : gr_T} {X : tx_T} (hG : gr_ok G) (hn : X.2 ≤ 24) {d s i m : Nat} (z : pt_p G X d s i m) : pt_p G X 168 s i m := by
  have hs := pt_sym hG d s i m z
  have key := cn_chain (fun d x => pt_p G X d (x % 7) (x / 7) m) 168 (fun d x h => Or.inl h) (fun d h x hx => by
      rcases hx with hx | ⟨r, k, i', hU, hl, hk, h1, h2⟩
      · exact hx
      · refine Or.inr ⟨r, k, i', hU, hl, hk, h1, ?_⟩
        have h7 := pt_sym hG _ _ _ _ h2
        have h8 := h (gr_h G r k + 7 * i')
        rw [show (gr_h G r k + 7 * i') % 7 = gr_h G r k by omega, show (gr_h G r k + 7 * i') / 7 = i' by omega] at h8
        exact h8 h2) (fun d x hx => by
      have := pt_rng _ _ _ _ hx
      have := this.1
      omega) d (s + 7 * i)
  rw [show (s + 7 * i) % 7 = s by omega, show (s + 7 * i) / 7 = i by omega] at key
  exact key z
theorem pt_fs {G : gr_T} {X : tx_T} {F : Nat → Nat → Prop} (hX : tx_ok X) (hF : fs_ok G F) : ∀ d s i m, pt_p G X d s i m → F s (X.1 i) := by
  intro d
  induction d with
  | zero => intro s i m z; obtain ⟨h1, h2, rfl, _⟩ := z; exact hF.1 _ h1
  | succ d ih =>
    intro s i m z
    rcases z with z | ⟨r, k, i', hU, rfl, hk, z, y⟩
    · exact ih _ _ _ z
    · have a := ih _ _ _ y
      have hr := pt_rng _ _ _ _ y
      have hi' : i' < X.2 := by omega
      obtain ⟨vs, h⟩ := dv_prd_v (V := Unit) (Q' := fun s i j v => ∃ d, dv_tr G X ((fun _ => (), fun _ _ => ()) : al_T Unit) d s i j v) (fun s i j z => ⟨(), z⟩) _ _ _ z
      have hii : i ≤ i' := (dv_pre_rng (n := X.2) (fun s i j v z => by obtain ⟨d, z⟩ := z; exact dv_tr_rng d s i j v z) _ _ _ _ h).1
      have b := fs_pre (F := F) (t := 3) (N := X.2) (M := X.2) (c := gr_c G r) (w := X.1) (Nat.le_refl _) hX (fun s i j v z => by obtain ⟨d, z⟩ := z; exact dv_tr_rng d s i j v z) (fun s i j v z => by obtain ⟨d, z⟩ := z; exact fs_tr hX hF d s i j v z) k i i' vs (by omega) (by omega) (by omega) h (by
        rw [if_pos hi', show gr_c G r - k = (gr_c G r - (k + 1)) + 1 by omega]
        exact Or.inl ⟨hX i' hi', Or.inl ⟨hX i' hi', a⟩⟩)
      rw [if_pos (by omega)] at b
      rcases b with ⟨_, b⟩ | ⟨_, b⟩
      · exact hF.2 r _ hU b
      · have := hX i (by omega); omega
/-- every symbol of a right can begin with something -/
def fs_ne (G : gr_T) (F : Nat → Nat → Prop) : Prop := ∀ r k, gr_U G r ∨ r = 9 → k < gr_c G r → ∃ b, b ≤ 3 ∧ F (gr_h G r k) b
theorem fs_ex {G : gr_T} {F : Nat → Nat → Prop} (hN : fs_ne G F) {r : Nat} (hr : gr_U G r ∨ r = 9) (t : Nat) : ∀ c p, p + c = gr_c G r → ∃ a, fs_t F (gr_h G r) c p t a := by
  intro c
  induction c with
  | zero => intro p _; exact ⟨t, Or.inr ⟨rfl, rfl⟩⟩
  | succ c ih =>
    intro p hp
    obtain ⟨b, hb, h⟩ := hN r p hr (by omega)
    rcases Nat.lt_or_ge b 3 with z | z
    · exact ⟨b, Or.inl ⟨z, Or.inl ⟨z, h⟩⟩⟩
    · have e : b = 3 := by omega
      subst e
      obtain ⟨a, ha⟩ := ih (p + 1) (by omega)
      exact ⟨a, fs_back (Or.inr ⟨h, rfl⟩) ha⟩
/-- a beginning of a tree is read -/
theorem lr_part {V : Type} {G : gr_T} {X : tx_T} {A : al_T V} {F : Nat → Nat → Prop} {lk : lr_K} {nx : lr_N} {sz : V → Nat} (hG : gr_ok G) (hX : tx_ok X) (hF : fs_ok G F) (hN : fs_ne G F) (hA : lr_A G F lk nx) (hz : lr_sz A sz)
    (hU9 : ∀ q r p t, lk q r p t → gr_U G r ∨ r = 9) {e C : Nat} (good : ∀ s i j, dv_D G X s i j → i ≤ X.2 → ∃ v, dv_tr G X A e s i j v ∧ sz v ≤ C * (j - i) + 85) :
    ∀ d s i m, pt_p G X d s i m → ∀ q v0 rest r p t, lk q r p t → p < gr_c G r → gr_h G r p = s → ∀ H, rest.length + 3 * d + 3 * e + 8 ≤ H →
      ∃ k c, lr_run G X A lk nx H k ((q, v0) :: rest, i) c ∧ c.2 = m ∧ k ≤ C * (m - i) + 340 * d + 1 := by
  have A2 := hA.2.1
  have A3 := hA.2.2.1
  have A5 := hA.2.2.2.2
  intro d
  induction d with
  | zero =>
    intro s i m z q v0 rest r p t hl hp hs H hH
    obtain ⟨h1, h2, h3, rfl⟩ := z
    subst hs
    obtain ⟨q', n1, n2⟩ := A3 q r p t hl hp
    have hk : tx_k X i = gr_h G r p := by unfold tx_k; rw [if_pos h2, h3]
    refine ⟨1, ((q', A.1 i) :: (q, v0) :: rest, i + 1), lr_run_1 (Or.inl ⟨q, v0, rest, q', rfl, fun r' z => ?_, h2, ?_, rfl⟩) (by simp only [List.length_cons]; omega), rfl, by omega⟩
    · have z : lk q r' (gr_c G r') (tx_k X i) := z
      rw [hk] at z
      exact A5 q r' _ r p t z h1 hl hp rfl
    · show nx q (X.1 i) = some q'
      rw [h3]; exact n1
  | succ d ih =>
    intro s i m z q v0 rest r p t hl hp hs H hH
    rcases z with z | ⟨r', k, i', hU, hle, hk, z, y⟩
    · obtain ⟨k, c, a, b, f⟩ := ih s i m z q v0 rest r p t hl hp hs H (by omega)
      exact ⟨k, c, a, b, by omega⟩
    · have hy := pt_rng _ _ _ _ y
      have hii : i ≤ i' := by
        obtain ⟨vs, h⟩ := dv_prd_v (V := Unit) (Q' := fun s i j _ => dv_D G X s i j) (fun s i j z => ⟨(), z⟩) _ _ _ z
        exact (dv_pre_rng (n := X.2) (fun s i j v z => dv_D_rng z) _ _ _ _ h).1
      have hi' : i' < X.2 := by omega
      obtain ⟨t', ht'⟩ := fs_ex hN (hU9 q r p t hl) t (gr_c G r - (p + 1)) (p + 1) (by omega)
      have h0 : lk q r' 0 t' := A2 q r p t r' t' hl hp hU (hle.trans hs.symm) ht'
      -- the values of the children before
      have hv : ∀ k j, dv_prd (gr_h G r') (dv_D G X) k i j → i ≤ j ∧ j ≤ X.2 ∧ ∃ vs, dv_pre (gr_h G r') (dv_tr G X A e) k i j vs ∧ lr_sum sz vs ≤ C * (j - i) + 85 * k := by
        intro k
        induction k with
        | zero => intro j z; have z : i = j := z; subst z; exact ⟨Nat.le_refl _, by omega, [], ⟨rfl, rfl⟩, Nat.zero_le _⟩
        | succ k ihk =>
          intro j z
          obtain ⟨x, z1, z2⟩ := z
          obtain ⟨a1, a2, vs, a3, a4⟩ := ihk x z1
          obtain ⟨v, b1, b2⟩ := good _ x j z2 a2
          have b3 := dv_D_rng z2
          refine ⟨by omega, b3.2 a2, v :: vs, ⟨x, v, vs, a3, b1, rfl⟩, ?_⟩
          simp only [lr_sum]
          have : C * (j - i) = C * (x - i) + C * (j - x) := by rw [← Nat.mul_add]; congr 1; omega
          omega
      obtain ⟨_, _, vs, hv1, hv2⟩ := hv k i' z
      have hc4 := (hG.2.1 r' (Or.inl hU)).1
      have hfs : fs_t F (gr_h G r') (gr_c G r' - k) k t' (tx_k X i') := by
        have hki : tx_k X i' = X.1 i' := if_pos hi'
        rw [hki, show gr_c G r' - k = (gr_c G r' - (k + 1)) + 1 by omega]
        exact Or.inl ⟨hX i' hi', Or.inl ⟨hX i' hi', pt_fs hX hF _ _ _ _ y⟩⟩
      obtain ⟨pop, e1, e2, ⟨q1, v1, rest1, e3, hl1⟩, hr⟩ := lr_chain hX hF (lr_tree hG hX hF hA hz e) (v0 := v0) (rest := rest) h0 hc4 (by omega) (H := H) (by omega) k i' vs (by omega) hv1 hfs
      have hlen : rest1.length + 1 = k + (rest.length + 1) := by
        have := congrArg List.length e3
        rw [List.length_append, List.length_cons, List.length_cons, e2] at this
        omega
      obtain ⟨k2, c, a, b, f⟩ := ih _ i' m y q1 v1 rest1 r' k t' hl1 hk rfl H (by omega)
      rw [e3] at hr
      refine ⟨lr_sum sz vs + k2, c, lr_run_tr _ _ hr a, b, ?_⟩
      have : C * (m - i) = C * (i' - i) + C * (m - i') := by rw [← Nat.mul_add]; congr 1; omega
      omega
end
section
/-! what the reader has read is derived -/
def lr_B (G : gr_T) (lk : lr_K) (nx : lr_N) : Prop :=
  (∀ R : Nat → Nat → Prop, R 9 0 → (∀ r p r', R r p → p < gr_c G r → gr_U G r' → gr_l G r' = gr_h G r p → R r' 0) → ∀ r p t, lk 0 r p t → R r p) ∧
  (∀ q x q', nx q x = some q' → ∀ R : Nat → Nat → Prop, (∀ r p t, lk q r p t → p < gr_c G r → gr_h G r p = x → R r (p + 1)) → (∀ r p r', R r p → p < gr_c G r → gr_U G r' → gr_l G r' = gr_h G r p → R r' 0) → ∀ r p t, lk q' r p t → R r p) ∧
  (∀ q p t, lk q 9 p t → t = 3) ∧
  (∀ q x q', nx q x = some q' → ∃ r p t, lk q r p t ∧ p < gr_c G r ∧ gr_h G r p = x)
def lr_ok {V : Type} (G : gr_T) (X : tx_T) (A : al_T V) (nx : lr_N) : List (Nat × V) → Nat → Prop
  | [] => fun _ => False
  | [a] => fun pos => a.1 = 0 ∧ pos = 0
  | a :: b :: rest => fun pos => ∃ x i, nx b.1 x = some a.1 ∧ (∃ d, dv_tr G X A d x i pos a.2) ∧ lr_ok G X A nx (b :: rest) i
def lr_it {V : Type} (G : gr_T) (X : tx_T) (A : al_T V) (lk : lr_K) (nx : lr_N) (st : List (Nat × V)) (pos r p : Nat) : Prop :=
  (gr_U G r ∨ r = 9) ∧ p ≤ gr_c G r ∧ ∃ pop q0 v0 base i, st = pop ++ (q0, v0) :: base ∧ pop.length = p ∧ lr_ok G X A nx ((q0, v0) :: base) i ∧ dv_pre (gr_h G r) (fun s i j v => ∃ d, dv_tr G X A d s i j v) p i pos (pop.map Prod.snd) ∧ (p ≠ 0 → ∃ t, lk q0 r 0 t) ∧ er_E G X i pos r p
theorem lr_items {V : Type} {G : gr_T} {X : tx_T} {A : al_T V} {lk : lr_K} {nx : lr_N} (hB : lr_B G lk nx) : ∀ st pos, lr_ok G X A nx st pos → ∀ q v rest, st = (q, v) :: rest → ∀ r p t, lk q r p t → lr_it G X A lk nx st pos r p := by
  obtain ⟨B0, B1, -, -⟩ := hB
  have S := er_self G X
  intro st
  induction st with
  | nil => intro pos h; exact h.elim
  | cons a st ih =>
    intro pos h q v rest e r p t hl
    obtain ⟨ea, es⟩ := List.cons.inj e
    subst ea
    cases st with
    | nil =>
      obtain ⟨h1, h2⟩ := h
      have h1 : q = 0 := h1
      subst h1 h2
      have key := B0 (fun r p => p = 0 ∧ (gr_U G r ∨ r = 9) ∧ er_E G X 0 0 r 0) ⟨rfl, Or.inr rfl, S.1⟩ (fun r p r' z hp hU hlr => by
        obtain ⟨rfl, _, z⟩ := z
        exact ⟨rfl, Or.inl hU, S.2.1 0 0 r 0 r' z hp hU hlr⟩) r p t hl
      obtain ⟨rfl, z1, z2⟩ := key
      exact ⟨z1, Nat.zero_le _, [], 0, v, [], 0, rfl, rfl, ⟨rfl, rfl⟩, ⟨rfl, rfl⟩, fun z => absurd rfl z, z2⟩
    | cons b st =>
      have hok := h
      obtain ⟨x, i, hnx, ⟨d, htr⟩, h3⟩ := h
      have ihb := ih i h3 b.1 b.2 st rfl
      have key := B1 b.1 x q hnx (fun r p => (gr_U G r ∨ r = 9) ∧ (p = 0 → er_E G X pos pos r 0) ∧ (p ≠ 0 → lr_it G X A lk nx ((q, v) :: b :: st) pos r p)) (fun r p t hl hp hx => by
        obtain ⟨g1, g2, pop, q0, v0, base, i0, g3, g4, g5, g6, g7, g8⟩ := ihb r p t hl
        refine ⟨g1, fun z => by omega, fun _ => ⟨g1, hp, (q, v) :: pop, q0, v0, base, i0, ?_, ?_, g5, ?_, fun _ => ?_, ?_⟩⟩
        · rw [List.cons_append, ← g3]
        · rw [List.length_cons, g4]
        · exact ⟨i, v, pop.map Prod.snd, g6, ⟨d, by rw [hx]; exact htr⟩, rfl⟩
        · rcases Nat.eq_zero_or_pos p with z | z
          · subst z
            have g4 : pop = [] := List.eq_nil_of_length_eq_zero g4
            subst g4
            have g3 : b :: st = (q0, v0) :: base := g3
            have g9 := (List.cons.inj g3).1
            subst g9
            exact ⟨t, hl⟩
          · exact g7 (by omega)
        · exact er_step d x i pos v htr i0 r p g8 hp hx) (fun r p r' z hp hU hlr => by
        refine ⟨Or.inl hU, fun _ => ?_, fun z => absurd rfl z⟩
        rcases Nat.eq_zero_or_pos p with y | y
        · subst y
          exact S.2.1 pos pos r 0 r' (z.2.1 rfl) hp hU hlr
        · obtain ⟨_, _, _, _, _, _, i0, _, _, _, _, _, g8⟩ := z.2.2 (by omega)
          exact S.2.1 i0 pos r p r' g8 hp hU hlr) r p t hl
      rcases Nat.eq_zero_or_pos p with y | y
      · subst y
        exact ⟨key.1, Nat.zero_le _, [], q, v, b :: st, pos, rfl, rfl, hok, ⟨rfl, rfl⟩, fun z => absurd rfl z, key.2.1 rfl⟩
      · exact key.2.2 (by omega)
theorem lr_ok_pos {V : Type} {G : gr_T} {X : tx_T} {A : al_T V} {nx : lr_N} : ∀ st pos, lr_ok G X A nx st pos → pos ≤ X.2 := by
  intro st
  induction st with
  | nil => intro pos h; exact h.elim
  | cons a st ih =>
    intro pos h
    cases st with
    | nil => obtain ⟨_, rfl⟩ := h; omega
    | cons b st =>
      obtain ⟨x, i, _, ⟨d, htr⟩, h3⟩ := h
      exact (dv_tr_rng d x i pos a.2 htr).2 (ih i h3)
/-- what a step keeps: the stack is derived, every place before the one reached can go on -/
def lr_inv {V : Type} (G : gr_T) (X : tx_T) (A : al_T V) (nx : lr_N) (c : lr_C V) : Prop := lr_ok G X A nx c.1 c.2 ∧ ∀ j, j < c.2 → er_S G X j
theorem lr_keep {V : Type} {G : gr_T} {X : tx_T} {A : al_T V} {lk : lr_K} {nx : lr_N} (hX : tx_ok X) (hB : lr_B G lk nx) {c c' : lr_C V} (h : lr_inv G X A nx c) (hs : lr_st G X A lk nx c c') : lr_inv G X A nx c' := by
  obtain ⟨st, pos⟩ := c
  obtain ⟨h1, h2⟩ := h
  rcases hs with ⟨q, v, rest, q', e, hn, hp, hx, rfl⟩ | ⟨q, v, rest, r, pop, q0, v0, base, q', e, hl, h9, e2, e3, hx, rfl⟩
  · have e : st = (q, v) :: rest := e
    subst e
    refine ⟨⟨X.1 pos, pos, hx, ⟨0, hX pos hp, hp, rfl, rfl, rfl⟩, h1⟩, ?_⟩
    intro j hj
    have hj : j < pos + 1 := hj
    rcases Nat.lt_or_ge j pos with z | z
    · exact h2 j z
    · have z : j = pos := by omega
      subst z
      obtain ⟨r, p, t, b1, b2, b3⟩ := hB.2.2.2 q (X.1 j) q' hx
      obtain ⟨_, _, _, _, _, _, i0, _, _, _, _, _, g8⟩ := lr_items hB _ _ h1 q v rest rfl r p t b1
      exact ⟨hp, i0, r, p, g8, b2, b3⟩
  · have e : st = (q, v) :: rest := e
    have e2 : st = pop ++ (q0, v0) :: base := e2
    obtain ⟨g1, g2, po, p0, u0, ba, i0, g3, g4, g5, g6, g7, g8⟩ := lr_items hB _ _ h1 q v rest e r (gr_c G r) _ hl
    have g3 : st = po ++ (p0, u0) :: ba := g3
    rw [e2] at g3
    obtain ⟨f1, f2⟩ := List.append_inj g3 (by rw [e3, g4])
    subst f1
    obtain ⟨f3, f4⟩ := List.cons.inj f2
    cases f3
    subst f4
    obtain ⟨d, g6⟩ := dv_unif _ _ _ _ g6
    have hU : gr_U G r := by
      rcases g1 with z | z
      · exact z
      · exact absurd z h9
    exact ⟨⟨gr_l G r, i0, hx, ⟨d + 1, Or.inr ⟨r, _, hU, rfl, g6, rfl⟩⟩, g5⟩, h2⟩
theorem lr_inv0 {V : Type} {G : gr_T} {X : tx_T} {A : al_T V} {nx : lr_N} (v0 : V) : lr_inv G X A nx ([(0, v0)], 0) := ⟨⟨rfl, rfl⟩, fun j h => absurd h (Nat.not_lt_zero j)⟩
/-- where the first rule is complete, the text is a sentence -/
theorem lr_end {V : Type} {G : gr_T} {X : tx_T} {A : al_T V} {lk : lr_K} {nx : lr_N} (hG : gr_ok G) (hX : tx_ok X) (hB : lr_B G lk nx) {c : lr_C V} (h : lr_inv G X A nx c) (ha : lr_acc G X lk c) : ∃ q v v0 d, c = ([(q, v), (0, v0)], X.2) ∧ dv_tr G X A d 3 0 X.2 v := by
  obtain ⟨st, pos⟩ := c
  obtain ⟨q, v, rest, e, hl⟩ := ha
  have e : st = (q, v) :: rest := e
  have hl : lk q 9 (gr_c G 9) (tx_k X pos) := hl
  have h1 : lr_ok G X A nx st pos := h.1
  have ht := hB.2.2.1 _ _ _ hl
  have hpos := lr_ok_pos _ _ h1
  have hp : pos = X.2 := by
    rcases Nat.lt_or_ge pos X.2 with z | z
    · unfold tx_k at ht
      rw [if_pos z] at ht
      have := hX pos z
      omega
    · omega
  obtain ⟨_, _, pop, q0, v0, base, i0, g3, g4, g5, g6, g7, _⟩ := lr_items hB _ _ h1 q v rest e 9 (gr_c G 9) _ hl
  rw [hG.2.2.2.1] at g4 g6 g7
  obtain ⟨t, g7⟩ := g7 (by omega)
  cases base with
  | cons b base =>
    obtain ⟨x, i, hx, _⟩ := g5
    have := hB.2.1 b.1 x q0 hx (fun r p => r ≠ 9 ∨ p ≠ 0) (fun r p t _ _ _ => Or.inr (by omega)) (fun r p r' _ _ hU _ => Or.inl (by have := (hG.1 r' hU).1; omega)) 9 0 t g7
    rcases this with z | z
    · exact absurd rfl z
    · exact absurd rfl z
  | nil =>
    obtain ⟨hq0, rfl⟩ := g5
    have hq0 : q0 = 0 := hq0
    subst hq0
    obtain ⟨m, v', ws, z1, ⟨d, z2⟩, z3⟩ := g6
    obtain ⟨rfl, rfl⟩ := z1
    cases pop with
    | nil => have g4 : 0 = 1 := g4; omega
    | cons a pop =>
      have hpop : pop = [] := List.eq_nil_of_length_eq_zero (by rw [List.length_cons] at g4; omega)
      subst hpop
      rw [e] at g3
      obtain ⟨ea, er⟩ := List.cons.inj g3
      subst ea
      have z3 : v :: [] = v' :: [] := z3
      have z4 := (List.cons.inj z3).1
      subst z4
      rw [hG.2.2.2.2] at z2
      subst hp
      refine ⟨q, v, v0, d, ?_, z2⟩
      have e : st = (q, v) :: rest := e
      rw [e, er]
      rfl
end
section
/-! small trees: a tree of few levels and few moves over each span that has one -/
def gd_e : Nat → Nat
  | 0 => 0
  | c + 1 => 4 * gd_e c + 1
def gd_S (G : gr_T) (X : tx_T) (i j : Nat) : Nat → Nat → Prop
  | 0 => fun _ => False
  | c + 1 => fun s => gd_S G X i j c s ∨ ∃ r, gr_U G r ∧ gr_l G r = s ∧ dv_prd (gr_h G r) (fun s' a b => i ≤ a ∧ b ≤ j ∧ ((s' < 3 ∧ dv_D G X s' a b) ∨ (b - a < j - i ∧ dv_D G X s' a b) ∨ (a = i ∧ b = j ∧ gd_S G X i j c s'))) (gr_c G r) i j
theorem gd_mono {G : gr_T} {X : tx_T} {i j c s : Nat} (k : Nat) (h : gd_S G X i j c s) : gd_S G X i j (c + k) s := by
  induction k with
  | zero => exact h
  | succ k ih => exact Or.inl ih
theorem gd_rng {G : gr_T} {X : tx_T} (hG : gr_ok G) {i j : Nat} : ∀ c s, gd_S G X i j c s → 3 ≤ s ∧ s < 7 := by
  intro c
  induction c with
  | zero => intro s h; exact h.elim
  | succ c ih =>
    intro s h
    rcases h with h | ⟨r, hU, rfl, _⟩
    · exact ih s h
    · exact (hG.1 r hU).2
theorem gd_4 {G : gr_T} {X : tx_T} (hG : gr_ok G) {i j c s : Nat} (h : gd_S G X i j c s) : gd_S G X i j 4 s := by
  have hs := gd_rng hG c s h
  have key := cn_chain (fun c x => gd_S G X i j c (x + 3)) 4 (fun d x h => Or.inl h) (fun d h x hx => by
      rcases hx with hx | ⟨r, hU, hl, z⟩
      · exact hx
      · refine Or.inr ⟨r, hU, hl, dv_prd_mono (fun s' a b z => ?_) _ _ _ z⟩
        rcases z with ⟨z1, z2, z | z | ⟨z3, z4, z⟩⟩
        · exact ⟨z1, z2, Or.inl z⟩
        · exact ⟨z1, z2, Or.inr (Or.inl z)⟩
        · have h7 := gd_rng hG _ _ z
          have h8 := h (s' - 3)
          rw [show s' - 3 + 3 = s' by omega] at h8
          exact ⟨z1, z2, Or.inr (Or.inr ⟨z3, z4, h8 z⟩)⟩) (fun d x hx => by
      have := gd_rng hG _ _ hx
      omega) c (s - 3)
  rw [show s - 3 + 3 = s by omega] at key
  exact key h
/-- children of a chain lie within it -/
theorem gd_in {h : Nat → Nat} {Q : Nat → Nat → Nat → Prop} (hq : ∀ s i j, Q s i j → i ≤ j) {i : Nat} : ∀ k j, dv_prd h Q k i j → i ≤ j ∧ ∀ J, j ≤ J → dv_prd h (fun s a b => i ≤ a ∧ b ≤ J ∧ Q s a b) k i j := by
  intro k
  induction k with
  | zero => intro j z; have z : i = j := z; subst z; exact ⟨Nat.le_refl _, fun J _ => rfl⟩
  | succ k ih =>
    intro j z
    obtain ⟨m, a, b⟩ := z
    have hm := hq _ _ _ b
    obtain ⟨c, e⟩ := ih m a
    exact ⟨by omega, fun J hJ => ⟨m, e J (by omega), c, hJ, b⟩⟩
theorem gd_of {V : Type} {G : gr_T} {X : tx_T} {A : al_T V} (hG : gr_ok G) : ∀ d s i j v, 3 ≤ s → dv_tr G X A d s i j v → ∃ c, gd_S G X i j c s := by
  intro d
  induction d with
  | zero => intro s i j v h z; have := z.1; omega
  | succ d ih =>
    intro s i j v hs z
    rcases z with z | ⟨r, vs, hU, hl, z, _⟩
    · exact ih s i j v hs z
    · have z1 := dv_pre_d (Q := fun s i j => ∃ v, dv_tr G X A d s i j v) (fun s i j v z => ⟨v, z⟩) _ _ _ _ z
      obtain ⟨hij, z2⟩ := gd_in (fun s i j z => by obtain ⟨v, z⟩ := z; exact (dv_tr_rng d s i j v z).1) _ _ z1
      refine ⟨5, Or.inr ⟨r, hU, hl, dv_prd_mono (fun s' a b z => ?_) _ _ _ (z2 j (Nat.le_refl _))⟩⟩
      obtain ⟨y1, y2, v, y⟩ := z
      refine ⟨y1, y2, ?_⟩
      have yr := (dv_tr_rng d s' a b v y).1
      rcases Nat.lt_or_ge s' 3 with h3 | h3
      · exact Or.inl ⟨h3, dv_D_of y⟩
      · rcases Nat.lt_or_ge (b - a) (j - i) with h4 | h4
        · exact Or.inr (Or.inl ⟨h4, dv_D_of y⟩)
        · have e1 : a = i := by omega
          have e2 : b = j := by omega
          subst e1 e2
          obtain ⟨c, hc⟩ := ih s' a b v h3 y
          exact Or.inr (Or.inr ⟨rfl, rfl, gd_4 hG hc⟩)
/-- the bound of moves of a level c tree over l places -/
def gd_f (l c : Nat) : Nat := if l = 0 then gd_e c else 4096 * l + 344 * c - 2800
theorem gd_e4 : gd_e 4 = 85 := rfl
theorem gd_emono {c : Nat} (h : c ≤ 4) : gd_e c ≤ 85 := by
  have : ∀ c, c ≤ 4 → gd_e c ≤ 85 := by decide
  exact this c h
def gd_ok {V : Type} (G : gr_T) (X : tx_T) (A : al_T V) (sz : V → Nat) (s i j D M : Nat) : Prop := ∃ v, dv_tr G X A D s i j v ∧ sz v ≤ M
theorem gd_lev {V : Type} {G : gr_T} {X : tx_T} {A : al_T V} {sz : V → Nat} (hG : gr_ok G) (hz : lr_sz A sz) {i j : Nat} (hij : i ≤ j)
    (IH : ∀ s a b, b - a < j - i → dv_D G X s a b → gd_ok G X A sz s a b (4 * (b - a) + 4) (gd_f (b - a) 4)) :
    ∀ c, c ≤ 4 → ∀ s, gd_S G X i j c s → gd_ok G X A sz s i j (4 * (j - i) + c) (gd_f (j - i) c) := by
  intro c
  induction c with
  | zero => intro _ s h; exact h.elim
  | succ c ih =>
    intro hc s h
    rcases h with h | ⟨r, hU, hl, z⟩
    · obtain ⟨v, h1, h2⟩ := ih (by omega) s h
      refine ⟨v, dv_tr_le (by omega) h1, Nat.le_trans h2 ?_⟩
      unfold gd_f
      split
      · show gd_e c ≤ 4 * gd_e c + 1; omega
      · omega
    · have hc4 := (hG.2.1 r (Or.inl hU)).1
      -- the children and their moves
      have ch : ∀ k m, k ≤ gr_c G r → dv_prd (gr_h G r) (fun s' a b => i ≤ a ∧ b ≤ j ∧ ((s' < 3 ∧ dv_D G X s' a b) ∨ (b - a < j - i ∧ dv_D G X s' a b) ∨ (a = i ∧ b = j ∧ gd_S G X i j c s'))) k i m → i ≤ m ∧ m ≤ j ∧ ∃ vs, dv_pre (gr_h G r) (dv_tr G X A (4 * (j - i) + c)) k i m vs ∧
          ((j = i ∧ lr_sum sz vs ≤ gd_e c * k) ∨ (i < j ∧ ((m = i ∧ lr_sum sz vs ≤ 85 * k) ∨ (i < m ∧ m - i < j - i ∧ lr_sum sz vs + 1424 ≤ 85 * k + 4096 * (m - i)) ∨ (m = j ∧ lr_sum sz vs + 2800 ≤ 85 * k + 4096 * (j - i) + 344 * c) ∨ (i < m ∧ lr_sum sz vs + 2848 ≤ 85 * k + 4096 * (m - i))))) := by
        intro k
        induction k with
        | zero =>
          intro m _ z
          have z : i = m := z
          subst z
          refine ⟨Nat.le_refl _, hij, [], ⟨rfl, rfl⟩, ?_⟩
          rcases Nat.lt_or_ge i j with h | h
          · exact Or.inr ⟨h, Or.inl ⟨rfl, by simp only [lr_sum]; omega⟩⟩
          · exact Or.inl ⟨by omega, by simp only [lr_sum]; omega⟩
        | succ k ihk =>
          intro m hk z
          obtain ⟨x, z1, hx1, hx2, z2⟩ := z
          obtain ⟨a1, a2, vs, a3, a4⟩ := ihk x (by omega) z1
          -- the child
          have child : ∃ v, dv_tr G X A (4 * (j - i) + c) (gr_h G r k) x m v ∧ x ≤ m ∧ ((j = i ∧ sz v ≤ gd_e c) ∨ (i < j ∧ ((x = m ∧ sz v ≤ 85) ∨ (x < m ∧ m - x < j - i ∧ sz v + 1424 ≤ 4096 * (m - x)) ∨ (x = i ∧ m = j ∧ sz v + 2800 ≤ 4096 * (j - i) + 344 * c)))) := by
            rcases z2 with ⟨h3, z2⟩ | ⟨h3, z2⟩ | ⟨rfl, rfl, z2⟩
            · obtain ⟨d, v, z2⟩ := dv_D_to A z2
              have z3 := dv_tr_kind hG d _ _ _ _ h3 z2
              have z4 := z3
              obtain ⟨_, _, _, rfl, rfl⟩ := z3
              refine ⟨_, dv_tr_le (by omega) z4, by omega, Or.inr ⟨by omega, ?_⟩⟩
              rw [hz.1]
              rcases Nat.lt_or_ge 1 (j - i) with h | h
              · exact Or.inr (Or.inl ⟨by omega, by omega, by omega⟩)
              · exact Or.inr (Or.inr ⟨by omega, by omega, by omega⟩)
            · obtain ⟨v, y1, y2⟩ := IH _ x m h3 z2
              have y3 := (dv_tr_rng _ _ _ _ _ y1).1
              refine ⟨v, dv_tr_le (by omega) y1, y3, Or.inr ⟨by omega, ?_⟩⟩
              rcases Nat.lt_or_ge x m with h | h
              · unfold gd_f at y2
                rw [if_neg (by omega)] at y2
                exact Or.inr (Or.inl ⟨h, h3, by omega⟩)
              · unfold gd_f at y2
                rw [if_pos (by omega), gd_e4] at y2
                exact Or.inl ⟨by omega, y2⟩
            · obtain ⟨v, y1, y2⟩ := ih (by omega) _ z2
              refine ⟨v, y1, hij, ?_⟩
              unfold gd_f at y2
              rcases Nat.lt_or_ge x m with h | h
              · rw [if_neg (by omega)] at y2
                refine Or.inr ⟨h, Or.inr (Or.inr ⟨rfl, rfl, ?_⟩)⟩
                omega
              · rw [if_pos (by omega)] at y2
                exact Or.inl ⟨by omega, y2⟩
          obtain ⟨v, c1, c2, c3⟩ := child
          refine ⟨by omega, hx2, v :: vs, ⟨x, v, vs, a3, c1, rfl⟩, ?_⟩
          simp only [lr_sum]
          rcases Nat.lt_or_ge i j with hl | hl
          · refine Or.inr ⟨hl, ?_⟩
            have a5 : (x = i ∧ lr_sum sz vs ≤ 85 * k) ∨ (i < x ∧ x - i < j - i ∧ lr_sum sz vs + 1424 ≤ 85 * k + 4096 * (x - i)) ∨ (x = j ∧ lr_sum sz vs + 2800 ≤ 85 * k + 4096 * (j - i) + 344 * c) ∨ (i < x ∧ lr_sum sz vs + 2848 ≤ 85 * k + 4096 * (x - i)) := by
              rcases a4 with z | z
              · omega
              · exact z.2
            have c4 : (x = m ∧ sz v ≤ 85) ∨ (x < m ∧ m - x < j - i ∧ sz v + 1424 ≤ 4096 * (m - x)) ∨ (x = i ∧ m = j ∧ sz v + 2800 ≤ 4096 * (j - i) + 344 * c) := by
              rcases c3 with z | z
              · omega
              · exact z.2
            clear a4 c3 a3 c1 z1 z2 IH ih ihk
            rcases c4 with ⟨rfl, y⟩ | ⟨y1, y2, y3⟩ | ⟨rfl, rfl, y⟩
            · omega
            · omega
            · omega
          · refine Or.inl ⟨by omega, ?_⟩
            have a5 : lr_sum sz vs ≤ gd_e c * k := by
              rcases a4 with z | z
              · exact z.2
              · omega
            have c4 : sz v ≤ gd_e c := by
              rcases c3 with z | z
              · exact z.2
              · omega
            rw [Nat.mul_succ]
            omega
      obtain ⟨b1, b2, vs, b3, b4⟩ := ch (gr_c G r) j (Nat.le_refl _) z
      refine ⟨A.2 r vs, Or.inr ⟨r, vs, hU, hl, b3, rfl⟩, ?_⟩
      rw [hz.2]
      unfold gd_f
      rcases Nat.lt_or_ge i j with h | h
      · rw [if_neg (by omega)]
        have b5 : (j = i ∧ lr_sum sz vs ≤ 85 * gr_c G r) ∨ (i < j ∧ j - i < j - i ∧ lr_sum sz vs + 1424 ≤ 85 * gr_c G r + 4096 * (j - i)) ∨ (j = j ∧ lr_sum sz vs + 2800 ≤ 85 * gr_c G r + 4096 * (j - i) + 344 * c) ∨ (i < j ∧ lr_sum sz vs + 2848 ≤ 85 * gr_c G r + 4096 * (j - i)) := by
          rcases b4 with z | z
          · omega
          · exact z.2
        omega
      · rw [if_pos (by omega)]
        have b5 : lr_sum sz vs ≤ gd_e c * gr_c G r := by
          rcases b4 with z | z
          · exact z.2
          · omega
        have b6 : gd_e c * gr_c G r ≤ gd_e c * 4 := Nat.mul_le_mul_left _ hc4
        show lr_sum sz vs + 1 ≤ 4 * gd_e c + 1
        omega
theorem gd_all {V : Type} {G : gr_T} {X : tx_T} {A : al_T V} {sz : V → Nat} (hG : gr_ok G) (hz : lr_sz A sz) : ∀ l s i j, j - i ≤ l → dv_D G X s i j → gd_ok G X A sz s i j (4 * (j - i) + 4) (gd_f (j - i) 4) := by
  intro l
  induction l with
  | zero =>
    intro s i j hl z
    have hr := (dv_D_rng z).1
    obtain ⟨d, v, z⟩ := dv_D_to A z
    rcases Nat.lt_or_ge s 3 with h | h
    · obtain ⟨_, _, _, rfl, _⟩ := dv_tr_kind hG d s i j v h z
      omega
    · obtain ⟨c, hc⟩ := gd_of hG d s i j v h z
      exact gd_lev hG hz hr (fun s a b hab _ => by omega) 4 (Nat.le_refl _) s (gd_4 hG hc)
  | succ l ih =>
    intro s i j hl z
    have hr := (dv_D_rng z).1
    obtain ⟨d, v, z⟩ := dv_D_to A z
    rcases Nat.lt_or_ge s 3 with h | h
    · have z0 := dv_tr_kind hG d s i j v h z
      have z1 := z0
      obtain ⟨_, _, _, rfl, rfl⟩ := z0
      refine ⟨_, dv_tr_le (by omega) z1, ?_⟩
      rw [hz.1]
      unfold gd_f
      rw [if_neg (by omega)]
      omega
    · obtain ⟨c, hc⟩ := gd_of hG d s i j v h z
      exact gd_lev hG hz hr (fun s a b hab z => ih s a b (by omega) z) 4 (Nat.le_refl _) s (gd_4 hG hc)
/-- a good tree over each span of a text of at most 24 places -/
theorem gd_24 {V : Type} {G : gr_T} {X : tx_T} {A : al_T V} {sz : V → Nat} (hG : gr_ok G) (hz : lr_sz A sz) (hn : X.2 ≤ 24) {s i j : Nat} (z : dv_D G X s i j) (hi : i ≤ X.2) : ∃ v, dv_tr G X A 100 s i j v ∧ sz v ≤ 4096 * (j - i) + 85 := by
  obtain ⟨v, h1, h2⟩ := gd_all (A := A) hG hz (j - i) s i j (Nat.le_refl _) z
  have hj := (dv_D_rng z).2 hi
  refine ⟨v, dv_tr_le (by omega) h1, Nat.le_trans h2 ?_⟩
  unfold gd_f
  split
  · rw [gd_e4]; omega
  · omega
end
section
/-! a search in rounds of m steps: step k leaves the state alone (sat k s) or makes its count c grow; after m * B steps nothing is left to do -/
def rd_J {σ : Type} (m : Nat) (sat : Nat → σ → Prop) (c : σ → Nat) (n : Nat) (s : σ) : Prop :=
  (∀ k, k < m → sat k s) ∨ ∃ a, a ≤ n ∧ n - a < m ∧ a ≤ m * c s ∧ ∀ i, a ≤ i → i < n → sat (i % m) s
theorem rd_0 {σ : Type} {m : Nat} {sat : Nat → σ → Prop} {c : σ → Nat} {s : σ} (hm : 0 < m) : rd_J m sat c 0 s :=
  Or.inr ⟨0, Nat.le_refl _, by omega, Nat.zero_le _, fun i _ h => absurd h (Nat.not_lt_zero i)⟩
theorem rd_cov {m a k : Nat} (hk : k < m) : ∃ i, a ≤ i ∧ i < a + m ∧ i % m = k := by
  have hm : 0 < m := by omega
  have ha := Nat.mod_lt a hm
  have hd := Nat.div_add_mod a m
  rcases Nat.lt_or_ge k (a % m) with h | h
  · refine ⟨m * (a / m) + m + k, by omega, by omega, ?_⟩
    rw [show m * (a / m) + m + k = k + m * (a / m + 1) by rw [Nat.mul_add]; omega, Nat.add_mul_mod_self_left, Nat.mod_eq_of_lt hk]
  · refine ⟨m * (a / m) + k, by omega, by omega, ?_⟩
    rw [show m * (a / m) + k = k + m * (a / m) by omega, Nat.add_mul_mod_self_left, Nat.mod_eq_of_lt hk]
theorem rd_keep {σ : Type} {m n : Nat} {sat : Nat → σ → Prop} {c : σ → Nat} {s : σ} (hm : 0 < m) (h : rd_J m sat c n s) (hs : sat (n % m) s) : rd_J m sat c (n + 1) s := by
  rcases h with h | ⟨a, h1, h2, h3, h4⟩
  · exact Or.inl h
  · have h5 : ∀ i, a ≤ i → i < n + 1 → sat (i % m) s := by
      intro i hi hn
      rcases Nat.lt_or_ge i n with z | z
      · exact h4 i hi z
      · have e : i = n := by omega
        subst e; exact hs
    rcases Nat.lt_or_ge (n + 1 - a) m with z | z
    · exact Or.inr ⟨a, by omega, z, h3, h5⟩
    · refine Or.inl fun k hk => ?_
      obtain ⟨i, b1, b2, b3⟩ := rd_cov (a := a) hk
      rw [← b3]
      exact h5 i b1 (by omega)
theorem rd_grow {σ : Type} {m n : Nat} {sat : Nat → σ → Prop} {c : σ → Nat} {s s' : σ} (hm : 0 < m) (h : rd_J m sat c n s) (hs : ¬ sat (n % m) s) (hc : c s < c s') : rd_J m sat c (n + 1) s' := by
  rcases h with h | ⟨a, h1, h2, h3, h4⟩
  · exact absurd (h _ (Nat.mod_lt _ hm)) hs
  · refine Or.inr ⟨n + 1, Nat.le_refl _, by omega, ?_, fun i h1 h2 => by omega⟩
    have : m * c s + m ≤ m * c s' := by rw [← Nat.mul_succ]; exact Nat.mul_le_mul_left _ hc
    omega
theorem rd_end {σ : Type} {m n B : Nat} {sat : Nat → σ → Prop} {c : σ → Nat} {s : σ} (h : rd_J m sat c n s) (hB : c s ≤ B) (hn : m * B ≤ n) (hfull : c s = B → ∀ k, k < m → sat k s) : ∀ k, k < m → sat k s := by
  rcases h with h | ⟨a, h1, h2, h3, h4⟩
  · exact h
  · rcases Nat.lt_or_ge (c s) B with z | z
    · have : m * c s + m ≤ m * B := by rw [← Nat.mul_succ]; exact Nat.mul_le_mul_left _ z
      omega
    · exact hfull (by omega)
/-! the numbers of two sets, one sent into the other -/
theorem cn_del {Q : Nat → Prop} {y : Nat} (hy : Q y) : ∀ {M : Nat}, y < M → cn_c Q M = cn_c (fun k => Q k ∧ k ≠ y) M + 1
  | 0, h => by omega
  | M + 1, h => by
    simp only [cn_c]
    rcases Nat.lt_or_ge y M with z | z
    · rw [cn_del hy z]
      have : cn_b (Q M) = cn_b (Q M ∧ M ≠ y) := Nat.le_antisymm (cn_bm fun q => ⟨q, by omega⟩) (cn_bm fun q => q.1)
      omega
    · have e : y = M := by omega
      subst e
      rw [cn_eq (P := Q) (Q := fun k => Q k ∧ k ≠ y) (fun k hk => ⟨fun q => ⟨q, by omega⟩, fun q => q.1⟩), cn_bt hy, cn_bf (P := Q y ∧ y ≠ y) (fun q => q.2 rfl)]
theorem cn_inj {P : Nat → Prop} {M : Nat} (f : Nat → Nat) : ∀ {N : Nat} {Q : Nat → Prop}, (∀ k, k < N → P k → f k < M ∧ Q (f k)) → (∀ k l, k < N → l < N → P k → P l → f k = f l → k = l) → cn_c P N ≤ cn_c Q M
  | 0, _, _, _ => Nat.zero_le _
  | N + 1, Q, h1, h2 => by
    simp only [cn_c]
    rcases Classical.em (P N) with z | z
    · obtain ⟨a, b⟩ := h1 N (by omega) z
      rw [cn_bt z, cn_del b a]
      have := cn_inj f (N := N) (Q := fun k => Q k ∧ k ≠ f N) (fun k hk hp => ⟨(h1 k (by omega) hp).1, (h1 k (by omega) hp).2, fun e => by
        have := h2 k N (by omega) (by omega) hp z e
        omega⟩) (fun k l hk hl hp hq e => h2 k l (by omega) (by omega) hp hq e)
      omega
    · rw [cn_bf z]
      exact cn_inj f (N := N) (Q := Q) (fun k hk hp => h1 k (by omega) hp) (fun k l hk hl hp hq e => h2 k l (by omega) (by omega) hp hq e)
end
section
/-! a pattern by its spots: how many, whether the empty word, which begin, which end, which follow which, which take which letter -/
abbrev gk_T : Type := Nat × Prop × (Nat → Prop) × (Nat → Prop) × (Nat → Nat → Prop) × (Nat → Nat → Prop)
def gk_c (x : gk_T) : Nat := x.1
def gk_nu (x : gk_T) : Prop := x.2.1
def gk_bg (x : gk_T) : Nat → Prop := x.2.2.1
def gk_en (x : gk_T) : Nat → Prop := x.2.2.2.1
def gk_ar (x : gk_T) : Nat → Nat → Prop := x.2.2.2.2.1
def gk_tk (x : gk_T) : Nat → Nat → Prop := x.2.2.2.2.2
def gk_wf (x : gk_T) : Prop := gk_c x ≤ 6 ∧ (∀ b, gk_bg x b → b < gk_c x) ∧ (∀ b, gk_en x b → b < gk_c x) ∧ (∀ a b, gk_ar x a b → a < gk_c x ∧ b < gk_c x) ∧ ∀ b l, gk_tk x b l → b < gk_c x
def gk_leaf (o : Nat) : gk_T := (if o < 4 then 1 else 0, o = 4, fun b => o < 4 ∧ b = 0, fun b => o < 4 ∧ b = 0, fun _ _ => False, fun b l => o < 4 ∧ b = 0 ∧ (o = 3 ∨ o = l))
def gk_rep (o : Nat) (x : gk_T) : gk_T := (gk_c x, gk_nu x ∨ o ≠ 1, gk_bg x, gk_en x, fun a b => gk_ar x a b ∨ (o ≠ 2 ∧ gk_en x a ∧ gk_bg x b), gk_tk x)
def gk_join (o : Nat) (x y : gk_T) : gk_T :=
  (gk_c x + gk_c y, (o = 0 ∧ gk_nu x ∧ gk_nu y) ∨ (o ≠ 0 ∧ (gk_nu x ∨ gk_nu y)),
   fun b => gk_bg x b ∨ (gk_c x ≤ b ∧ gk_bg y (b - gk_c x) ∧ (o ≠ 0 ∨ gk_nu x)),
   fun b => (gk_en x b ∧ (o ≠ 0 ∨ gk_nu y)) ∨ (gk_c x ≤ b ∧ gk_en y (b - gk_c x)),
   fun a b => gk_ar x a b ∨ (gk_c x ≤ a ∧ gk_c x ≤ b ∧ gk_ar y (a - gk_c x) (b - gk_c x)) ∨ (o = 0 ∧ gk_en x a ∧ gk_c x ≤ b ∧ gk_bg y (b - gk_c x)),
   fun b l => gk_tk x b l ∨ (gk_c x ≤ b ∧ gk_tk y (b - gk_c x) l))
def gk_none : gk_T := (0, False, fun _ => False, fun _ => False, fun _ _ => False, fun _ _ => False)
theorem gk_wf_none : gk_wf gk_none := ⟨by show 0 ≤ 6; omega, fun _ h => h.elim, fun _ h => h.elim, fun _ _ h => h.elim, fun _ _ h => h.elim⟩
theorem gk_wf_leaf (o : Nat) : gk_wf (gk_leaf o) := by
  have e : ∀ b, o < 4 ∧ b = 0 → b < gk_c (gk_leaf o) := by
    intro b h
    show b < if o < 4 then 1 else 0
    rw [if_pos h.1]; omega
  refine ⟨?_, fun b h => e b h, fun b h => e b h, fun _ _ h => h.elim, fun b l h => e b ⟨h.1, h.2.1⟩⟩
  show (if o < 4 then 1 else 0) ≤ 6
  split <;> omega
theorem gk_wf_rep {o : Nat} {x : gk_T} (h : gk_wf x) : gk_wf (gk_rep o x) := by
  obtain ⟨h1, h2, h3, h4, h5⟩ := h
  refine ⟨h1, h2, h3, ?_, h5⟩
  intro a b z
  rcases z with z | ⟨_, z1, z2⟩
  · exact h4 a b z
  · exact ⟨h3 a z1, h2 b z2⟩
theorem gk_wf_join {o : Nat} {x y : gk_T} (hx : gk_wf x) (hy : gk_wf y) (h6 : gk_c x + gk_c y ≤ 6) : gk_wf (gk_join o x y) := by
  obtain ⟨_, x2, x3, x4, x5⟩ := hx
  obtain ⟨_, y2, y3, y4, y5⟩ := hy
  have e : gk_c (gk_join o x y) = gk_c x + gk_c y := rfl
  refine ⟨h6, ?_, ?_, ?_, ?_⟩
  · intro b z
    rw [e]
    rcases z with z | ⟨z1, z2, _⟩
    · have := x2 b z; omega
    · have := y2 _ z2; omega
  · intro b z
    rw [e]
    rcases z with ⟨z, _⟩ | ⟨z1, z2⟩
    · have := x3 b z; omega
    · have := y3 _ z2; omega
  · intro a b z
    rw [e]
    rcases z with z | ⟨z1, z2, z3⟩ | ⟨_, z1, z2, z3⟩
    · have := x4 a b z; omega
    · have := y4 _ _ z3; omega
    · have := x3 a z1; have := y2 _ z3; omega
  · intro b l z
    rw [e]
    rcases z with z | ⟨z1, z2⟩
    · have := x5 b l z; omega
    · have := y5 _ l z2; omega
/-- the spots that a word of m letters from place i leads to -/
def gk_rs (x : gk_T) (t : Nat → Nat) (i : Nat) : Nat → Nat → Prop
  | 0 => fun _ => False
  | m + 1 => fun b => gk_tk x b (t (i + m)) ∧ ((m = 0 ∧ gk_bg x b) ∨ ∃ a, gk_rs x t i m a ∧ gk_ar x a b)
def gk_acc (x : gk_T) (t : Nat → Nat) (i j : Nat) : Prop := i ≤ j ∧ ((i = j ∧ gk_nu x) ∨ ∃ b, gk_rs x t i (j - i) b ∧ gk_en x b)
def gk_it (R : Nat → Nat → Prop) : Nat → Nat → Nat → Prop
  | 0 => fun i j => i = j
  | n + 1 => fun i j => ∃ k, gk_it R n i k ∧ R k j
def gk_star (R : Nat → Nat → Prop) (i j : Nat) : Prop := ∃ n, gk_it R n i j
theorem gk_star_r {R : Nat → Nat → Prop} {i : Nat} : gk_star R i i := ⟨0, rfl⟩
theorem gk_star_s {R : Nat → Nat → Prop} {i k j : Nat} (h : gk_star R i k) (h2 : R k j) : gk_star R i j := by
  obtain ⟨n, h⟩ := h
  exact ⟨n + 1, k, h, h2⟩
theorem gk_star_le {R : Nat → Nat → Prop} (hR : ∀ i j, R i j → i ≤ j) {i j : Nat} (h : gk_star R i j) : i ≤ j := by
  obtain ⟨n, h⟩ := h
  revert j
  induction n with
  | zero => intro j h; have h : i = j := h; omega
  | succ n ih =>
    intro j h
    obtain ⟨k, a, b⟩ := h
    have := ih a
    have := hR _ _ b
    omega
theorem gk_star_last {R : Nat → Nat → Prop} (hR : ∀ i j, R i j → i ≤ j) {i j : Nat} (h : gk_star R i j) (hij : i < j) : ∃ k, gk_star R i k ∧ k < j ∧ R k j := by
  obtain ⟨n, h⟩ := h
  revert j
  induction n with
  | zero => intro j hij h; have h : i = j := h; omega
  | succ n ih =>
    intro j hij h
    obtain ⟨k, a, b⟩ := h
    have := hR _ _ b
    rcases Nat.lt_or_ge k j with z | z
    · exact ⟨k, ⟨n, a⟩, z, b⟩
    · have e : k = j := by omega
      subst e
      exact ih hij a
theorem gk_acc_le {x : gk_T} {t : Nat → Nat} {i j : Nat} (h : gk_acc x t i j) : i ≤ j := h.1
theorem gk_acc_ne {x : gk_T} {t : Nat → Nat} {i j : Nat} (h : gk_acc x t i j) (hij : i < j) : ∃ b, gk_rs x t i (j - i) b ∧ gk_en x b := by
  rcases h.2 with ⟨z, _⟩ | z
  · omega
  · exact z
theorem gk_acc_mk {x : gk_T} {t : Nat → Nat} {i m b : Nat} (h : gk_rs x t i m b) (h2 : gk_en x b) : gk_acc x t i (i + m) := ⟨by omega, Or.inr ⟨b, by rw [Nat.add_sub_cancel_left]; exact h, h2⟩⟩
theorem gk_acc_nu {x : gk_T} {t : Nat → Nat} {i : Nat} : gk_acc x t i i ↔ gk_nu x := by
  constructor
  · intro h
    rcases h.2 with ⟨_, z⟩ | ⟨b, z, _⟩
    · exact z
    · rw [Nat.sub_self] at z; exact z.elim
  · intro h; exact ⟨Nat.le_refl _, Or.inl ⟨rfl, h⟩⟩
theorem gk_rs_lt {x : gk_T} (hx : gk_wf x) {t : Nat → Nat} {i m b : Nat} (h : gk_rs x t i m b) : b < gk_c x := by
  cases m with
  | zero => exact h.elim
  | succ m => exact hx.2.2.2.2 _ _ h.1
theorem gk_acc_leaf {o : Nat} {t : Nat → Nat} {i j : Nat} : gk_acc (gk_leaf o) t i j ↔ (o = 4 ∧ i = j) ∨ (o < 4 ∧ j = i + 1 ∧ (o = 3 ∨ o = t i)) := by
  constructor
  · intro h
    rcases h.2 with ⟨z, y⟩ | ⟨b, z, y⟩
    · exact Or.inl ⟨y, z⟩
    · have y : o < 4 ∧ b = 0 := y
      obtain ⟨m, hm⟩ : ∃ m, j - i = m := ⟨_, rfl⟩
      rw [hm] at z
      cases m with
      | zero => exact z.elim
      | succ m =>
        obtain ⟨z1, z2⟩ := z
        rcases z2 with ⟨rfl, _⟩ | ⟨a, _, z⟩
        · exact Or.inr ⟨y.1, by omega, z1.2.2⟩
        · exact z.elim
  · intro h
    rcases h with ⟨h1, rfl⟩ | ⟨h1, rfl, h2⟩
    · exact ⟨Nat.le_refl _, Or.inl ⟨rfl, h1⟩⟩
    · exact gk_acc_mk (b := 0) ⟨⟨h1, rfl, h2⟩, Or.inl ⟨rfl, h1, rfl⟩⟩ ⟨h1, rfl⟩
/-! repeats -/
theorem gk_rs_opt {x : gk_T} {t : Nat → Nat} {i : Nat} : ∀ m b, gk_rs (gk_rep 2 x) t i m b ↔ gk_rs x t i m b := by
  intro m
  induction m with
  | zero => intro b; exact Iff.rfl
  | succ m ih =>
    intro b
    constructor
    · intro h
      obtain ⟨h1, h2⟩ := h
      refine ⟨h1, ?_⟩
      rcases h2 with h2 | ⟨a, h2, h3⟩
      · exact Or.inl h2
      · rcases h3 with h3 | ⟨h3, _⟩
        · exact Or.inr ⟨a, (ih a).mp h2, h3⟩
        · exact absurd rfl h3
    · intro h
      obtain ⟨h1, h2⟩ := h
      refine ⟨h1, ?_⟩
      rcases h2 with h2 | ⟨a, h2, h3⟩
      · exact Or.inl h2
      · exact Or.inr ⟨a, (ih a).mpr h2, Or.inl h3⟩
theorem gk_rs_rep {o : Nat} (ho : o ≠ 2) {x : gk_T} {t : Nat → Nat} {i : Nat} : ∀ m b, gk_rs (gk_rep o x) t i m b ↔ ∃ k, k < m ∧ gk_star (gk_acc x t) i (i + k) ∧ gk_rs x t (i + k) (m - k) b := by
  intro m
  induction m with
  | zero => intro b; exact ⟨fun h => h.elim, fun h => by obtain ⟨k, hk, _⟩ := h; omega⟩
  | succ m ih =>
    intro b
    constructor
    · intro h
      obtain ⟨h1, h2⟩ := h
      have h1 : gk_tk x b (t (i + m)) := h1
      rcases h2 with ⟨rfl, h2⟩ | ⟨a, h2, h3⟩
      · exact ⟨0, by omega, gk_star_r, h1, Or.inl ⟨rfl, h2⟩⟩
      · obtain ⟨k, k1, k2, k3⟩ := (ih a).mp h2
        rcases h3 with h3 | ⟨_, h3, h4⟩
        · refine ⟨k, by omega, k2, ?_⟩
          rw [show m + 1 - k = (m - k) + 1 by omega]
          refine ⟨?_, Or.inr ⟨a, k3, h3⟩⟩
          rw [show i + k + (m - k) = i + m by omega]
          exact h1
        · refine ⟨m, by omega, ?_, ?_⟩
          · have := gk_acc_mk k3 h3
            rw [show i + k + (m - k) = i + m by omega] at this
            exact gk_star_s k2 this
          · rw [show m + 1 - m = 0 + 1 by omega]
            exact ⟨h1, Or.inl ⟨rfl, h4⟩⟩
    · intro h
      obtain ⟨k, k1, k2, k3⟩ := h
      rcases Nat.lt_or_ge k m with z | z
      · rw [show m + 1 - k = (m - k) + 1 by omega] at k3
        obtain ⟨h1, h2⟩ := k3
        rw [show i + k + (m - k) = i + m by omega] at h1
        refine ⟨h1, ?_⟩
        rcases h2 with ⟨h2, _⟩ | ⟨a, h2, h3⟩
        · omega
        · exact Or.inr ⟨a, (ih a).mpr ⟨k, z, k2, h2⟩, Or.inl h3⟩
      · have e : k = m := by omega
        subst e
        rw [show k + 1 - k = 0 + 1 by omega] at k3
        obtain ⟨h1, h2⟩ := k3
        have hb : gk_bg x b := by
          rcases h2 with ⟨_, h2⟩ | ⟨a, h2, _⟩
          · exact h2
          · exact h2.elim
        refine ⟨h1, ?_⟩
        rcases Nat.eq_zero_or_pos k with z | z
        · exact Or.inl ⟨z, hb⟩
        · obtain ⟨l, l1, l2, l3⟩ := gk_star_last (fun _ _ h => gk_acc_le h) k2 (by omega)
          have l4 := gk_star_le (fun _ _ h => gk_acc_le h) l1
          obtain ⟨a, a1, a2⟩ := gk_acc_ne l3 l2
          refine Or.inr ⟨a, (ih a).mpr ⟨l - i, by omega, ?_, ?_⟩, Or.inr ⟨ho, a2, hb⟩⟩
          · rw [show i + (l - i) = l by omega]; exact l1
          · rw [show i + (l - i) = l by omega, show k - (l - i) = i + k - l by omega]; exact a1
theorem gk_acc_opt {x : gk_T} {t : Nat → Nat} {i j : Nat} : gk_acc (gk_rep 2 x) t i j ↔ i = j ∨ gk_acc x t i j := by
  constructor
  · intro h
    rcases h.2 with ⟨z, _⟩ | ⟨b, z, y⟩
    · exact Or.inl z
    · exact Or.inr ⟨h.1, Or.inr ⟨b, (gk_rs_opt _ _).mp z, y⟩⟩
  · intro h
    rcases h with rfl | h
    · exact ⟨Nat.le_refl _, Or.inl ⟨rfl, Or.inr (by decide)⟩⟩
    · rcases h.2 with ⟨z, y⟩ | ⟨b, z, y⟩
      · exact ⟨h.1, Or.inl ⟨z, Or.inl y⟩⟩
      · exact ⟨h.1, Or.inr ⟨b, (gk_rs_opt _ _).mpr z, y⟩⟩
theorem gk_acc_plus {x : gk_T} {t : Nat → Nat} {i j : Nat} : gk_acc (gk_rep 1 x) t i j ↔ ∃ k, gk_star (gk_acc x t) i k ∧ gk_acc x t k j := by
  constructor
  · intro h
    rcases h.2 with ⟨rfl, z⟩ | ⟨b, z, y⟩
    · rcases z with z | z
      · exact ⟨i, gk_star_r, gk_acc_nu.mpr z⟩
      · exact absurd rfl z
    · obtain ⟨k, k1, k2, k3⟩ := (gk_rs_rep (by decide) _ _).mp z
      refine ⟨i + k, k2, ?_⟩
      have := gk_acc_mk k3 y
      have hij := h.1
      rwa [show i + k + (j - i - k) = j by omega] at this
  · intro h
    obtain ⟨k, h1, h2⟩ := h
    have a := gk_star_le (fun _ _ h => gk_acc_le h) h1
    have b := h2.1
    rcases Nat.lt_or_ge i j with z | z
    · obtain ⟨l, l1, l2, l3⟩ := gk_star_last (fun _ _ h => gk_acc_le h) (gk_star_s h1 h2) z
      have l4 := gk_star_le (fun _ _ h => gk_acc_le h) l1
      obtain ⟨c, c1, c2⟩ := gk_acc_ne l3 l2
      refine ⟨by omega, Or.inr ⟨c, (gk_rs_rep (by decide) _ _).mpr ⟨l - i, by omega, ?_, ?_⟩, c2⟩⟩
      · rw [show i + (l - i) = l by omega]; exact l1
      · rw [show i + (l - i) = l by omega, show j - i - (l - i) = j - l by omega]; exact c1
    · have e1 : k = i := by omega
      have e2 : j = i := by omega
      subst e1 e2
      exact ⟨Nat.le_refl _, Or.inl ⟨rfl, Or.inl (gk_acc_nu.mp h2)⟩⟩
theorem gk_acc_star {x : gk_T} {t : Nat → Nat} {i j : Nat} : gk_acc (gk_rep 0 x) t i j ↔ gk_star (gk_acc x t) i j := by
  constructor
  · intro h
    rcases h.2 with ⟨rfl, z⟩ | ⟨b, z, y⟩
    · exact gk_star_r
    · obtain ⟨k, k1, k2, k3⟩ := (gk_rs_rep (by decide) _ _).mp z
      have := gk_acc_mk k3 y
      have hij := h.1
      rw [show i + k + (j - i - k) = j by omega] at this
      exact gk_star_s k2 this
  · intro h
    have a := gk_star_le (fun _ _ h => gk_acc_le h) h
    rcases Nat.lt_or_ge i j with z | z
    · obtain ⟨l, l1, l2, l3⟩ := gk_star_last (fun _ _ h => gk_acc_le h) h z
      have l4 := gk_star_le (fun _ _ h => gk_acc_le h) l1
      obtain ⟨c, c1, c2⟩ := gk_acc_ne l3 l2
      refine ⟨by omega, Or.inr ⟨c, (gk_rs_rep (by decide) _ _).mpr ⟨l - i, by omega, ?_, ?_⟩, c2⟩⟩
      · rw [show i + (l - i) = l by omega]; exact l1
      · rw [show i + (l - i) = l by omega, show j - i - (l - i) = j - l by omega]; exact c1
    · have e : i = j := by omega
      subst e
      exact ⟨Nat.le_refl _, Or.inl ⟨rfl, Or.inr (by decide)⟩⟩
/-! joins -/
theorem gk_rs_alt {o : Nat} (ho : o ≠ 0) {x y : gk_T} (hx : gk_wf x) {t : Nat → Nat} {i : Nat} : ∀ m b, gk_rs (gk_join o x y) t i m b ↔ gk_rs x t i m b ∨ (gk_c x ≤ b ∧ gk_rs y t i m (b - gk_c x)) := by
  obtain ⟨_, x2, x3, x4, x5⟩ := hx
  intro m
  induction m with
  | zero => intro b; exact ⟨fun h => h.elim, fun h => by rcases h with h | ⟨_, h⟩ <;> exact h.elim⟩
  | succ m ih =>
    intro b
    constructor
    · intro h
      obtain ⟨h1, h2⟩ := h
      rcases h1 with h1 | ⟨h1, h1'⟩
      · have hb := x5 _ _ h1
        refine Or.inl ⟨h1, ?_⟩
        rcases h2 with ⟨h2, h3⟩ | ⟨a, h2, h3⟩
        · rcases h3 with h3 | ⟨h3, _⟩
          · exact Or.inl ⟨h2, h3⟩
          · omega
        · rcases h3 with h3 | ⟨_, h3, _⟩ | ⟨h3, _⟩
          · have ha := (x4 _ _ h3).1
            rcases (ih a).mp h2 with h2 | ⟨h2, _⟩
            · exact Or.inr ⟨a, h2, h3⟩
            · omega
          · omega
          · exact absurd h3 ho
      · refine Or.inr ⟨h1, h1', ?_⟩
        rcases h2 with ⟨h2, h3⟩ | ⟨a, h2, h3⟩
        · rcases h3 with h3 | ⟨_, h3, _⟩
          · have := x2 _ h3; omega
          · exact Or.inl ⟨h2, h3⟩
        · rcases h3 with h3 | ⟨h4, _, h3⟩ | ⟨h3, _⟩
          · have := (x4 _ _ h3).2; omega
          · rcases (ih a).mp h2 with h2 | ⟨_, h2⟩
            · have : a < gk_c x := by
                cases m with
                | zero => exact h2.elim
                | succ m => exact x5 _ _ h2.1
              omega
            · exact Or.inr ⟨a - gk_c x, h2, h3⟩
          · exact absurd h3 ho
    · intro h
      rcases h with ⟨h1, h2⟩ | ⟨h0, h1, h2⟩
      · refine ⟨Or.inl h1, ?_⟩
        rcases h2 with ⟨h2, h3⟩ | ⟨a, h2, h3⟩
        · exact Or.inl ⟨h2, Or.inl h3⟩
        · exact Or.inr ⟨a, (ih a).mpr (Or.inl h2), Or.inl h3⟩
      · refine ⟨Or.inr ⟨h0, h1⟩, ?_⟩
        rcases h2 with ⟨h2, h3⟩ | ⟨a, h2, h3⟩
        · exact Or.inl ⟨h2, Or.inr ⟨h0, h3, Or.inl ho⟩⟩
        · refine Or.inr ⟨a + gk_c x, (ih _).mpr (Or.inr ⟨by omega, ?_⟩), Or.inr (Or.inl ⟨by omega, h0, ?_⟩)⟩
          · rw [Nat.add_sub_cancel]; exact h2
          · rw [Nat.add_sub_cancel]; exact h3
theorem gk_rs_cat {x y : gk_T} (hx : gk_wf x) {t : Nat → Nat} {i : Nat} : ∀ m b, gk_rs (gk_join 0 x y) t i m b ↔ gk_rs x t i m b ∨ (gk_c x ≤ b ∧ ∃ k, k < m ∧ gk_acc x t i (i + k) ∧ gk_rs y t (i + k) (m - k) (b - gk_c x)) := by
  obtain ⟨_, x2, x3, x4, x5⟩ := hx
  intro m
  induction m with
  | zero => intro b; exact ⟨fun h => h.elim, fun h => by rcases h with h | ⟨_, k, hk, _⟩; exact h.elim; omega⟩
  | succ m ih =>
    intro b
    constructor
    · intro h
      obtain ⟨h1, h2⟩ := h
      rcases h1 with h1 | ⟨h1, h1'⟩
      · have hb := x5 _ _ h1
        refine Or.inl ⟨h1, ?_⟩
        rcases h2 with ⟨h2, h3⟩ | ⟨a, h2, h3⟩
        · rcases h3 with h3 | ⟨h3, _⟩
          · exact Or.inl ⟨h2, h3⟩
          · omega
        · rcases h3 with h3 | ⟨_, h3, _⟩ | ⟨_, _, h3, _⟩
          · have ha := (x4 _ _ h3).1
            rcases (ih a).mp h2 with h2 | ⟨h2, _⟩
            · exact Or.inr ⟨a, h2, h3⟩
            · omega
          · omega
          · omega
      · refine Or.inr ⟨h1, ?_⟩
        rcases h2 with ⟨rfl, h3⟩ | ⟨a, h2, h3⟩
        · rcases h3 with h3 | ⟨_, h3, h4⟩
          · have := x2 _ h3; omega
          · rcases h4 with h4 | h4
            · exact absurd rfl h4
            · exact ⟨0, by omega, gk_acc_nu.mpr h4, h1', Or.inl ⟨rfl, h3⟩⟩
        · rcases h3 with h3 | ⟨h4, _, h3⟩ | ⟨_, h4, _, h3⟩
          · have := (x4 _ _ h3).2; omega
          · rcases (ih a).mp h2 with h2 | ⟨_, k, k1, k2, k3⟩
            · have : a < gk_c x := by
                cases m with
                | zero => exact h2.elim
                | succ m => exact x5 _ _ h2.1
              omega
            · refine ⟨k, by omega, k2, ?_⟩
              rw [show m + 1 - k = (m - k) + 1 by omega]
              refine ⟨?_, Or.inr ⟨a - gk_c x, k3, h3⟩⟩
              rw [show i + k + (m - k) = i + m by omega]
              exact h1'
          · have ha := x3 _ h4
            rcases (ih a).mp h2 with h2 | ⟨h2, _⟩
            · refine ⟨m, by omega, gk_acc_mk h2 h4, ?_⟩
              rw [show m + 1 - m = 0 + 1 by omega]
              exact ⟨h1', Or.inl ⟨rfl, h3⟩⟩
            · omega
    · intro h
      rcases h with ⟨h1, h2⟩ | ⟨h0, k, k1, k2, k3⟩
      · refine ⟨Or.inl h1, ?_⟩
        rcases h2 with ⟨h2, h3⟩ | ⟨a, h2, h3⟩
        · exact Or.inl ⟨h2, Or.inl h3⟩
        · exact Or.inr ⟨a, (ih a).mpr (Or.inl h2), Or.inl h3⟩
      · rcases Nat.lt_or_ge k m with z | z
        · rw [show m + 1 - k = (m - k) + 1 by omega] at k3
          obtain ⟨h1, h2⟩ := k3
          rw [show i + k + (m - k) = i + m by omega] at h1
          refine ⟨Or.inr ⟨h0, h1⟩, ?_⟩
          rcases h2 with ⟨h2, _⟩ | ⟨a, h2, h3⟩
          · omega
          · refine Or.inr ⟨a + gk_c x, (ih _).mpr (Or.inr ⟨by omega, k, z, k2, ?_⟩), Or.inr (Or.inl ⟨by omega, h0, ?_⟩)⟩
            · rw [Nat.add_sub_cancel]; exact h2
            · rw [Nat.add_sub_cancel]; exact h3
        · have e : k = m := by omega
          subst e
          rw [show k + 1 - k = 0 + 1 by omega] at k3
          obtain ⟨h1, h2⟩ := k3
          have hb : gk_bg y (b - gk_c x) := by
            rcases h2 with ⟨_, h2⟩ | ⟨a, h2, _⟩
            · exact h2
            · exact h2.elim
          refine ⟨Or.inr ⟨h0, h1⟩, ?_⟩
          rcases Nat.eq_zero_or_pos k with z | z
          · subst z
            exact Or.inl ⟨rfl, Or.inr ⟨h0, hb, Or.inr (gk_acc_nu.mp k2)⟩⟩
          · obtain ⟨a, a1, a2⟩ := gk_acc_ne k2 (by omega)
            rw [Nat.add_sub_cancel_left] at a1
            exact Or.inr ⟨a, (ih a).mpr (Or.inl a1), Or.inr (Or.inr ⟨rfl, a2, h0, hb⟩)⟩
theorem gk_acc_alt {o : Nat} (ho : o ≠ 0) {x y : gk_T} (hx : gk_wf x) {t : Nat → Nat} {i j : Nat} : gk_acc (gk_join o x y) t i j ↔ gk_acc x t i j ∨ gk_acc y t i j := by
  constructor
  · intro h
    rcases h.2 with ⟨z, y⟩ | ⟨b, z, y⟩
    · rcases y with ⟨y, _⟩ | ⟨_, y | y⟩
      · exact absurd y ho
      · exact Or.inl ⟨h.1, Or.inl ⟨z, y⟩⟩
      · exact Or.inr ⟨h.1, Or.inl ⟨z, y⟩⟩
    · rcases (gk_rs_alt ho hx _ _).mp z with z | ⟨z1, z⟩
      · have := gk_rs_lt hx z
        rcases y with ⟨y, _⟩ | ⟨y, _⟩
        · exact Or.inl ⟨h.1, Or.inr ⟨b, z, y⟩⟩
        · omega
      · rcases y with ⟨y, _⟩ | ⟨_, y⟩
        · have := hx.2.2.1 _ y; omega
        · exact Or.inr ⟨h.1, Or.inr ⟨_, z, y⟩⟩
  · intro h
    rcases h with h | h
    · rcases h.2 with ⟨z, y⟩ | ⟨b, z, y⟩
      · exact ⟨h.1, Or.inl ⟨z, Or.inr ⟨ho, Or.inl y⟩⟩⟩
      · exact ⟨h.1, Or.inr ⟨b, (gk_rs_alt ho hx _ _).mpr (Or.inl z), Or.inl ⟨y, Or.inl ho⟩⟩⟩
    · rcases h.2 with ⟨z, y⟩ | ⟨b, z, y⟩
      · exact ⟨h.1, Or.inl ⟨z, Or.inr ⟨ho, Or.inr y⟩⟩⟩
      · refine ⟨h.1, Or.inr ⟨b + gk_c x, (gk_rs_alt ho hx _ _).mpr (Or.inr ⟨by omega, ?_⟩), Or.inr ⟨by omega, ?_⟩⟩⟩
        · rw [Nat.add_sub_cancel]; exact z
        · rw [Nat.add_sub_cancel]; exact y
theorem gk_acc_cat {x y : gk_T} (hx : gk_wf x) {t : Nat → Nat} {i j : Nat} : gk_acc (gk_join 0 x y) t i j ↔ ∃ k, gk_acc x t i k ∧ gk_acc y t k j := by
  constructor
  · intro h
    have hij := h.1
    rcases h.2 with ⟨rfl, y⟩ | ⟨b, z, y⟩
    · rcases y with ⟨_, y1, y2⟩ | ⟨y, _⟩
      · exact ⟨i, gk_acc_nu.mpr y1, gk_acc_nu.mpr y2⟩
      · exact absurd rfl y
    · rcases (gk_rs_cat hx _ _).mp z with z | ⟨z1, k, k1, k2, k3⟩
      · have := gk_rs_lt hx z
        rcases y with ⟨y, y2⟩ | ⟨y, _⟩
        · rcases y2 with y2 | y2
          · exact absurd rfl y2
          · exact ⟨j, ⟨hij, Or.inr ⟨b, z, y⟩⟩, gk_acc_nu.mpr y2⟩
        · omega
      · rcases y with ⟨y, _⟩ | ⟨_, y⟩
        · have := hx.2.2.1 _ y; omega
        · refine ⟨i + k, k2, ?_⟩
          have := gk_acc_mk k3 y
          rwa [show i + k + (j - i - k) = j by omega] at this
  · intro h
    obtain ⟨k, h1, h2⟩ := h
    have a := h1.1
    have b := h2.1
    rcases Nat.lt_or_ge k j with z | z
    · obtain ⟨c, c1, c2⟩ := gk_acc_ne h2 z
      refine ⟨by omega, Or.inr ⟨c + gk_c x, (gk_rs_cat hx _ _).mpr (Or.inr ⟨by omega, k - i, by omega, ?_, ?_⟩), Or.inr ⟨by omega, ?_⟩⟩⟩
      · rw [show i + (k - i) = k by omega]; exact h1
      · rw [show i + (k - i) = k by omega, show j - i - (k - i) = j - k by omega, Nat.add_sub_cancel]; exact c1
      · rw [Nat.add_sub_cancel]; exact c2
    · have e : k = j := by omega
      subst e
      have hy := gk_acc_nu.mp h2
      rcases Nat.lt_or_ge i k with z | z
      · obtain ⟨c, c1, c2⟩ := gk_acc_ne h1 z
        exact ⟨a, Or.inr ⟨c, (gk_rs_cat hx _ _).mpr (Or.inl c1), Or.inl ⟨c2, Or.inr hy⟩⟩⟩
      · have e : i = k := by omega
        subst e
        exact ⟨a, Or.inl ⟨rfl, Or.inl ⟨rfl, gk_acc_nu.mp h1, hy⟩⟩⟩
end
section
/-! sets of spots told apart by words of up to n letters, and how many classes there are -/
def au_e (δ : Nat → Nat → Nat) (ac : Nat → Prop) : Nat → Nat → Nat → Prop
  | 0 => fun m m' => (ac m ↔ ac m')
  | n + 1 => fun m m' => au_e δ ac n m m' ∧ ∀ l, l < 3 → au_e δ ac n (δ m l) (δ m' l)
theorem au_refl {δ : Nat → Nat → Nat} {ac : Nat → Prop} : ∀ n m, au_e δ ac n m m := by
  intro n
  induction n with
  | zero => intro m; exact Iff.rfl
  | succ n ih => intro m; exact ⟨ih m, fun l _ => ih _⟩
theorem au_symm {δ : Nat → Nat → Nat} {ac : Nat → Prop} : ∀ n m m', au_e δ ac n m m' → au_e δ ac n m' m := by
  intro n
  induction n with
  | zero => intro m m' h; exact Iff.symm h
  | succ n ih => intro m m' h; exact ⟨ih _ _ h.1, fun l hl => ih _ _ (h.2 l hl)⟩
theorem au_trans {δ : Nat → Nat → Nat} {ac : Nat → Prop} : ∀ n a b c, au_e δ ac n a b → au_e δ ac n b c → au_e δ ac n a c := by
  intro n
  induction n with
  | zero => intro a b c h1 h2; exact Iff.trans h1 h2
  | succ n ih => intro a b c h1 h2; exact ⟨ih _ _ _ h1.1 h2.1, fun l hl => ih _ _ _ (h1.2 l hl) (h2.2 l hl)⟩
/-- those that are the first of their class, in a list p -/
def au_f (E : Nat → Nat → Prop) (P : Nat → Prop) (p : Nat → Nat) (i : Nat) : Prop := P i ∧ ∀ i', i' < i → P i' → ¬ E (p i') (p i)
theorem au_two {E : Nat → Nat → Prop} (sy : ∀ a b, E a b → E b a) (tr : ∀ a b c, E a b → E b c → E a c) {P Q : Nat → Prop} {p q : Nat → Nat} {N M : Nat}
    (h : ∀ i, i < N → P i → ∃ j, j < M ∧ Q j ∧ E (p i) (q j)) : cn_c (au_f E P p) N ≤ cn_c (au_f E Q q) M := by
  have ex : ∀ i, ∃ j, i < N → P i → (j < M ∧ Q j ∧ E (p i) (q j)) ∧ ∀ j', j' < j → ¬ (j' < M ∧ Q j' ∧ E (p i) (q j')) := by
    intro i
    rcases Classical.em (i < N ∧ P i) with z | z
    · obtain ⟨j, h1, h2⟩ := pk_least (fun j => j < M ∧ Q j ∧ E (p i) (q j)) (h i z.1 z.2)
      exact ⟨j, fun _ _ => ⟨h1, h2⟩⟩
    · exact ⟨0, fun h1 h2 => absurd ⟨h1, h2⟩ z⟩
  obtain ⟨f, hf⟩ : ∃ f : Nat → Nat, ∀ i, i < N → P i → (f i < M ∧ Q (f i) ∧ E (p i) (q (f i))) ∧ ∀ j', j' < f i → ¬ (j' < M ∧ Q j' ∧ E (p i) (q j')) := ⟨fun i => Classical.choose (ex i), fun i => Classical.choose_spec (ex i)⟩
  refine cn_inj f (fun i hi hp => ?_) (fun i l hi hl hp hq e => ?_)
  · obtain ⟨⟨a, b, c⟩, d⟩ := hf i hi hp.1
    refine ⟨a, b, fun j' hj' hq he => d j' hj' ⟨by omega, hq, ?_⟩⟩
    exact tr _ _ _ c (sy _ _ he)
  · obtain ⟨⟨a, b, c⟩, _⟩ := hf i hi hp.1
    obtain ⟨⟨a', b', c'⟩, _⟩ := hf l hl hq.1
    rw [e] at c
    have c3 := tr _ _ _ c (sy _ _ c')
    rcases Nat.lt_trichotomy i l with z | z | z
    · exact absurd c3 (hq.2 i z hp.1)
    · exact z
    · exact absurd (sy _ _ c3) (hp.2 l z hq.1)
noncomputable def au_c (δ : Nat → Nat → Nat) (ac : Nat → Prop) (R : Nat → Prop) (n : Nat) : Nat := cn_c (au_f (au_e δ ac n) R (fun m => m)) 128
theorem au_list {δ : Nat → Nat → Nat} {ac : Nat → Prop} {R : Nat → Prop} {q : Nat → Nat} {N : Nat} (hR : ∀ m, R m → m < 128) (h1 : ∀ s, s < N → R (q s)) (h2 : ∀ m, R m → ∃ s, s < N ∧ q s = m) (n : Nat) :
    cn_c (au_f (au_e δ ac n) (fun _ => True) q) N = au_c δ ac R n := by
  apply Nat.le_antisymm
  · exact au_two (au_symm n) (au_trans n) (fun i hi _ => ⟨q i, hR _ (h1 i hi), h1 i hi, au_refl n _⟩)
  · refine au_two (au_symm n) (au_trans n) (fun m _ hm => ?_)
    obtain ⟨s, a, b⟩ := h2 m hm
    exact ⟨s, a, trivial, by rw [b]; exact au_refl n _⟩
theorem au_up {δ : Nat → Nat → Nat} {ac : Nat → Prop} {R : Nat → Prop} (n : Nat) : au_c δ ac R n ≤ au_c δ ac R (n + 1) :=
  cn_mono fun _ _ h => ⟨h.1, fun i' hi hp he => h.2 i' hi hp he.1⟩
theorem au_65 {δ : Nat → Nat → Nat} {ac : Nat → Prop} {R : Nat → Prop} (hR : ∀ m, R m → m < 65) (n : Nat) : au_c δ ac R n ≤ 65 := by
  refine Nat.le_trans (cn_inj (M := 65) (Q := fun _ => True) (fun m => m) (fun m _ h => ⟨hR m h.1, trivial⟩) (fun _ _ _ _ _ _ e => e)) (cn_le _ 65)
theorem au_1 {δ : Nat → Nat → Nat} {ac : Nat → Prop} {R : Nat → Prop} {m : Nat} (hR : ∀ m, R m → m < 128) (hm : R m) (n : Nat) : 1 ≤ au_c δ ac R n := by
  have := au_list (δ := δ) (ac := ac) (R := fun k => k = m) (q := fun _ => m) (N := 1) (by rintro k rfl; exact hR _ hm) (fun _ _ => rfl) (by rintro k rfl; exact ⟨0, by omega, rfl⟩) n
  have h2 : au_c δ ac (fun k => k = m) n ≤ au_c δ ac R n := au_two (au_symm n) (au_trans n) (by rintro i hi rfl; exact ⟨i, hi, hm, au_refl n _⟩)
  have h3 : cn_c (au_f (au_e δ ac n) (fun _ => True) (fun _ => m)) 1 = 1 := by
    show 0 + cn_b _ = 1
    rw [cn_bt]
    exact ⟨trivial, fun i' hi => absurd hi (Nat.not_lt_zero _)⟩
  omega
end
section
/-! what is told of a tree: the rules it uses, its value, its levels, its moves -/
abbrev vt_T : Type := List Nat × Int32 × Nat × Nat
def vt_us : List vt_T → List Nat
  | [] => []
  | v :: vs => vt_us vs ++ v.1
def vt_vl (r : Nat) : List vt_T → Int32
  | [] => nI r + 1
  | v :: vs => vt_vl r vs + nI (vs.length + 1) * v.2.1
def vt_dp : List vt_T → Nat
  | [] => 0
  | v :: vs => if vt_dp vs ≤ v.2.2.1 then v.2.2.1 else vt_dp vs
def vt_sz (v : vt_T) : Nat := v.2.2.2
def vt_A (len : Nat → Int32) : al_T vt_T := (fun i => ([], len i, 0, 1), fun r vs => (vt_us vs ++ [r], vt_vl r vs, vt_dp vs + 1, lr_sum vt_sz vs + 1))
theorem vt_ok (len : Nat → Int32) : lr_sz (vt_A len) vt_sz := ⟨fun _ => rfl, fun _ _ => rfl⟩
theorem vt_dpc {v : vt_T} {vs : List vt_T} : v.2.2.1 ≤ vt_dp (v :: vs) ∧ vt_dp vs ≤ vt_dp (v :: vs) := by
  show v.2.2.1 ≤ (if vt_dp vs ≤ v.2.2.1 then v.2.2.1 else vt_dp vs) ∧ vt_dp vs ≤ (if vt_dp vs ≤ v.2.2.1 then v.2.2.1 else vt_dp vs)
  split <;> omega
theorem vt_deep {G : gr_T} {X : tx_T} {len : Nat → Int32} : ∀ d s i j v, dv_tr G X (vt_A len) d s i j v → v.2.2.1 ≤ d := by
  intro d
  induction d with
  | zero => intro s i j v z; obtain ⟨_, _, _, _, rfl⟩ := z; exact Nat.le_refl _
  | succ d ih =>
    intro s i j v z
    rcases z with z | ⟨r, vs, _, _, z, rfl⟩
    · have := ih _ _ _ _ z; omega
    · have key : ∀ k i j vs, dv_pre (gr_h G r) (dv_tr G X (vt_A len) d) k i j vs → vt_dp vs ≤ d := by
        intro k
        induction k with
        | zero => intro i j vs z; obtain ⟨_, rfl⟩ := z; exact Nat.zero_le _
        | succ k ihk =>
          intro i j vs z
          obtain ⟨m, v, ws, z1, z2, rfl⟩ := z
          have a := ihk _ _ _ z1
          have b := ih _ _ _ _ z2
          show (if vt_dp ws ≤ v.2.2.1 then v.2.2.1 else vt_dp ws) ≤ d
          split <;> omega
      have := key _ _ _ _ z
      show vt_dp vs + 1 ≤ d + 1
      omega
/-- the values f 0 .. f (c - 1), the last one first -/
def vt_li {V : Type} (f : Nat → V) : Nat → List V
  | 0 => []
  | c + 1 => f c :: vt_li f c
theorem vt_li_len {V : Type} (f : Nat → V) : ∀ c, (vt_li f c).length = c := by
  intro c
  induction c with
  | zero => rfl
  | succ c ih => show (vt_li f c).length + 1 = c + 1; rw [ih]
theorem vt_chain {V : Type} {G : gr_T} {X : tx_T} {A : al_T V} {h e : Nat → Nat} {f : Nat → V} : ∀ c, (∀ k, k < c → ∃ d, dv_tr G X A d (h k) (e k) (e (k + 1)) (f k)) → ∃ d, dv_pre h (dv_tr G X A d) c (e 0) (e c) (vt_li f c) := by
  intro c
  induction c with
  | zero => intro _; exact ⟨0, rfl, rfl⟩
  | succ c ih =>
    intro hc
    obtain ⟨d, h1⟩ := ih (fun k hk => hc k (by omega))
    obtain ⟨d', h2⟩ := hc c (by omega)
    exact ⟨d + d', e c, f c, vt_li f c, dv_pre_mono (fun _ _ _ _ z => dv_tr_up d' d z) _ _ _ _ h1, dv_tr_le (by omega) h2, rfl⟩
theorem vt_node {V : Type} {G : gr_T} {X : tx_T} {A : al_T V} {r : Nat} (hU : gr_U G r) {e : Nat → Nat} {f : Nat → V} (hc : ∀ k, k < gr_c G r → ∃ d, dv_tr G X A d (gr_h G r k) (e k) (e (k + 1)) (f k)) : ∃ d, dv_tr G X A d (gr_l G r) (e 0) (e (gr_c G r)) (A.2 r (vt_li f (gr_c G r))) := by
  obtain ⟨d, h⟩ := vt_chain _ hc
  exact ⟨d + 1, Or.inr ⟨r, _, hU, rfl, h, rfl⟩⟩
/-- a span of a symbol in a sentence's tree, D levels below its top -/
def cx_C (G : gr_T) (X : tx_T) (len : Nat → Int32) (D x i j : Nat) : Prop :=
  ∃ K, ∀ d u, dv_tr G X (vt_A len) d x i j u → ∃ d' v, dv_tr G X (vt_A len) d' 3 0 X.2 v ∧ vt_sz v = vt_sz u + K ∧ u.2.2.1 + D ≤ v.2.2.1
theorem cx_root {G : gr_T} {X : tx_T} {len : Nat → Int32} : cx_C G X len 0 3 0 X.2 := ⟨0, fun d u h => ⟨d, u, h, rfl, Nat.le_refl _⟩⟩
def cx_one (G : gr_T) (X : tx_T) (len : Nat → Int32) : Prop := ∀ d e v w, dv_tr G X (vt_A len) d 3 0 X.2 v → dv_tr G X (vt_A len) e 3 0 X.2 w → v = w
theorem cx_sz {G : gr_T} {X : tx_T} {len : Nat → Int32} (h1 : cx_one G X len) {D x i j : Nat} (h : cx_C G X len D x i j) {d e : Nat} {u u' : vt_T} (a : dv_tr G X (vt_A len) d x i j u) (b : dv_tr G X (vt_A len) e x i j u') : vt_sz u = vt_sz u' := by
  obtain ⟨K, h⟩ := h
  obtain ⟨_, v, a1, a2, _⟩ := h d u a
  obtain ⟨_, w, b1, b2, _⟩ := h e u' b
  have := h1 _ _ _ _ a1 b1
  subst this
  omega
def cx_ks (f : Nat → vt_T) (k : Nat) : Nat → Nat
  | 0 => 0
  | c + 1 => cx_ks f k c + if c = k then 0 else vt_sz (f c)
theorem cx_sum {f : Nat → vt_T} {k : Nat} {u : vt_T} : ∀ c, lr_sum vt_sz (vt_li (fun m => if m = k then u else f m) c) = cx_ks f k c + if k < c then vt_sz u else 0 := by
  intro c
  induction c with
  | zero => rw [if_neg (by omega)]; rfl
  | succ c ih =>
    show lr_sum vt_sz (vt_li (fun m => if m = k then u else f m) c) + vt_sz (if c = k then u else f c) = cx_ks f k c + (if c = k then 0 else vt_sz (f c)) + _
    rw [ih]
    by_cases e : c = k
    · subst e
      rw [if_pos rfl, if_pos rfl, if_neg (by omega), if_pos (by omega)]
    · rw [if_neg e, if_neg e]
      by_cases z : k < c
      · rw [if_pos z, if_pos (by omega)]; omega
      · rw [if_neg z, if_neg (by omega)]; omega
theorem cx_dp {f : Nat → vt_T} {k : Nat} {u : vt_T} : ∀ c, k < c → u.2.2.1 ≤ vt_dp (vt_li (fun m => if m = k then u else f m) c) := by
  intro c
  induction c with
  | zero => intro h; omega
  | succ c ih =>
    intro h
    have a := vt_dpc (v := if c = k then u else f c) (vs := vt_li (fun m => if m = k then u else f m) c)
    show u.2.2.1 ≤ vt_dp ((if c = k then u else f c) :: vt_li (fun m => if m = k then u else f m) c)
    by_cases e : c = k
    · have := a.1
      rw [if_pos e] at this ⊢
      exact this
    · exact Nat.le_trans (ih (by omega)) a.2
theorem cx_child {G : gr_T} {X : tx_T} {len : Nat → Int32} {D r k : Nat} {e : Nat → Nat} (hU : gr_U G r) (hC : cx_C G X len D (gr_l G r) (e 0) (e (gr_c G r))) (hd : ∀ k, k < gr_c G r → dv_D G X (gr_h G r k) (e k) (e (k + 1))) (hk : k < gr_c G r) : cx_C G X len (D + 1) (gr_h G r k) (e k) (e (k + 1)) := by
  have ex : ∀ k, ∃ v, k < gr_c G r → ∃ d, dv_tr G X (vt_A len) d (gr_h G r k) (e k) (e (k + 1)) v := by
    intro k
    rcases Nat.lt_or_ge k (gr_c G r) with z | z
    · obtain ⟨d, v, h⟩ := dv_D_to (vt_A len) (hd k z)
      exact ⟨v, fun _ => ⟨d, h⟩⟩
    · exact ⟨([], 0, 0, 0), fun z' => by omega⟩
  obtain ⟨f, hf⟩ : ∃ f : Nat → vt_T, ∀ k, k < gr_c G r → ∃ d, dv_tr G X (vt_A len) d (gr_h G r k) (e k) (e (k + 1)) (f k) := ⟨fun k => Classical.choose (ex k), fun k => Classical.choose_spec (ex k)⟩
  obtain ⟨K, hC⟩ := hC
  refine ⟨K + cx_ks f k (gr_c G r) + 1, fun d u hu => ?_⟩
  obtain ⟨d1, h1⟩ := vt_node (A := vt_A len) hU (e := e) (f := fun m => if m = k then u else f m) (fun m hm => by
    by_cases z : m = k
    · subst z
      refine ⟨d, ?_⟩
      show dv_tr G X (vt_A len) d (gr_h G r m) (e m) (e (m + 1)) (if m = m then u else f m)
      rw [if_pos rfl]; exact hu
    · obtain ⟨d', h⟩ := hf m hm
      refine ⟨d', ?_⟩
      show dv_tr G X (vt_A len) d' (gr_h G r m) (e m) (e (m + 1)) (if m = k then u else f m)
      rw [if_neg z]; exact h)
  obtain ⟨d', v, a, b, c⟩ := hC d1 _ h1
  refine ⟨d', v, a, ?_, ?_⟩
  · rw [b]
    show lr_sum vt_sz (vt_li (fun m => if m = k then u else f m) (gr_c G r)) + 1 + K = _
    rw [cx_sum, if_pos hk]
    omega
  · have := cx_dp (f := f) (u := u) (gr_c G r) hk
    have c : vt_dp (vt_li (fun m => if m = k then u else f m) (gr_c G r)) + 1 + D ≤ v.2.2.1 := c
    omega
/-- the span lies not too deep -/
theorem cx_100 {G : gr_T} {X : tx_T} {len : Nat → Int32} (h1 : cx_one G X len) (hG : gr_ok G) (hn : X.2 ≤ 24) {D x i j : Nat} (h : cx_C G X len D x i j) (hD : dv_D G X x i j) : D ≤ 100 := by
  obtain ⟨d, u, hu⟩ := dv_D_to (vt_A len) hD
  obtain ⟨K, h⟩ := h
  obtain ⟨d', v, a, _, c⟩ := h d u hu
  obtain ⟨w, b1, _⟩ := gd_24 (A := vt_A len) hG (vt_ok len) hn (dv_D_of a) (Nat.zero_le _)
  have e := h1 _ _ _ _ a b1
  subst e
  have := vt_deep _ _ _ _ _ b1
  omega
end
section
/-! the rules as they stand: how many, lefts, sizes, rights; what is told by them: least sets -/
abbrev rg_T : Type := Nat × (Nat → Nat) × (Nat → Nat) × (Nat → Nat → Nat)
def rg_n (g : rg_T) : Nat := g.1
def rg_l (g : rg_T) : Nat → Nat := g.2.1
def rg_c (g : rg_T) : Nat → Nat := g.2.2.1
def rg_h (g : rg_T) : Nat → Nat → Nat := g.2.2.2
def rg_ok (g : rg_T) : Prop := rg_n g ≤ 9 ∧ (∀ r, r < rg_n g → 3 ≤ rg_l g r ∧ rg_l g r < 7 ∧ rg_c g r ≤ 4 ∧ ∀ k, k < rg_c g r → rg_h g r k < 7) ∧ rg_l g 9 = 7 ∧ rg_c g 9 = 1 ∧ rg_h g 9 0 = 3
def en_cl (g : rg_T) (P : Nat → Prop) : Prop := (∀ k, k < 3 → P k) ∧ ∀ r, r < rg_n g → (∀ i, i < rg_c g r → P (rg_h g r i)) → P (rg_l g r)
def en_E (g : rg_T) (s : Nat) : Prop := ∀ P, en_cl g P → P s
theorem en_self (g : rg_T) : en_cl g (en_E g) := ⟨fun k hk P h => h.1 k hk, fun r hr h P hP => hP.2 r hr (fun i hi => h i hi P hP)⟩
def co_cl (g : rg_T) (P : Nat → Prop) : Prop := P 3 ∧ ∀ r, r < rg_n g → (∀ i, i < rg_c g r → en_E g (rg_h g r i)) → P (rg_l g r) → ∀ i, i < rg_c g r → P (rg_h g r i)
def co_C (g : rg_T) (s : Nat) : Prop := ∀ P, co_cl g P → P s
theorem co_self (g : rg_T) : co_cl g (co_C g) := ⟨fun _ h => h.1, fun r hr h1 h2 i hi P hP => hP.2 r hr h1 (h2 P hP) i hi⟩
def us_U (g : rg_T) (r : Nat) : Prop := r < rg_n g ∧ (∀ i, i < rg_c g r → en_E g (rg_h g r i)) ∧ co_C g (rg_l g r)
def tg_G (g : rg_T) : gr_T := (us_U g, rg_l g, rg_c g, rg_h g)
theorem tg_ok {g : rg_T} (h : rg_ok g) : gr_ok (tg_G g) := by
  obtain ⟨h1, h2, h3, h4, h5⟩ := h
  refine ⟨fun r hr => ?_, fun r hr => ?_, h3, h4, h5⟩
  · have hr : us_U g r := hr
    have := h2 r hr.1
    exact ⟨by have := hr.1; omega, this.1, this.2.1⟩
  · rcases hr with hr | rfl
    · have hr : us_U g r := hr
      have := h2 r hr.1
      exact ⟨this.2.2.1, this.2.2.2⟩
    · refine ⟨by show rg_c g 9 ≤ 4; omega, fun k hk => ?_⟩
      have hk : k < rg_c g 9 := hk
      have e : k = 0 := by omega
      subst e
      show rg_h g 9 0 < 7
      omega
theorem co_3 {g : rg_T} {s : Nat} (h : co_C g s) : s = 3 ∨ en_E g 3 := by
  refine h (fun s => s = 3 ∨ en_E g 3) ⟨Or.inl rfl, fun r hr h1 h2 i hi => Or.inr ?_⟩
  rcases h2 with h2 | h2
  · rw [← h2]; exact (en_self g).2 r hr h1
  · exact h2
theorem us_3 {g : rg_T} {r : Nat} (h : us_U g r) : en_E g 3 := by
  rcases co_3 h.2.2 with e | e
  · rw [← e]; exact (en_self g).2 r h.1 h.2.1
  · exact e
theorem fs_mono {F F' : Nat → Nat → Prop} (hF : ∀ s b, F s b → F' s b) {h : Nat → Nat} : ∀ c p b, fs_b F h c p b → fs_b F' h c p b := by
  intro c
  induction c with
  | zero => intro p b z; exact z
  | succ c ih =>
    intro p b z
    rcases z with ⟨z1, z2⟩ | ⟨z1, z2⟩
    · exact Or.inl ⟨z1, hF _ _ z2⟩
    · exact Or.inr ⟨hF _ _ z1, ih _ _ z2⟩
theorem fs_le {F : Nat → Nat → Prop} {h : Nat → Nat} : ∀ c p b, fs_b F h c p b → b ≤ 3 := by
  intro c
  induction c with
  | zero => intro p b z; have z : b = 3 := z; omega
  | succ c ih =>
    intro p b z
    rcases z with ⟨z1, _⟩ | ⟨_, z2⟩
    · omega
    · exact ih _ _ z2
def fi_F (g : rg_T) (s b : Nat) : Prop := ∀ F, fs_ok (tg_G g) F → F s b
theorem fi_ok (g : rg_T) : fs_ok (tg_G g) (fi_F g) :=
  ⟨fun s hs F hF => hF.1 s hs, fun r b hU h F hF => hF.2 r b hU (fs_mono (fun s b z => z F hF) _ _ _ h)⟩
theorem fi_rng {g : rg_T} (hg : rg_ok g) {s b : Nat} (h : fi_F g s b) : b ≤ 3 ∧ (s < 3 → b = s) := by
  refine h (fun s b => b ≤ 3 ∧ (s < 3 → b = s)) ⟨fun s hs => ⟨by omega, fun _ => rfl⟩, fun r b hU h => ⟨fs_le _ _ _ h, fun z => ?_⟩⟩
  have hU : us_U g r := hU
  have z : rg_l g r < 3 := z
  have := (hg.2.1 r hU.1).1
  omega
theorem fi_ne1 {g : rg_T} (hg : rg_ok g) {s : Nat} (h : en_E g s) : co_C g s → ∃ b, fi_F g s b := by
  have F := fi_ok g
  refine (h (fun s => en_E g s ∧ (co_C g s → ∃ b, fi_F g s b)) ⟨fun k hk => ⟨(en_self g).1 k hk, fun _ => ⟨k, F.1 k hk⟩⟩, fun r hr hi => ⟨(en_self g).2 r hr (fun i h => (hi i h).1), fun hc => ?_⟩⟩).2
  have hU : us_U g r := ⟨hr, fun i h => (hi i h).1, hc⟩
  have hcs : ∀ i, i < rg_c g r → ∃ b, fi_F g (rg_h g r i) b := fun i h => (hi i h).2 ((co_self g).2 r hr hU.2.1 hc i h)
  have key : ∀ c p, p + c = rg_c g r → ∃ b, fs_b (fi_F g) (rg_h g r) c p b := by
    intro c
    induction c with
    | zero => intro p _; exact ⟨3, rfl⟩
    | succ c ih =>
      intro p hp
      obtain ⟨b, hb⟩ := hcs p (by omega)
      rcases Nat.lt_or_ge b 3 with z | z
      · exact ⟨b, Or.inl ⟨z, hb⟩⟩
      · obtain ⟨b', hb'⟩ := ih (p + 1) (by omega)
        have e : b = 3 := by have := (fi_rng hg hb).1; omega
        subst e
        exact ⟨b', Or.inr ⟨hb, hb'⟩⟩
  obtain ⟨b, hb⟩ := key (rg_c g r) 0 (by omega)
  exact ⟨b, F.2 r b hU hb⟩
theorem fi_ne {g : rg_T} (hg : rg_ok g) (hu : ∃ r, us_U g r) : fs_ne (tg_G g) (fi_F g) := by
  have key : ∀ s, en_E g s → co_C g s → ∃ b, b ≤ 3 ∧ fi_F g s b := by
    intro s h1 h2
    obtain ⟨b, hb⟩ := fi_ne1 hg h1 h2
    exact ⟨b, (fi_rng hg hb).1, hb⟩
  intro r k hr hk
  rcases hr with hr | rfl
  · have hr : us_U g r := hr
    have hk : k < rg_c g r := hk
    exact key _ (hr.2.1 k hk) ((co_self g).2 r hr.1 hr.2.1 hr.2.2 k hk)
  · have hk : k < rg_c g 9 := hk
    have e : k = 0 := by have := hg.2.2.2.1; omega
    subst e
    obtain ⟨r, hr⟩ := hu
    show ∃ b, b ≤ 3 ∧ fi_F g (rg_h g 9 0) b
    rw [hg.2.2.2.2]
    exact key 3 (us_3 hr) (co_self g).1
/-! what follows -/
def fo_cl (g : rg_T) (W : Nat → Nat → Prop) : Prop := W 3 3 ∧ ∀ r i, us_U g r → i < rg_c g r → (∀ a, a < 3 → fs_b (fi_F g) (rg_h g r) (rg_c g r - (i + 1)) (i + 1) a → W (rg_h g r i) a) ∧ (fs_b (fi_F g) (rg_h g r) (rg_c g r - (i + 1)) (i + 1) 3 → ∀ b, W (rg_l g r) b → W (rg_h g r i) b)
def fo_W (g : rg_T) (s b : Nat) : Prop := ∀ W, fo_cl g W → W s b
theorem fo_self (g : rg_T) : fo_cl g (fo_W g) := ⟨fun _ h => h.1, fun r i hU hi => ⟨fun a ha h W hW => (hW.2 r i hU hi).1 a ha h, fun h b hb W hW => (hW.2 r i hU hi).2 h b (hb W hW)⟩⟩
theorem fo_rng {g : rg_T} {s b : Nat} (h : fo_W g s b) : b ≤ 3 :=
  h (fun _ b => b ≤ 3) ⟨by omega, fun r i hU hi => ⟨fun a ha _ => by omega, fun _ b hb => hb⟩⟩
/-! items: number 5 r + p is rule r at place p -/
def im_ok (g : rg_T) (k : Nat) : Prop := (us_U g (k / 5) ∨ k / 5 = 9) ∧ k % 5 ≤ rg_c g (k / 5)
/-- the symbol next in an item is x -/
def im_nx (g : rg_T) (k x : Nat) : Prop := k % 5 < rg_c g (k / 5) ∧ rg_h g (k / 5) (k % 5) = x
def cl_cl (g : rg_T) (P : Nat → Prop) : Prop := ∀ k r, P k → us_U g r → im_nx g k (rg_l g r) → P (5 * r)
/-- the least closed set over S -/
def cl_0 (g : rg_T) (S : Nat → Prop) (k : Nat) : Prop := ∀ P : Nat → Prop, (∀ i, S i → P i) → cl_cl g P → P k
theorem cl_sub {g : rg_T} {S : Nat → Prop} {k : Nat} (h : S k) : cl_0 g S k := fun _ h1 _ => h1 k h
theorem cl_self (g : rg_T) (S : Nat → Prop) : cl_cl g (cl_0 g S) := fun k r h hU hn P h1 h2 => h2 k r (h P h1 h2) hU hn
theorem cl_uniq {g : rg_T} {S T : Nat → Prop} (h1 : ∀ i, S i → T i) (h2 : cl_cl g T) (h3 : ∀ i, T i → cl_0 g S i) (k : Nat) : T k ↔ cl_0 g S k := ⟨h3 k, fun h => h T h1 h2⟩
theorem im_lt {g : rg_T} (hg : rg_ok g) {k : Nat} (h : im_ok g k) : k < 47 := by
  obtain ⟨h1, h2⟩ := h
  rcases h1 with h1 | h1
  · have := h1.1; have := hg.1; omega
  · rw [h1, hg.2.2.2.1] at h2; omega
theorem im_0 {g : rg_T} {r : Nat} (hr : us_U g r) : im_ok g (5 * r) := by
  unfold im_ok
  rw [show 5 * r / 5 = r by omega, show 5 * r % 5 = 0 by omega]
  exact ⟨Or.inl hr, Nat.zero_le _⟩
theorem im_45 (g : rg_T) : im_ok g 45 := ⟨Or.inr rfl, Nat.zero_le _⟩
theorem im_s {g : rg_T} (hg : rg_ok g) {k x : Nat} (h : im_ok g k) (hn : im_nx g k x) : im_ok g (k + 1) ∧ (k + 1) / 5 = k / 5 ∧ (k + 1) % 5 = k % 5 + 1 := by
  have h4 : rg_c g (k / 5) ≤ 4 := by
    rcases h.1 with z | z
    · exact (hg.2.1 _ z.1).2.2.1
    · rw [z, hg.2.2.2.1]; omega
  have h5 := hn.1
  have e1 : (k + 1) / 5 = k / 5 := by omega
  have e2 : (k + 1) % 5 = k % 5 + 1 := by omega
  refine ⟨⟨by rw [e1]; exact h.1, by rw [e1, e2]; exact h5⟩, e1, e2⟩
theorem cl_ok {g : rg_T} {S : Nat → Prop} (hS : ∀ i, S i → im_ok g i) {k : Nat} (h : cl_0 g S k) : im_ok g k := h (im_ok g) hS (fun _ _ _ hU _ => im_0 hU)
/-- four sets of items, by looks -/
def cw_cl (g : rg_T) (P : Nat → Nat → Prop) : Prop := ∀ t k r t', P t k → us_U g r → im_nx g k (rg_l g r) → fs_t (fi_F g) (rg_h g (k / 5)) (rg_c g (k / 5) - (k % 5 + 1)) (k % 5 + 1) t t' → P t' (5 * r)
def cw_0 (g : rg_T) (S : Nat → Nat → Prop) (t k : Nat) : Prop := ∀ P : Nat → Nat → Prop, (∀ t i, S t i → P t i) → cw_cl g P → P t k
theorem cw_sub {g : rg_T} {S : Nat → Nat → Prop} {t k : Nat} (h : S t k) : cw_0 g S t k := fun _ h1 _ => h1 t k h
theorem cw_self (g : rg_T) (S : Nat → Nat → Prop) : cw_cl g (cw_0 g S) := fun t k r t' h hU hn hf P h1 h2 => h2 t k r t' (h P h1 h2) hU hn hf
/-! lists that grow as they are gone through: seven steps for each member -/
noncomputable def bf_st {α : Type} (to : α → Nat → Option α) (k : Nat) (c : (Nat → α) × Nat) : (Nat → α) × Nat :=
  if k / 7 < c.2 then
    match to (c.1 (k / 7)) (k % 7) with
    | none => c
    | some a => @ite _ (∃ s, s < c.2 ∧ c.1 s = a) (Classical.propDecidable _) c (fun i => if i = c.2 then a else c.1 i, c.2 + 1)
  else c
noncomputable def bf_at {α : Type} (a0 : α) (to : α → Nat → Option α) : Nat → (Nat → α) × Nat
  | 0 => (fun _ => a0, 1)
  | k + 1 => bf_st to k (bf_at a0 to k)
theorem bf_off {α : Type} {to : α → Nat → Option α} {k : Nat} {c : (Nat → α) × Nat} (h : c.2 ≤ k / 7) : bf_st to k c = c := if_neg (by omega)
theorem bf_none {α : Type} {to : α → Nat → Option α} {k : Nat} {c : (Nat → α) × Nat} (h : to (c.1 (k / 7)) (k % 7) = none) : bf_st to k c = c := by
  unfold bf_st
  split
  · rw [h]
  · rfl
theorem bf_old {α : Type} {to : α → Nat → Option α} {k : Nat} {c : (Nat → α) × Nat} {a : α} (h : to (c.1 (k / 7)) (k % 7) = some a) (hs : ∃ s, s < c.2 ∧ c.1 s = a) : bf_st to k c = c := by
  unfold bf_st
  split
  · rw [h]; exact if_pos hs
  · rfl
theorem bf_new {α : Type} {to : α → Nat → Option α} {k : Nat} {c : (Nat → α) × Nat} {a : α} (hk : k / 7 < c.2) (h : to (c.1 (k / 7)) (k % 7) = some a) (hs : ¬ ∃ s, s < c.2 ∧ c.1 s = a) : bf_st to k c = (fun i => if i = c.2 then a else c.1 i, c.2 + 1) := by
  unfold bf_st
  rw [if_pos hk, h]
  exact if_neg hs
theorem bf_cases {α : Type} (to : α → Nat → Option α) (k : Nat) (c : (Nat → α) × Nat) : bf_st to k c = c ∨ ∃ a, k / 7 < c.2 ∧ to (c.1 (k / 7)) (k % 7) = some a ∧ (¬ ∃ s, s < c.2 ∧ c.1 s = a) ∧ bf_st to k c = (fun i => if i = c.2 then a else c.1 i, c.2 + 1) := by
  rcases Nat.lt_or_ge (k / 7) c.2 with h | h
  · cases e : to (c.1 (k / 7)) (k % 7) with
    | none => exact Or.inl (bf_none e)
    | some a =>
      rcases Classical.em (∃ s, s < c.2 ∧ c.1 s = a) with z | z
      · exact Or.inl (bf_old e z)
      · exact Or.inr ⟨a, h, rfl, z, bf_new h e z⟩
  · exact Or.inl (bf_off h)
/-- members stay -/
theorem bf_mono {α : Type} {a0 : α} {to : α → Nat → Option α} (k : Nat) : ∀ d, (bf_at a0 to k).2 ≤ (bf_at a0 to (k + d)).2 ∧ ∀ s, s < (bf_at a0 to k).2 → (bf_at a0 to (k + d)).1 s = (bf_at a0 to k).1 s := by
  intro d
  induction d with
  | zero => exact ⟨Nat.le_refl _, fun _ _ => rfl⟩
  | succ d ih =>
    have e : bf_at a0 to (k + (d + 1)) = bf_st to (k + d) (bf_at a0 to (k + d)) := rfl
    rcases bf_cases to (k + d) (bf_at a0 to (k + d)) with h | ⟨a, h1, h2, h3, h4⟩
    · rw [e, h]; exact ih
    · rw [e, h4]
      refine ⟨by show _ ≤ (bf_at a0 to (k + d)).2 + 1; omega, fun s hs => ?_⟩
      show (if s = (bf_at a0 to (k + d)).2 then a else (bf_at a0 to (k + d)).1 s) = _
      rw [if_neg (by omega)]
      exact ih.2 s hs
theorem bf_pos {α : Type} {a0 : α} {to : α → Nat → Option α} (k : Nat) : 1 ≤ (bf_at a0 to k).2 ∧ (bf_at a0 to k).1 0 = a0 := by
  have := bf_mono (a0 := a0) (to := to) 0 k
  rw [Nat.zero_add] at this
  exact ⟨this.1, this.2 0 (by show 0 < 1; omega)⟩
/-- every member but the first is a step of an earlier one; all are different -/
theorem bf_gen {α : Type} {a0 : α} {to : α → Nat → Option α} (P : α → Prop) (h0 : P a0) (hs : ∀ a x b, x < 7 → P a → to a x = some b → P b) : ∀ k s, s < (bf_at a0 to k).2 → P ((bf_at a0 to k).1 s) := by
  intro k
  induction k with
  | zero => intro s _; exact h0
  | succ k ih =>
    intro s hs'
    have e : bf_at a0 to (k + 1) = bf_st to k (bf_at a0 to k) := rfl
    rcases bf_cases to k (bf_at a0 to k) with h | ⟨a, h1, h2, h3, h4⟩
    · rw [e, h] at hs' ⊢; exact ih s hs'
    · rw [e, h4] at hs' ⊢
      have hs' : s < (bf_at a0 to k).2 + 1 := hs'
      show P (if s = (bf_at a0 to k).2 then a else (bf_at a0 to k).1 s)
      split
      · exact hs _ _ _ (Nat.mod_lt _ (by omega)) (ih _ h1) h2
      · exact ih s (by omega)
theorem bf_diff {α : Type} {a0 : α} {to : α → Nat → Option α} : ∀ k s t, s < (bf_at a0 to k).2 → t < (bf_at a0 to k).2 → (bf_at a0 to k).1 s = (bf_at a0 to k).1 t → s = t := by
  intro k
  induction k with
  | zero => intro s t h1 h2 _; have h1 : s < 1 := h1; have h2 : t < 1 := h2; omega
  | succ k ih =>
    intro s t hs ht he
    have e : bf_at a0 to (k + 1) = bf_st to k (bf_at a0 to k) := rfl
    rcases bf_cases to k (bf_at a0 to k) with h | ⟨a, h1, h2, h3, h4⟩
    · rw [e, h] at hs ht he; exact ih s t hs ht he
    · rw [e, h4] at hs ht he
      have hs : s < (bf_at a0 to k).2 + 1 := hs
      have ht : t < (bf_at a0 to k).2 + 1 := ht
      have he : (if s = (bf_at a0 to k).2 then a else (bf_at a0 to k).1 s) = (if t = (bf_at a0 to k).2 then a else (bf_at a0 to k).1 t) := he
      by_cases z1 : s = (bf_at a0 to k).2
      · by_cases z2 : t = (bf_at a0 to k).2
        · omega
        · rw [if_pos z1, if_neg z2] at he
          exact absurd ⟨t, by omega, he.symm⟩ h3
      · by_cases z2 : t = (bf_at a0 to k).2
        · rw [if_neg z1, if_pos z2] at he
          exact absurd ⟨s, by omega, he⟩ h3
        · rw [if_neg z1, if_neg z2] at he
          exact ih s t (by omega) (by omega) he
/-- what was gone through leads to members -/
theorem bf_done {α : Type} {a0 : α} {to : α → Nat → Option α} : ∀ k j, j < k → j / 7 < (bf_at a0 to j).2 → ∀ a, to ((bf_at a0 to k).1 (j / 7)) (j % 7) = some a → ∃ s, s < (bf_at a0 to k).2 ∧ (bf_at a0 to k).1 s = a := by
  intro k j hj hl a ha
  have m1 := bf_mono (a0 := a0) (to := to) j (k - j)
  rw [show j + (k - j) = k by omega] at m1
  rw [m1.2 _ hl] at ha
  have m2 := bf_mono (a0 := a0) (to := to) (j + 1) (k - (j + 1))
  rw [show j + 1 + (k - (j + 1)) = k by omega] at m2
  have e : bf_at a0 to (j + 1) = bf_st to j (bf_at a0 to j) := rfl
  have key : ∃ s, s < (bf_at a0 to (j + 1)).2 ∧ (bf_at a0 to (j + 1)).1 s = a := by
    rcases Classical.em (∃ s, s < (bf_at a0 to j).2 ∧ (bf_at a0 to j).1 s = a) with z | z
    · rw [e, bf_old ha z]; exact z
    · rw [e, bf_new hl ha z]
      exact ⟨(bf_at a0 to j).2, by show _ < _ + 1; omega, if_pos rfl⟩
  obtain ⟨s, h1, h2⟩ := key
  exact ⟨s, by omega, by rw [m2.2 s h1]; exact h2⟩
/-- where the list has been gone through, it stays -/
theorem bf_stop {α : Type} {a0 : α} {to : α → Nat → Option α} {k : Nat} (h : (bf_at a0 to k).2 * 7 ≤ k) : ∀ d, bf_at a0 to (k + d) = bf_at a0 to k := by
  intro d
  induction d with
  | zero => rfl
  | succ d ih =>
    have e : bf_at a0 to (k + (d + 1)) = bf_st to (k + d) (bf_at a0 to (k + d)) := rfl
    rw [e, ih]
    exact bf_off (by omega)
end
section
/-! the states: closed sets of items; their steps; the looks that spread along them; the wide states -/
def tb_mv (g : rg_T) (S : Int64) (x k : Nat) : Prop := ∃ i, k = i + 1 ∧ bl S i = true ∧ im_nx g i x
noncomputable def tb_to (g : rg_T) (S : Int64) (x : Nat) : Option Int64 := @ite _ (∃ k, tb_mv g S x k) (Classical.propDecidable _) (some (mk_l (cl_0 g (tb_mv g S x)))) none
noncomputable def tb_a0 (g : rg_T) : Int64 := mk_l (cl_0 g (fun k => k = 45))
def tb_io (g : rg_T) (S : Int64) : Prop := ∀ i, bl S i = true → im_ok g i
theorem tb_mv_ok {g : rg_T} (hg : rg_ok g) {S : Int64} (hS : tb_io g S) {x k : Nat} (h : tb_mv g S x k) : im_ok g k := by
  obtain ⟨i, rfl, h1, h2⟩ := h
  exact (im_s hg (hS i h1) h2).1
theorem tb_mk {g : rg_T} (hg : rg_ok g) {S : Nat → Prop} (hS : ∀ i, S i → im_ok g i) (k : Nat) : bl (mk_l (cl_0 g S)) k = true ↔ cl_0 g S k := by
  rcases Nat.lt_or_ge k 64 with h | h
  · exact mk_bl _ h
  · rw [bl_big h]
    refine ⟨(fun z => by cases z), fun z => ?_⟩
    have := im_lt hg (cl_ok hS z)
    omega
theorem tb_io0 {g : rg_T} (hg : rg_ok g) : tb_io g (tb_a0 g) := by
  have h45 : ∀ i, i = 45 → im_ok g i := by rintro i rfl; exact im_45 g
  intro i h
  exact cl_ok h45 ((tb_mk hg h45 i).mp h)
theorem tb_some {g : rg_T} {S T : Int64} {x : Nat} (h : tb_to g S x = some T) : (∃ k, tb_mv g S x k) ∧ T = mk_l (cl_0 g (tb_mv g S x)) := by
  unfold tb_to at h
  by_cases z : ∃ k, tb_mv g S x k
  · rw [if_pos z] at h
    exact ⟨z, (Option.some.inj h).symm⟩
  · rw [if_neg z] at h; cases h
theorem tb_ex {g : rg_T} {S : Int64} {x k : Nat} (h : tb_mv g S x k) : tb_to g S x = some (mk_l (cl_0 g (tb_mv g S x))) := if_pos ⟨k, h⟩
theorem tb_io1 {g : rg_T} (hg : rg_ok g) {S T : Int64} {x : Nat} (hS : tb_io g S) (h : tb_to g S x = some T) : tb_io g T := by
  obtain ⟨_, rfl⟩ := tb_some h
  intro i hi
  exact cl_ok (fun k z => tb_mv_ok hg hS z) ((tb_mk hg (fun k z => tb_mv_ok hg hS z) i).mp hi)
/-- a full list of states -/
def tb_full (g : rg_T) (f : Nat → Int64) (n : Nat) : Prop :=
  1 ≤ n ∧ f 0 = tb_a0 g ∧ (∀ s t, s < n → t < n → f s = f t → s = t) ∧ (∀ P : Int64 → Prop, P (tb_a0 g) → (∀ a x b, x < 7 → P a → tb_to g a x = some b → P b) → ∀ s, s < n → P (f s)) ∧ (∀ s x a, s < n → x < 7 → tb_to g (f s) x = some a → ∃ s', s' < n ∧ f s' = a)
theorem bf_full {α : Type} {a0 : α} {to : α → Nat → Option α} {k : Nat} (h : (bf_at a0 to k).2 * 7 ≤ k) :
    1 ≤ (bf_at a0 to k).2 ∧ (bf_at a0 to k).1 0 = a0 ∧ (∀ s t, s < (bf_at a0 to k).2 → t < (bf_at a0 to k).2 → (bf_at a0 to k).1 s = (bf_at a0 to k).1 t → s = t) ∧
    (∀ P : α → Prop, P a0 → (∀ a x b, x < 7 → P a → to a x = some b → P b) → ∀ s, s < (bf_at a0 to k).2 → P ((bf_at a0 to k).1 s)) ∧
    (∀ s x a, s < (bf_at a0 to k).2 → x < 7 → to ((bf_at a0 to k).1 s) x = some a → ∃ s', s' < (bf_at a0 to k).2 ∧ (bf_at a0 to k).1 s' = a) := by
  refine ⟨(bf_pos k).1, (bf_pos k).2, bf_diff k, fun P h0 hs => bf_gen P h0 hs k, fun s x a hs hx ha => ?_⟩
  -- the place of s and x in the list was gone through after s was there
  have hk : s * 7 + x < k := by omega
  have e1 : (s * 7 + x) / 7 = s := by omega
  have e2 : (s * 7 + x) % 7 = x := by omega
  have hl : (s * 7 + x) / 7 < (bf_at a0 to (s * 7 + x)).2 := by
    rw [e1]
    refine Classical.byContradiction fun z => ?_
    have z : (bf_at a0 to (s * 7 + x)).2 ≤ s := by omega
    have st := bf_stop (a0 := a0) (to := to) (k := s * 7 + x) (by omega) (k - (s * 7 + x))
    rw [show s * 7 + x + (k - (s * 7 + x)) = k by omega] at st
    rw [st] at hs
    omega
  have := bf_done k (s * 7 + x) hk hl a (by rw [e1, e2]; exact ha)
  exact this
theorem tb_bl0 {g : rg_T} (hg : rg_ok g) (k : Nat) : bl (tb_a0 g) k = true ↔ cl_0 g (fun k => k = 45) k := tb_mk hg (by rintro i rfl; exact im_45 g) k
theorem tb_blt {g : rg_T} (hg : rg_ok g) {S T : Int64} {x : Nat} (hS : tb_io g S) (h : tb_to g S x = some T) (k : Nat) : bl T k = true ↔ cl_0 g (tb_mv g S x) k := by
  obtain ⟨_, rfl⟩ := tb_some h
  exact tb_mk hg (fun k z => tb_mv_ok hg hS z) k
theorem tb_fio {g : rg_T} (hg : rg_ok g) {f : Nat → Int64} {n : Nat} (hf : tb_full g f n) {s : Nat} (hs : s < n) : tb_io g (f s) := hf.2.2.2.1 (tb_io g) (tb_io0 hg) (fun _ _ _ _ h1 h2 => tb_io1 hg h1 h2) s hs
/-- a state is closed -/
theorem tb_fcl {g : rg_T} (hg : rg_ok g) {f : Nat → Int64} {n : Nat} (hf : tb_full g f n) {s : Nat} (hs : s < n) : cl_cl g (fun k => bl (f s) k = true) := by
  have key := hf.2.2.2.1 (fun S => tb_io g S ∧ cl_cl g (fun k => bl S k = true)) ⟨tb_io0 hg, fun k r h hU hn => (tb_bl0 hg _).mpr (cl_self g _ k r ((tb_bl0 hg k).mp h) hU hn)⟩ (fun a x b _ h1 h2 => ⟨tb_io1 hg h1.1 h2, fun k r h hU hn => (tb_blt hg h1.1 h2 _).mpr (cl_self g _ k r ((tb_blt hg h1.1 h2 k).mp h) hU hn)⟩) s hs
  exact key.2
/-! looks in the states -/
def la_cl (g : rg_T) (f : Nat → Int64) (n : Nat) (P : Nat → Nat → Nat → Prop) : Prop :=
  P 0 3 45 ∧ (∀ s, s < n → cw_cl g (P s)) ∧ (∀ s t k x s', s < n → s' < n → P s t k → im_nx g k x → tb_to g (f s) x = some (f s') → P s' t (k + 1))
def la_L (g : rg_T) (f : Nat → Int64) (n : Nat) (s t k : Nat) : Prop := ∀ P, la_cl g f n P → P s t k
theorem la_self (g : rg_T) (f : Nat → Int64) (n : Nat) : la_cl g f n (la_L g f n) :=
  ⟨fun _ h => h.1, fun s hs t k r t' h1 h2 h3 h4 P hP => hP.2.1 s hs t k r t' (h1 P hP) h2 h3 h4, fun s t k x s' h1 h2 h3 h4 h5 P hP => hP.2.2 s t k x s' h1 h2 (h3 P hP) h4 h5⟩
theorem fs_t_le {F : Nat → Nat → Prop} {h : Nat → Nat} {c p t a : Nat} (ht : t ≤ 3) (z : fs_t F h c p t a) : a ≤ 3 := by
  rcases z with ⟨z, _⟩ | ⟨_, z⟩ <;> omega
/-- a look is at an item of its state -/
theorem la_in {g : rg_T} (hg : rg_ok g) {f : Nat → Int64} {n : Nat} (hf : tb_full g f n) {s t k : Nat} (h : la_L g f n s t k) : s < n ∧ bl (f s) k = true ∧ t ≤ 3 ∧ (k / 5 = 9 → t = 3) := by
  refine h (fun s t k => s < n ∧ bl (f s) k = true ∧ t ≤ 3 ∧ (k / 5 = 9 → t = 3)) ⟨⟨hf.1, ?_, by omega, fun _ => rfl⟩, ?_, ?_⟩
  · rw [hf.2.1]; exact (tb_bl0 hg 45).mpr (cl_sub rfl)
  · intro s hs t k r t' h1 hU hn hfs
    refine ⟨hs, tb_fcl hg hf hs k r h1.2.1 hU hn, fs_t_le h1.2.2.1 hfs, fun z => ?_⟩
    have := hU.1
    have := hg.1
    omega
  · intro s t k x s' hs hs' h1 hn ht
    have hio := tb_fio hg hf hs
    refine ⟨hs', (tb_blt hg hio ht _).mpr (cl_sub ⟨k, rfl, h1.2.1, hn⟩), h1.2.2.1, fun z => h1.2.2.2 ?_⟩
    have := (im_s hg (hio k h1.2.1) hn).2.1
    omega
/-- every item of a state has a look -/
theorem la_ex {g : rg_T} (hg : rg_ok g) (hu : ∃ r, us_U g r) {f : Nat → Int64} {n : Nat} (hf : tb_full g f n) {s k : Nat} (hs : s < n) (h : bl (f s) k = true) : ∃ t, la_L g f n s t k := by
  have L := la_self g f n
  have hne := fi_ne hg hu
  have look : ∀ k x t, im_ok g k → im_nx g k x → ∃ t', fs_t (fi_F g) (rg_h g (k / 5)) (rg_c g (k / 5) - (k % 5 + 1)) (k % 5 + 1) t t' := by
    intro k x t hk hn
    exact fs_ex (G := tg_G g) hne hk.1 t _ _ (by have := hn.1; show k % 5 + 1 + (rg_c g (k / 5) - (k % 5 + 1)) = rg_c g (k / 5); omega)
  have key := hf.2.2.2.1 (fun a => (∃ s, s < n ∧ f s = a) ∧ tb_io g a ∧ ∀ s, s < n → f s = a → ∀ k, bl a k = true → ∃ t, la_L g f n s t k) ⟨⟨0, hf.1, hf.2.1⟩, tb_io0 hg, ?_⟩ ?_ s hs
  · exact key.2.2 s hs rfl k h
  · intro s hs e k hk
    have e0 : s = 0 := hf.2.2.1 s 0 hs hf.1 (by rw [e, hf.2.1])
    subst e0
    have hk := (tb_bl0 hg k).mp hk
    refine (hk (fun k => im_ok g k ∧ ∃ t, la_L g f n 0 t k) ?_ ?_).2
    · rintro i rfl; exact ⟨im_45 g, 3, L.1⟩
    · rintro k r ⟨h1, t, h2⟩ hU hn
      obtain ⟨t', h3⟩ := look k _ t h1 hn
      exact ⟨im_0 hU, t', L.2.1 0 hf.1 t k r t' h2 hU hn h3⟩
  · intro a x b hx ⟨⟨s0, hs0, e0⟩, hio, ha⟩ hto
    obtain ⟨s1, hs1, e1⟩ := hf.2.2.2.2 s0 x b hs0 hx (by rw [e0]; exact hto)
    refine ⟨⟨s1, hs1, e1⟩, tb_io1 hg hio hto, fun s hs e k hk => ?_⟩
    have hk := (tb_blt hg hio hto k).mp hk
    refine (hk (fun k => im_ok g k ∧ ∃ t, la_L g f n s t k) ?_ ?_).2
    · rintro k ⟨i, rfl, h1, h2⟩
      obtain ⟨t, h3⟩ := ha s0 hs0 e0 i h1
      exact ⟨(im_s hg (hio i h1) h2).1, t, L.2.2 s0 t i x s hs0 hs h3 h2 (by rw [e0, e]; exact hto)⟩
    · rintro k r ⟨h1, t, h2⟩ hU hn
      obtain ⟨t', h3⟩ := look k _ t h1 hn
      exact ⟨im_0 hU, t', L.2.1 s hs t k r t' h2 hU hn h3⟩
/-- the looks follow -/
theorem la_fo {g : rg_T} (hg : rg_ok g) {f : Nat → Int64} {n : Nat} (hf : tb_full g f n) {s t k : Nat} (h : la_L g f n s t k) : us_U g (k / 5) → fo_W g (rg_l g (k / 5)) t := by
  have W := fo_self g
  have key := h (fun s t k => (s < n ∧ bl (f s) k = true) ∧ (k / 5 = 9 → t = 3) ∧ (us_U g (k / 5) → fo_W g (rg_l g (k / 5)) t)) ⟨⟨⟨hf.1, ?_⟩, fun _ => rfl, fun z => ?_⟩, ?_, ?_⟩
  · exact key.2.2
  · rw [hf.2.1]; exact (tb_bl0 hg 45).mpr (cl_sub rfl)
  · have := z.1; have := hg.1; omega
  · intro s hs t k r t' ⟨⟨_, h0⟩, h1, h2⟩ hU hn hfs
    have e : 5 * r / 5 = r := by omega
    rw [e]
    refine ⟨⟨hs, tb_fcl hg hf hs k r h0 hU hn⟩, fun z => ?_, fun _ => ?_⟩
    · have := hU.1; have := hg.1; omega
    · have hio := tb_fio hg hf hs k h0
      rcases hio.1 with hk | hk
      · rw [← hn.2]
        rcases hfs with ⟨z1, z2⟩ | ⟨z1, rfl⟩
        · exact (W.2 (k / 5) (k % 5) hk hn.1).1 t' z1 z2
        · exact (W.2 (k / 5) (k % 5) hk hn.1).2 z1 _ (h2 hk)
      · have ht := h1 hk
        have hp := hn.1
        rw [hk, hg.2.2.2.1] at hp
        have hp0 : k % 5 = 0 := by omega
        have hl := hn.2
        rw [hk, hp0, hg.2.2.2.2] at hl
        rw [← hl]
        rw [hk, hp0, hg.2.2.2.1] at hfs
        have : t' = 3 := by
          rcases hfs with ⟨z1, z2⟩ | ⟨_, z⟩
          · have z2 : t' = 3 := z2; exact z2
          · omega
        rw [this]
        exact W.1
  · intro s t k x s' hs hs' ⟨⟨_, h0⟩, h1, h2⟩ hn ht
    have hio := tb_fio hg hf hs
    have e := (im_s hg (hio k h0) hn).2.1
    rw [e]
    exact ⟨⟨hs', (tb_blt hg hio ht _).mpr (cl_sub ⟨k, rfl, h0, hn⟩)⟩, h1, h2⟩
/-! what a clash is: N the items, C t those that count at look t -/
def cs_x (g : rg_T) (N : Nat → Prop) (C : Nat → Nat → Prop) (t : Nat) : Prop :=
  (∃ k k', k ≠ k' ∧ N k ∧ N k' ∧ C t k ∧ C t k' ∧ k % 5 = rg_c g (k / 5) ∧ k' % 5 = rg_c g (k' / 5)) ∨ (t < 3 ∧ ∃ k k', N k ∧ C t k ∧ k % 5 = rg_c g (k / 5) ∧ N k' ∧ im_nx g k' t)
theorem cs_mono {g : rg_T} {N : Nat → Prop} {C C' : Nat → Nat → Prop} {t : Nat} (h : ∀ k, N k → k % 5 = rg_c g (k / 5) → C t k → C' t k) (z : cs_x g N C t) : cs_x g N C' t := by
  rcases z with ⟨k, k', h1, h2, h3, h4, h5, h6, h7⟩ | ⟨h1, k, k', h2, h3, h4, h5, h6⟩
  · exact Or.inl ⟨k, k', h1, h2, h3, h k h2 h6 h4, h k' h3 h7 h5, h6, h7⟩
  · exact Or.inr ⟨h1, k, k', h2, h k h2 h4 h3, h4, h5, h6⟩
/-- what counts in the states: all; those whose left is followed; the looks -/
def cs_C1 (g : rg_T) (t k : Nat) : Prop := if k / 5 = 9 then t = 3 else fo_W g (rg_l g (k / 5)) t
def cs_0 (g : rg_T) (f : Nat → Int64) (n : Nat) : Prop := ∃ s t, s < n ∧ t < 4 ∧ cs_x g (fun k => bl (f s) k = true) (fun _ _ => True) t
def cs_1 (g : rg_T) (f : Nat → Int64) (n : Nat) : Prop := ∃ s t, s < n ∧ t < 4 ∧ cs_x g (fun k => bl (f s) k = true) (cs_C1 g) t
def cs_2 (g : rg_T) (f : Nat → Int64) (n : Nat) : Prop := ∃ s t, s < n ∧ t < 4 ∧ cs_x g (fun k => bl (f s) k = true) (la_L g f n s) t
theorem cs_20 {g : rg_T} {f : Nat → Int64} {n : Nat} (h : cs_2 g f n) : cs_0 g f n := by
  obtain ⟨s, t, h1, h2, h3⟩ := h
  exact ⟨s, t, h1, h2, cs_mono (fun _ _ _ _ => trivial) h3⟩
theorem cs_21 {g : rg_T} (hg : rg_ok g) {f : Nat → Int64} {n : Nat} (hf : tb_full g f n) (h : cs_2 g f n) : cs_1 g f n := by
  obtain ⟨s, t, h1, h2, h3⟩ := h
  refine ⟨s, t, h1, h2, cs_mono (fun k hk _ hl => ?_) h3⟩
  unfold cs_C1
  have hi := la_in hg hf hl
  have hio := tb_fio hg hf h1 k hk
  split
  · rename_i z; exact hi.2.2.2 z
  · rename_i z
    rcases hio.1 with y | y
    · exact la_fo hg hf hl y
    · exact absurd y z
/-! the reader over the states -/
def tb_nx (g : rg_T) (f : Nat → Int64) (n : Nat) (nx : lr_N) : Prop := ∀ q x q', nx q x = some q' ↔ q < n ∧ x < 7 ∧ q' < n ∧ tb_to g (f q) x = some (f q')
def tb_lk (g : rg_T) (f : Nat → Int64) (n : Nat) : lr_K := fun q r p t => p < 5 ∧ la_L g f n q t (5 * r + p)
theorem im_rp {r p : Nat} (hp : p < 5) : (5 * r + p) / 5 = r ∧ (5 * r + p) % 5 = p := by omega
theorem tb_A {g : rg_T} (hg : rg_ok g) {f : Nat → Int64} {n : Nat} (hf : tb_full g f n) {nx : lr_N} (hx : tb_nx g f n nx) (hc : ¬ cs_2 g f n) : lr_A (tg_G g) (fi_F g) (tb_lk g f n) nx := by
  have L := la_self g f n
  have hc4 : ∀ q r p t, tb_lk g f n q r p t → q < n ∧ bl (f q) (5 * r + p) = true ∧ im_ok g (5 * r + p) ∧ rg_c g r ≤ 4 ∧ t ≤ 3 := by
    intro q r p t h
    obtain ⟨e1, e2⟩ := im_rp (r := r) h.1
    have hi := la_in hg hf h.2
    have hio := tb_fio hg hf hi.1 _ hi.2.1
    refine ⟨hi.1, hi.2.1, hio, ?_, hi.2.2.1⟩
    have := hio.1
    rw [e1] at this
    exact ((tg_ok hg).2.1 r this).1
  refine ⟨⟨by omega, L.1⟩, ?_, ?_, ?_, ?_⟩
  · intro q r p t r' t' h hp hU hl hfs
    obtain ⟨e1, e2⟩ := im_rp (r := r) h.1
    have h4 := hc4 q r p t h
    refine ⟨by omega, L.2.1 q h4.1 t (5 * r + p) r' t' h.2 hU ⟨?_, ?_⟩ ?_⟩
    · rw [e1, e2]; exact hp
    · rw [e1, e2]; exact hl.symm
    · rw [e1, e2]; exact hfs
  · intro q r p t h hp
    have hp : p < rg_c g r := hp
    obtain ⟨e1, e2⟩ := im_rp (r := r) h.1
    have h4 := hc4 q r p t h
    have hn : im_nx g (5 * r + p) (rg_h g r p) := ⟨by rw [e1, e2]; exact hp, by rw [e1, e2]⟩
    have hx7 : rg_h g r p < 7 := by
      have := h4.2.2.1.1
      rw [e1] at this
      exact ((tg_ok hg).2.1 r this).2 p hp
    have hto := tb_ex (g := g) (S := f q) (x := rg_h g r p) (k := 5 * r + p + 1) ⟨_, rfl, h4.2.1, hn⟩
    obtain ⟨q', h1, h2⟩ := hf.2.2.2.2 q (rg_h g r p) _ h4.1 hx7 hto
    rw [← h2] at hto
    exact ⟨q', (hx _ _ _).mpr ⟨h4.1, hx7, h1, hto⟩, by omega, L.2.2 q t _ _ q' h4.1 h1 h.2 hn hto⟩
  · intro q r r' t h h'
    have h4 := hc4 q r _ t h
    have h4' := hc4 q r' _ t h'
    obtain ⟨e1, e2⟩ := im_rp (r := r) h.1
    obtain ⟨e1', e2'⟩ := im_rp (r := r') h'.1
    refine Classical.byContradiction fun z => hc ⟨q, t, h4.1, by omega, Or.inl ⟨_, _, ?_, h4.2.1, h4'.2.1, h.2, h'.2, ?_, ?_⟩⟩
    · intro e
      have : (5 * r + gr_c (tg_G g) r) / 5 = (5 * r' + gr_c (tg_G g) r') / 5 := by rw [e]
      rw [e1, e1'] at this
      exact z this
    · rw [e1, e2]; rfl
    · rw [e1', e2']; rfl
  · intro q r t r' p' t' h ht h' hp' he
    have h4 := hc4 q r _ t h
    have h4' := hc4 q r' _ t' h'
    obtain ⟨e1, e2⟩ := im_rp (r := r) h.1
    obtain ⟨e1', e2'⟩ := im_rp (r := r') h'.1
    refine hc ⟨q, t, h4.1, by omega, Or.inr ⟨ht, _, _, h4.2.1, h.2, ?_, h4'.2.1, ?_, ?_⟩⟩
    · rw [e1, e2]; rfl
    · rw [e1', e2']; exact hp'
    · rw [e1', e2']; exact he
theorem tb_B {g : rg_T} (hg : rg_ok g) (hu : ∃ r, us_U g r) {f : Nat → Int64} {n : Nat} (hf : tb_full g f n) {nx : lr_N} (hx : tb_nx g f n nx) : lr_B (tg_G g) (tb_lk g f n) nx := by
  refine ⟨?_, ?_, ?_, ?_⟩
  · intro R h9 hcl r p t h
    have hi := la_in hg hf h.2
    have hk := hi.2.1
    rw [hf.2.1] at hk
    have hk := (tb_bl0 hg _).mp hk
    have := hk (fun k => R (k / 5) (k % 5)) (by rintro i rfl; exact h9) (fun k r h1 hU hn => by
      have := hcl (k / 5) (k % 5) r h1 hn.1 hU hn.2.symm
      show R (5 * r / 5) (5 * r % 5)
      rw [show 5 * r / 5 = r by omega, show 5 * r % 5 = 0 by omega]; exact this)
    obtain ⟨e1, e2⟩ := im_rp (r := r) h.1
    rw [e1, e2] at this
    exact this
  · intro q x q' hq R hk0 hcl r p t h
    obtain ⟨hq1, hx7, hq2, hto⟩ := (hx _ _ _).mp hq
    have hio := tb_fio hg hf hq1
    have hi := la_in hg hf h.2
    have hk := (tb_blt hg hio hto _).mp hi.2.1
    have := hk (fun k => R (k / 5) (k % 5)) (by
      rintro k ⟨i, rfl, h1, h2⟩
      obtain ⟨t, ht⟩ := la_ex hg hu hf hq1 h1
      obtain ⟨_, e1, e2⟩ := im_s hg (hio i h1) h2
      rw [e1, e2]
      refine hk0 (i / 5) (i % 5) t ⟨by omega, ?_⟩ h2.1 h2.2
      rw [show 5 * (i / 5) + i % 5 = i by omega]; exact ht) (fun k r h1 hU hn => by
      have := hcl (k / 5) (k % 5) r h1 hn.1 hU hn.2.symm
      show R (5 * r / 5) (5 * r % 5)
      rw [show 5 * r / 5 = r by omega, show 5 * r % 5 = 0 by omega]; exact this)
    obtain ⟨e1, e2⟩ := im_rp (r := r) h.1
    rw [e1, e2] at this
    exact this
  · intro q p t h
    obtain ⟨e1, e2⟩ := im_rp (r := 9) h.1
    exact (la_in hg hf h.2).2.2.2 e1
  · intro q x q' hq
    obtain ⟨hq1, hx7, hq2, hto⟩ := (hx _ _ _).mp hq
    obtain ⟨⟨k, i, rfl, h1, h2⟩, _⟩ := tb_some hto
    obtain ⟨t, ht⟩ := la_ex hg hu hf hq1 h1
    refine ⟨i / 5, i % 5, t, ⟨by omega, ?_⟩, h2.1, h2.2⟩
    rw [show 5 * (i / 5) + i % 5 = i by omega]; exact ht
end
section
/-! wide states: four sets of items, one a look -/
abbrev w4_T : Type := Int64 × Int64 × Int64 × Int64
def w4_t (a : w4_T) (t : Nat) : Int64 := if t = 0 then a.1 else if t = 1 then a.2.1 else if t = 2 then a.2.2.1 else a.2.2.2
def w4_mk (F : Nat → Int64) : w4_T := (F 0, F 1, F 2, F 3)
theorem w4_tm {F : Nat → Int64} {t : Nat} (ht : t < 4) : w4_t (w4_mk F) t = F t := by
  have : t = 0 ∨ t = 1 ∨ t = 2 ∨ t = 3 := by omega
  rcases this with rfl | rfl | rfl | rfl <;> rfl
theorem w4_ext {a b : w4_T} (h : ∀ t, t < 4 → w4_t a t = w4_t b t) : a = b := by
  obtain ⟨a0, a1, a2, a3⟩ := a
  obtain ⟨b0, b1, b2, b3⟩ := b
  have h0 : a0 = b0 := h 0 (by omega)
  have h1 : a1 = b1 := h 1 (by omega)
  have h2 : a2 = b2 := h 2 (by omega)
  have h3 : a3 = b3 := h 3 (by omega)
  subst h0 h1 h2 h3
  rfl
def tw_mv (g : rg_T) (a : w4_T) (x t k : Nat) : Prop := t < 4 ∧ ∃ i, k = i + 1 ∧ bl (w4_t a t) i = true ∧ im_nx g i x
noncomputable def tw_to (g : rg_T) (a : w4_T) (x : Nat) : Option w4_T := @ite _ (∃ t k, tw_mv g a x t k) (Classical.propDecidable _) (some (w4_mk fun t => mk_l (cw_0 g (tw_mv g a x) t))) none
noncomputable def tw_a0 (g : rg_T) : w4_T := w4_mk fun t => mk_l (cw_0 g (fun t k => t = 3 ∧ k = 45) t)
def tw_in (g : rg_T) (t k : Nat) : Prop := im_ok g k ∧ t ≤ 3 ∧ (k / 5 = 9 → t = 3)
def tw_io (g : rg_T) (a : w4_T) : Prop := ∀ t k, t < 4 → bl (w4_t a t) k = true → tw_in g t k
theorem cw_ok {g : rg_T} (hg : rg_ok g) {S : Nat → Nat → Prop} (hS : ∀ t k, S t k → tw_in g t k) {t k : Nat} (h : cw_0 g S t k) : tw_in g t k := by
  refine h (tw_in g) hS (fun t k r t' h1 hU hn hf => ⟨im_0 hU, fs_t_le h1.2.1 hf, fun z => ?_⟩)
  have := hU.1
  have := hg.1
  omega
theorem tw_mk {g : rg_T} (hg : rg_ok g) {S : Nat → Nat → Prop} (hS : ∀ t k, S t k → tw_in g t k) {t : Nat} (ht : t < 4) (k : Nat) : bl (w4_t (w4_mk fun t => mk_l (cw_0 g S t)) t) k = true ↔ cw_0 g S t k := by
  rw [w4_tm ht]
  rcases Nat.lt_or_ge k 64 with h | h
  · exact mk_bl _ h
  · rw [bl_big h]
    refine ⟨(fun z => by cases z), fun z => ?_⟩
    have := im_lt hg (cw_ok hg hS z).1
    omega
theorem tw_mv_ok {g : rg_T} (hg : rg_ok g) {a : w4_T} (ha : tw_io g a) {x t k : Nat} (h : tw_mv g a x t k) : tw_in g t k := by
  obtain ⟨ht, i, rfl, h1, h2⟩ := h
  have h3 := ha t i ht h1
  have h4 := im_s hg h3.1 h2
  exact ⟨h4.1, by omega, fun z => h3.2.2 (by rw [← h4.2.1]; exact z)⟩
theorem tw_45 {g : rg_T} : ∀ t k, t = 3 ∧ k = 45 → tw_in g t k := by
  rintro t k ⟨rfl, rfl⟩
  exact ⟨im_45 g, by omega, fun _ => rfl⟩
theorem tw_bl0 {g : rg_T} (hg : rg_ok g) {t : Nat} (ht : t < 4) (k : Nat) : bl (w4_t (tw_a0 g) t) k = true ↔ cw_0 g (fun t k => t = 3 ∧ k = 45) t k := tw_mk hg tw_45 ht k
theorem tw_some {g : rg_T} {a b : w4_T} {x : Nat} (h : tw_to g a x = some b) : (∃ t k, tw_mv g a x t k) ∧ b = w4_mk fun t => mk_l (cw_0 g (tw_mv g a x) t) := by
  unfold tw_to at h
  by_cases z : ∃ t k, tw_mv g a x t k
  · rw [if_pos z] at h
    exact ⟨z, (Option.some.inj h).symm⟩
  · rw [if_neg z] at h; cases h
theorem tw_ex {g : rg_T} {a : w4_T} {x t k : Nat} (h : tw_mv g a x t k) : tw_to g a x = some (w4_mk fun t => mk_l (cw_0 g (tw_mv g a x) t)) := if_pos ⟨t, k, h⟩
theorem tw_blt {g : rg_T} (hg : rg_ok g) {a b : w4_T} {x : Nat} (ha : tw_io g a) (h : tw_to g a x = some b) {t : Nat} (ht : t < 4) (k : Nat) : bl (w4_t b t) k = true ↔ cw_0 g (tw_mv g a x) t k := by
  obtain ⟨_, rfl⟩ := tw_some h
  exact tw_mk hg (fun t k z => tw_mv_ok hg ha z) ht k
theorem tw_io0 {g : rg_T} (hg : rg_ok g) : tw_io g (tw_a0 g) := fun _ k ht h => cw_ok hg tw_45 ((tw_bl0 hg ht k).mp h)
theorem tw_io1 {g : rg_T} (hg : rg_ok g) {a b : w4_T} {x : Nat} (ha : tw_io g a) (h : tw_to g a x = some b) : tw_io g b := fun _ k ht hk => cw_ok hg (fun _ _ z => tw_mv_ok hg ha z) ((tw_blt hg ha h ht k).mp hk)
def tw_full (g : rg_T) (f : Nat → w4_T) (n : Nat) : Prop :=
  1 ≤ n ∧ f 0 = tw_a0 g ∧ (∀ s t, s < n → t < n → f s = f t → s = t) ∧ (∀ P : w4_T → Prop, P (tw_a0 g) → (∀ a x b, x < 7 → P a → tw_to g a x = some b → P b) → ∀ s, s < n → P (f s)) ∧ (∀ s x a, s < n → x < 7 → tw_to g (f s) x = some a → ∃ s', s' < n ∧ f s' = a)
theorem tw_fio {g : rg_T} (hg : rg_ok g) {f : Nat → w4_T} {n : Nat} (hf : tw_full g f n) {s : Nat} (hs : s < n) : tw_io g (f s) := hf.2.2.2.1 (tw_io g) (tw_io0 hg) (fun _ _ _ _ h1 h2 => tw_io1 hg h1 h2) s hs
theorem tw_fcl {g : rg_T} (hg : rg_ok g) {f : Nat → w4_T} {n : Nat} (hf : tw_full g f n) {s : Nat} (hs : s < n) : cw_cl g (fun t k => t < 4 ∧ bl (w4_t (f s) t) k = true) := by
  have key := hf.2.2.2.1 (fun a => tw_io g a ∧ cw_cl g (fun t k => t < 4 ∧ bl (w4_t a t) k = true)) ⟨tw_io0 hg, fun t k r t' h hU hn hfs => ?_⟩ (fun a x b _ h1 h2 => ⟨tw_io1 hg h1.1 h2, fun t k r t' h hU hn hfs => ?_⟩) s hs
  · exact key.2
  · have ht' : t' < 4 := by have := fs_t_le (t := t) (by omega) hfs; omega
    exact ⟨ht', (tw_bl0 hg ht' _).mpr (cw_self g _ t k r t' ((tw_bl0 hg h.1 k).mp h.2) hU hn hfs)⟩
  · have ht' : t' < 4 := by have := fs_t_le (t := t) (by omega) hfs; omega
    exact ⟨ht', (tw_blt hg h1.1 h2 ht' _).mpr (cw_self g _ t k r t' ((tw_blt hg h1.1 h2 h.1 k).mp h.2) hU hn hfs)⟩
def cs_3 (g : rg_T) (f : Nat → w4_T) (n : Nat) : Prop := ∃ s t, s < n ∧ t < 4 ∧ cs_x g (fun k => ∃ u, u < 4 ∧ bl (w4_t (f s) u) k = true) (fun t k => bl (w4_t (f s) t) k = true) t
def tw_nx (g : rg_T) (f : Nat → w4_T) (n : Nat) (nx : lr_N) : Prop := ∀ q x q', nx q x = some q' ↔ q < n ∧ x < 7 ∧ q' < n ∧ tw_to g (f q) x = some (f q')
def tw_lk (f : Nat → w4_T) (n : Nat) : lr_K := fun q r p t => q < n ∧ p < 5 ∧ t < 4 ∧ bl (w4_t (f q) t) (5 * r + p) = true
theorem tw_A {g : rg_T} (hg : rg_ok g) {f : Nat → w4_T} {n : Nat} (hf : tw_full g f n) {nx : lr_N} (hx : tw_nx g f n nx) (hc : ¬ cs_3 g f n) : lr_A (tg_G g) (fi_F g) (tw_lk f n) nx := by
  refine ⟨⟨hf.1, by omega, by omega, ?_⟩, ?_, ?_, ?_, ?_⟩
  · rw [hf.2.1]; exact (tw_bl0 hg (by omega) 45).mpr (cw_sub ⟨rfl, rfl⟩)
  · intro q r p t r' t' h hp hU hl hfs
    obtain ⟨e1, e2⟩ := im_rp (r := r) h.2.1
    have := tw_fcl hg hf h.1 t (5 * r + p) r' t' h.2.2 hU ⟨by rw [e1, e2]; exact hp, by rw [e1, e2]; exact hl.symm⟩ (by rw [e1, e2]; exact hfs)
    exact ⟨h.1, by omega, this.1, this.2⟩
  · intro q r p t h hp
    have hp : p < rg_c g r := hp
    obtain ⟨e1, e2⟩ := im_rp (r := r) h.2.1
    have hio := tw_fio hg hf h.1
    have hin := hio t _ h.2.2.1 h.2.2.2
    have hn : im_nx g (5 * r + p) (rg_h g r p) := ⟨by rw [e1, e2]; exact hp, by rw [e1, e2]⟩
    have hr := hin.1.1
    rw [e1] at hr
    have hc4 : rg_c g r ≤ 4 := ((tg_ok hg).2.1 r hr).1
    have hx7 : rg_h g r p < 7 := ((tg_ok hg).2.1 r hr).2 p hp
    have hmv : tw_mv g (f q) (rg_h g r p) t (5 * r + p + 1) := ⟨h.2.2.1, _, rfl, h.2.2.2, hn⟩
    have hto := tw_ex hmv
    obtain ⟨q', h1, h2⟩ := hf.2.2.2.2 q (rg_h g r p) _ h.1 hx7 hto
    rw [← h2] at hto
    exact ⟨q', (hx _ _ _).mpr ⟨h.1, hx7, h1, hto⟩, h1, by omega, h.2.2.1, (tw_blt hg hio hto h.2.2.1 _).mpr (cw_sub hmv)⟩
  · intro q r r' t h h'
    obtain ⟨e1, e2⟩ := im_rp (r := r) h.2.1
    obtain ⟨e1', e2'⟩ := im_rp (r := r') h'.2.1
    refine Classical.byContradiction fun z => hc ⟨q, t, h.1, h.2.2.1, Or.inl ⟨_, _, ?_, ⟨t, h.2.2⟩, ⟨t, h'.2.2⟩, h.2.2.2, h'.2.2.2, ?_, ?_⟩⟩
    · intro e
      have : (5 * r + gr_c (tg_G g) r) / 5 = (5 * r' + gr_c (tg_G g) r') / 5 := by rw [e]
      rw [e1, e1'] at this
      exact z this
    · rw [e1, e2]; rfl
    · rw [e1', e2']; rfl
  · intro q r t r' p' t' h ht h' hp' he
    obtain ⟨e1, e2⟩ := im_rp (r := r) h.2.1
    obtain ⟨e1', e2'⟩ := im_rp (r := r') h'.2.1
    refine hc ⟨q, t, h.1, h.2.2.1, Or.inr ⟨ht, _, _, ⟨t, h.2.2⟩, h.2.2.2, ?_, ⟨t', h'.2.2⟩, ?_, ?_⟩⟩
    · rw [e1, e2]; rfl
    · rw [e1', e2']; exact hp'
    · rw [e1', e2']; exact he
theorem tw_B {g : rg_T} (hg : rg_ok g) {f : Nat → w4_T} {n : Nat} (hf : tw_full g f n) {nx : lr_N} (hx : tw_nx g f n nx) : lr_B (tg_G g) (tw_lk f n) nx := by
  refine ⟨?_, ?_, ?_, ?_⟩
  · intro R h9 hcl r p t h
    have hk := h.2.2.2
    rw [hf.2.1] at hk
    have hk := (tw_bl0 hg h.2.2.1 _).mp hk
    have := hk (fun _ k => R (k / 5) (k % 5)) (by rintro t i ⟨_, rfl⟩; exact h9) (fun t k r t' h1 hU hn _ => by
      have := hcl (k / 5) (k % 5) r h1 hn.1 hU hn.2.symm
      show R (5 * r / 5) (5 * r % 5)
      rw [show 5 * r / 5 = r by omega, show 5 * r % 5 = 0 by omega]; exact this)
    obtain ⟨e1, e2⟩ := im_rp (r := r) h.2.1
    rw [e1, e2] at this
    exact this
  · intro q x q' hq R hk0 hcl r p t h
    obtain ⟨hq1, hx7, hq2, hto⟩ := (hx _ _ _).mp hq
    have hio := tw_fio hg hf hq1
    have hk := (tw_blt hg hio hto h.2.2.1 _).mp h.2.2.2
    have := hk (fun _ k => R (k / 5) (k % 5)) (by
      rintro t k ⟨ht, i, rfl, h1, h2⟩
      obtain ⟨_, e1, e2⟩ := im_s hg (hio t i ht h1).1 h2
      rw [e1, e2]
      refine hk0 (i / 5) (i % 5) t ⟨hq1, by omega, ht, ?_⟩ h2.1 h2.2
      rw [show 5 * (i / 5) + i % 5 = i by omega]; exact h1) (fun t k r t' h1 hU hn _ => by
      have := hcl (k / 5) (k % 5) r h1 hn.1 hU hn.2.symm
      show R (5 * r / 5) (5 * r % 5)
      rw [show 5 * r / 5 = r by omega, show 5 * r % 5 = 0 by omega]; exact this)
    obtain ⟨e1, e2⟩ := im_rp (r := r) h.2.1
    rw [e1, e2] at this
    exact this
  · intro q p t h
    obtain ⟨e1, e2⟩ := im_rp (r := 9) h.2.1
    exact (tw_fio hg hf h.1 t _ h.2.2.1 h.2.2.2).2.2 e1
  · intro q x q' hq
    obtain ⟨hq1, hx7, hq2, hto⟩ := (hx _ _ _).mp hq
    obtain ⟨⟨t, k, ht, i, rfl, h1, h2⟩, _⟩ := tw_some hto
    refine ⟨i / 5, i % 5, t, ⟨hq1, by omega, ht, ?_⟩, h2.1, h2.2⟩
    rw [show 5 * (i / 5) + i % 5 = i by omega]; exact h1
end
section
/-! the component's patterns: what each private method makes of the arrays -/
variable {f_depth f_made f_textLength f_tokenCount f_wrongPlace f_ruleCount f_prepared f_rulesInUse f_stateCount f_wideCount f_gradeFound f_readHeight f_tokensTaken f_usedCount : Int32} {a_spotCounts a_ends a_arrows a_takers a_groups a_marks a_text a_tokenKinds a_tokenLengths a_lefts a_rights a_rightSizes a_beginSets a_followSets a_stateSteps a_wideSteps a_readStates a_readValues a_usedRules : Nat → Int32} {a_nextItems a_openItems a_restItems a_stateItems a_stateLooks a_wideLooks : Nat → Int64}
theorem xw_clearSlot {p : Nat} (hp : p < 11) {post : SX → Prop} (h : post (f_depth, f_made, f_textLength, f_tokenCount, f_wrongPlace, f_ruleCount, f_prepared, f_rulesInUse, f_stateCount, f_wideCount, f_gradeFound, f_readHeight, f_tokensTaken, f_usedCount, (upd a_spotCounts p 0), (upd a_ends p 0), (ax_set a_arrows (p * 7) 7 (fun _ => 0)), (ax_set a_takers (p * 3) 3 (fun _ => 0)), a_groups, a_marks, a_text, a_tokenKinds, a_tokenLengths, a_lefts, a_rights, a_rightSizes, a_beginSets, a_followSets, a_nextItems, a_openItems, a_restItems, a_stateItems, a_stateSteps, a_stateLooks, a_wideSteps, a_wideLooks, a_readStates, a_readValues, a_usedRules)) : wpX_clearSlot post (f_depth, f_made, f_textLength, f_tokenCount, f_wrongPlace, f_ruleCount, f_prepared, f_rulesInUse, f_stateCount, f_wideCount, f_gradeFound, f_readHeight, f_tokensTaken, f_usedCount, a_spotCounts, a_ends, a_arrows, a_takers, a_groups, a_marks, a_text, a_tokenKinds, a_tokenLengths, a_lefts, a_rights, a_rightSizes, a_beginSets, a_followSets, a_nextItems, a_openItems, a_restItems, a_stateItems, a_stateSteps, a_stateLooks, a_wideSteps, a_wideLooks, a_readStates, a_readValues, a_usedRules) (nI p) := by
  have c : (nI p).toNatClampNeg = p := nI_clamp (by omega)
  refine ⟨vp_in_nI hp (by decide), nm_r (by rw [c]) ⟨vp_in_nI hp (by decide), nm_r (by rw [c]) ?_⟩⟩
  refine loop_0 (fun n i s => wX_clearSlot_16 post (nI p) f_depth f_made f_textLength f_tokenCount f_wrongPlace f_ruleCount f_prepared f_rulesInUse f_stateCount f_wideCount f_gradeFound f_readHeight f_tokensTaken f_usedCount n (nI i) (upd a_spotCounts p 0) (upd a_ends p 0) s a_takers a_groups a_marks a_text a_tokenKinds a_tokenLengths a_lefts a_rights a_rightSizes a_beginSets a_followSets a_nextItems a_openItems a_restItems a_stateItems a_stateSteps a_stateLooks a_wideSteps a_wideLooks a_readStates a_readValues a_usedRules) (fun i s => s = ax_set a_arrows (p * 7) i (fun _ => 0)) 7 a_arrows (ax_0 _ _ _).symm ?_ ?_
  · intro n s hs
    subst hs
    refine br_t (nI_le (Nat.le_refl 7) (by decide)) ?_
    refine loop_0 (fun n i s => wX_clearSlot_42 post (nI p) f_depth f_made f_textLength f_tokenCount f_wrongPlace f_ruleCount f_prepared f_rulesInUse f_stateCount f_wideCount f_gradeFound f_readHeight f_tokensTaken f_usedCount n (nI i) (upd a_spotCounts p 0) (upd a_ends p 0) (ax_set a_arrows (p * 7) 7 (fun _ => 0)) s a_groups a_marks a_text a_tokenKinds a_tokenLengths a_lefts a_rights a_rightSizes a_beginSets a_followSets a_nextItems a_openItems a_restItems a_stateItems a_stateSteps a_stateLooks a_wideSteps a_wideLooks a_readStates a_readValues a_usedRules) (fun i s => s = ax_set a_takers (p * 3) i (fun _ => 0)) 3 a_takers (ax_0 _ _ _).symm ?_ ?_
    · intro n s hs
      subst hs
      exact br_t (nI_le (Nat.le_refl 3) (by decide)) h
    · intro n i s hi hs hk
      subst hs
      exact br_f (nI_ge hi (by decide)) ⟨pk_in (p * 3 + i) 33 (by omega) (ix_3 p i), nm_r (by rw [pk_cl (p * 3 + i) (ix_3 p i)]; exact ax_s _ _ _ _) (nm_r (nI_1 i) (hk _ rfl))⟩
  · intro n i s hi hs hk
    subst hs
    exact br_f (nI_ge hi (by decide)) ⟨pk_in (p * 7 + i) 77 (by omega) (ix_7 p i), nm_r (by rw [pk_cl (p * 7 + i) (ix_7 p i)]; exact ax_s _ _ _ _) (nm_r (nI_1 i) (hk _ rfl))⟩
theorem xw_setSingleSpot {p o : Nat} (hp : p < 11) (ho : o < 4) {post : SX → Prop} (h : post (f_depth, f_made, f_textLength, f_tokenCount, f_wrongPlace, f_ruleCount, f_prepared, f_rulesInUse, f_stateCount, f_wideCount, f_gradeFound, f_readHeight, f_tokensTaken, f_usedCount, (upd a_spotCounts p 1), (upd a_ends p 1), (upd a_arrows (p * 7 + 6) 1), (ax_set a_takers (p * 3) 3 (fun l => if o = l ∨ o = 3 then 1 else 0)), a_groups, a_marks, a_text, a_tokenKinds, a_tokenLengths, a_lefts, a_rights, a_rightSizes, a_beginSets, a_followSets, a_nextItems, a_openItems, a_restItems, a_stateItems, a_stateSteps, a_stateLooks, a_wideSteps, a_wideLooks, a_readStates, a_readValues, a_usedRules)) : wpX_setSingleSpot post (f_depth, f_made, f_textLength, f_tokenCount, f_wrongPlace, f_ruleCount, f_prepared, f_rulesInUse, f_stateCount, f_wideCount, f_gradeFound, f_readHeight, f_tokensTaken, f_usedCount, a_spotCounts, a_ends, a_arrows, a_takers, a_groups, a_marks, a_text, a_tokenKinds, a_tokenLengths, a_lefts, a_rights, a_rightSizes, a_beginSets, a_followSets, a_nextItems, a_openItems, a_restItems, a_stateItems, a_stateSteps, a_stateLooks, a_wideSteps, a_wideLooks, a_readStates, a_readValues, a_usedRules) (nI p) (nI o) := by
  have c : (nI p).toNatClampNeg = p := nI_clamp (by omega)
  have i6 : (nI p * 7 + 6).toNatClampNeg = p * 7 + 6 := pk_cl (p * 7 + 6) (ix_7 p 6)
  refine ⟨vp_in_nI hp (by decide), nm_r (by rw [c]) ⟨vp_in_nI hp (by decide), nm_r (by rw [c]) ⟨pk_in (p * 7 + 6) 77 (by omega) (ix_7 p 6), nm_r (by rw [i6]) ?_⟩⟩⟩
  refine loop_0 (fun n i s => wX_setSingleSpot_29 post (nI p) (nI o) f_depth f_made f_textLength f_tokenCount f_wrongPlace f_ruleCount f_prepared f_rulesInUse f_stateCount f_wideCount f_gradeFound f_readHeight f_tokensTaken f_usedCount n (nI i) (upd a_spotCounts p 1) (upd a_ends p 1) (upd a_arrows (p * 7 + 6) 1) s a_groups a_marks a_text a_tokenKinds a_tokenLengths a_lefts a_rights a_rightSizes a_beginSets a_followSets a_nextItems a_openItems a_restItems a_stateItems a_stateSteps a_stateLooks a_wideSteps a_wideLooks a_readStates a_readValues a_usedRules) (fun i s => s = ax_set a_takers (p * 3) i (fun l => if o = l ∨ o = 3 then 1 else 0)) 3 a_takers (ax_0 _ _ _).symm ?_ ?_
  · intro n s hs
    subst hs
    exact br_t (nI_le (Nat.le_refl 3) (by decide)) h
  · intro n i s hi hs hk
    subst hs
    have e : (nI p * 3 + nI i).toNatClampNeg = p * 3 + i := pk_cl (p * 3 + i) (ix_3 p i)
    have hin : vp_in (nI p * 3 + nI i) 33 := pk_in (p * 3 + i) 33 (by omega) (ix_3 p i)
    refine br_f (nI_ge hi (by decide)) (pk_eq o i (fun z => ?_) (fun z => pk_eq o 3 (fun y => ?_) (fun y => ?_)))
    · refine ⟨hin, nm_r ?_ (nm_r (nI_1 i) (hk _ rfl))⟩
      rw [e, ← ax_s, if_pos (Or.inl z)]
    · refine ⟨hin, nm_r ?_ (nm_r (nI_1 i) (hk _ rfl))⟩
      rw [e, ← ax_s, if_pos (Or.inr y)]
    · refine ⟨hin, nm_r ?_ (nm_r (nI_1 i) (hk _ rfl))⟩
      rw [e, ← ax_s, if_neg (by omega)]
theorem xw_copySlot {p q : Nat} (hp : p < 8) (hq : 8 ≤ q) (hq2 : q < 11) {post : SX → Prop} (h : post (f_depth, f_made, f_textLength, f_tokenCount, f_wrongPlace, f_ruleCount, f_prepared, f_rulesInUse, f_stateCount, f_wideCount, f_gradeFound, f_readHeight, f_tokensTaken, f_usedCount, (upd a_spotCounts q (a_spotCounts p)), (upd a_ends q (a_ends p)), (ax_set a_arrows (q * 7) 7 (fun j => a_arrows (p * 7 + j))), (ax_set a_takers (q * 3) 3 (fun j => a_takers (p * 3 + j))), a_groups, a_marks, a_text, a_tokenKinds, a_tokenLengths, a_lefts, a_rights, a_rightSizes, a_beginSets, a_followSets, a_nextItems, a_openItems, a_restItems, a_stateItems, a_stateSteps, a_stateLooks, a_wideSteps, a_wideLooks, a_readStates, a_readValues, a_usedRules)) : wpX_copySlot post (f_depth, f_made, f_textLength, f_tokenCount, f_wrongPlace, f_ruleCount, f_prepared, f_rulesInUse, f_stateCount, f_wideCount, f_gradeFound, f_readHeight, f_tokensTaken, f_usedCount, a_spotCounts, a_ends, a_arrows, a_takers, a_groups, a_marks, a_text, a_tokenKinds, a_tokenLengths, a_lefts, a_rights, a_rightSizes, a_beginSets, a_followSets, a_nextItems, a_openItems, a_restItems, a_stateItems, a_stateSteps, a_stateLooks, a_wideSteps, a_wideLooks, a_readStates, a_readValues, a_usedRules) (nI p) (nI q) := by
  have c : (nI p).toNatClampNeg = p := nI_clamp (by omega)
  have d : (nI q).toNatClampNeg = q := nI_clamp (by omega)
  refine ⟨vp_in_nI (by omega) (by decide), vp_in_nI hq2 (by decide), nm_r (by rw [c, d]) ⟨vp_in_nI (by omega) (by decide), vp_in_nI hq2 (by decide), nm_r (by rw [c, d]) ?_⟩⟩
  refine loop_0 (fun n i s => wX_copySlot_26 post (nI p) (nI q) f_depth f_made f_textLength f_tokenCount f_wrongPlace f_ruleCount f_prepared f_rulesInUse f_stateCount f_wideCount f_gradeFound f_readHeight f_tokensTaken f_usedCount n (nI i) (upd a_spotCounts q (a_spotCounts p)) (upd a_ends q (a_ends p)) s a_takers a_groups a_marks a_text a_tokenKinds a_tokenLengths a_lefts a_rights a_rightSizes a_beginSets a_followSets a_nextItems a_openItems a_restItems a_stateItems a_stateSteps a_stateLooks a_wideSteps a_wideLooks a_readStates a_readValues a_usedRules) (fun i s => s = ax_set a_arrows (q * 7) i (fun j => a_arrows (p * 7 + j))) 7 a_arrows (ax_0 _ _ _).symm ?_ ?_
  · intro n s hs
    subst hs
    refine br_t (nI_le (Nat.le_refl 7) (by decide)) ?_
    refine loop_0 (fun n i s => wX_copySlot_62 post (nI p) (nI q) f_depth f_made f_textLength f_tokenCount f_wrongPlace f_ruleCount f_prepared f_rulesInUse f_stateCount f_wideCount f_gradeFound f_readHeight f_tokensTaken f_usedCount n (nI i) (upd a_spotCounts q (a_spotCounts p)) (upd a_ends q (a_ends p)) (ax_set a_arrows (q * 7) 7 (fun j => a_arrows (p * 7 + j))) s a_groups a_marks a_text a_tokenKinds a_tokenLengths a_lefts a_rights a_rightSizes a_beginSets a_followSets a_nextItems a_openItems a_restItems a_stateItems a_stateSteps a_stateLooks a_wideSteps a_wideLooks a_readStates a_readValues a_usedRules) (fun i s => s = ax_set a_takers (q * 3) i (fun j => a_takers (p * 3 + j))) 3 a_takers (ax_0 _ _ _).symm ?_ ?_
    · intro n s hs
      subst hs
      exact br_t (nI_le (Nat.le_refl 3) (by decide)) h
    · intro n i s hi hs hk
      subst hs
      exact br_f (nI_ge hi (by decide)) ⟨pk_in (p * 3 + i) 33 (by omega) (ix_3 p i), pk_in (q * 3 + i) 33 (by omega) (ix_3 q i), nm_r (by rw [pk_cl (q * 3 + i) (ix_3 q i), pk_cl (p * 3 + i) (ix_3 p i), ax_out (j := p * 3 + i) (by omega)]; exact ax_s _ _ _ _) (nm_r (nI_1 i) (hk _ rfl))⟩
  · intro n i s hi hs hk
    subst hs
    exact br_f (nI_ge hi (by decide)) ⟨pk_in (p * 7 + i) 77 (by omega) (ix_7 p i), pk_in (q * 7 + i) 77 (by omega) (ix_7 q i), nm_r (by rw [pk_cl (q * 7 + i) (ix_7 q i), pk_cl (p * 7 + i) (ix_7 p i), ax_out (j := p * 7 + i) (by omega)]; exact ax_s _ _ _ _) (nm_r (nI_1 i) (hk _ rfl))⟩
/-- what addArrows makes of the arrows -/
def xw_aa (a : Nat → Int32) (p : Nat) (x y : Int32) : Nat → Int32 := ax_set a (p * 7) 7 (fun i => if bt x i = true then a (p * 7 + i) ||| y else a (p * 7 + i))
theorem ax_keep {a : Nat → Int32} {b n : Nat} {v : Nat → Int32} (h : v n = a (b + n)) : ax_set a b (n + 1) v = ax_set a b n v := by
  rw [← ax_s]
  funext j
  unfold upd
  split
  · rename_i e; subst e; rw [ax_out (Or.inr (Nat.le_refl _)), h]
  · rfl
theorem xw_addArrows {p : Nat} (hp : p < 11) (x y : Int32) {post : SX → Prop} (h : post (f_depth, f_made, f_textLength, f_tokenCount, f_wrongPlace, f_ruleCount, f_prepared, f_rulesInUse, f_stateCount, f_wideCount, f_gradeFound, f_readHeight, f_tokensTaken, f_usedCount, a_spotCounts, a_ends, (xw_aa a_arrows p x y), a_takers, a_groups, a_marks, a_text, a_tokenKinds, a_tokenLengths, a_lefts, a_rights, a_rightSizes, a_beginSets, a_followSets, a_nextItems, a_openItems, a_restItems, a_stateItems, a_stateSteps, a_stateLooks, a_wideSteps, a_wideLooks, a_readStates, a_readValues, a_usedRules)) : wpX_addArrows post (f_depth, f_made, f_textLength, f_tokenCount, f_wrongPlace, f_ruleCount, f_prepared, f_rulesInUse, f_stateCount, f_wideCount, f_gradeFound, f_readHeight, f_tokensTaken, f_usedCount, a_spotCounts, a_ends, a_arrows, a_takers, a_groups, a_marks, a_text, a_tokenKinds, a_tokenLengths, a_lefts, a_rights, a_rightSizes, a_beginSets, a_followSets, a_nextItems, a_openItems, a_restItems, a_stateItems, a_stateSteps, a_stateLooks, a_wideSteps, a_wideLooks, a_readStates, a_readValues, a_usedRules) (nI p) x y := by
  refine loop_0 (fun n i s => wX_addArrows_3 post (nI p) x y f_depth f_made f_textLength f_tokenCount f_wrongPlace f_ruleCount f_prepared f_rulesInUse f_stateCount f_wideCount f_gradeFound f_readHeight f_tokensTaken f_usedCount n (nI i) a_spotCounts a_ends s a_takers a_groups a_marks a_text a_tokenKinds a_tokenLengths a_lefts a_rights a_rightSizes a_beginSets a_followSets a_nextItems a_openItems a_restItems a_stateItems a_stateSteps a_stateLooks a_wideSteps a_wideLooks a_readStates a_readValues a_usedRules) (fun i s => s = ax_set a_arrows (p * 7) i (fun i => if bt x i = true then a_arrows (p * 7 + i) ||| y else a_arrows (p * 7 + i))) 7 a_arrows (ax_0 _ _ _).symm ?_ ?_
  · intro n s hs
    subst hs
    exact br_t (nI_le (Nat.le_refl 7) (by decide)) h
  · intro n i s hi hs hk
    subst hs
    have hin : vp_in (nI p * 7 + nI i) 77 := pk_in (p * 7 + i) 77 (by omega) (ix_7 p i)
    refine br_f (nI_ge hi (by decide)) (br_c (fun z => ?_) (fun z => ?_))
    · have z := (b_test x (by omega)).mp z
      refine ⟨hin, hin, nm_r ?_ (nm_r (nI_1 i) (hk _ rfl))⟩
      rw [pk_cl (p * 7 + i) (ix_7 p i), ax_out (j := p * 7 + i) (by omega), ← ax_s, if_pos z]
    · refine nm_r (nI_1 i) (hk _ ?_)
      rw [ax_keep]
      rw [if_neg]
      exact fun y => z ((b_test x (by omega)).mpr y)
/-- what joinTops makes of the arrays: x and x + 1 the slots, c the spots of x, e those of x + 1 -/
def xw_jb (a_arrows : Nat → Int32) (x c : Nat) : Int32 := a_arrows ((x + 1) * 7 + 6) <<< (nI c &&& 31)
def xw_je (a_ends : Nat → Int32) (x : Nat) : Int32 := a_ends (x + 1) &&& 64
def xw_jE (a_ends : Nat → Int32) (x c : Nat) : Int32 := (a_ends (x + 1) ^^^ (a_ends (x + 1) &&& 64)) <<< (nI c &&& 31)
def xw_ja (a_arrows : Nat → Int32) (x c e : Nat) : Nat → Int32 := ax_set a_arrows (x * 7 + c) e (fun p => a_arrows ((x + 1) * 7 + p) <<< (nI c &&& 31))
def xw_jt (a_takers : Nat → Int32) (x c : Nat) : Nat → Int32 := ax_set a_takers (x * 3) 3 (fun l => a_takers (x * 3 + l) ||| (a_takers ((x + 1) * 3 + l) <<< (nI c &&& 31)))
theorem xw_joinTops {x c e : Nat} {o : Int32} (hx8 : x < 7) (h6 : c + e ≤ 6) (hx : a_spotCounts x = nI c) (hy : a_spotCounts (x + 1) = nI e) {post : SX → Prop}
    (h0 : o = 0 → post ((nI (x + 2)), f_made, f_textLength, f_tokenCount, f_wrongPlace, f_ruleCount, f_prepared, f_rulesInUse, f_stateCount, f_wideCount, f_gradeFound, f_readHeight, f_tokensTaken, f_usedCount, (upd a_spotCounts x (nI (c + e))), (upd a_ends x (a_ends x ||| (xw_jE a_ends x c ||| xw_je a_ends x))), (xw_aa (xw_ja a_arrows x c e) x 64 (xw_jb a_arrows x c)), (xw_jt a_takers x c), a_groups, a_marks, a_text, a_tokenKinds, a_tokenLengths, a_lefts, a_rights, a_rightSizes, a_beginSets, a_followSets, a_nextItems, a_openItems, a_restItems, a_stateItems, a_stateSteps, a_stateLooks, a_wideSteps, a_wideLooks, a_readStates, a_readValues, a_usedRules))
    (h1 : ¬ o = 0 → post ((nI (x + 2)), f_made, f_textLength, f_tokenCount, f_wrongPlace, f_ruleCount, f_prepared, f_rulesInUse, f_stateCount, f_wideCount, f_gradeFound, f_readHeight, f_tokensTaken, f_usedCount, (upd a_spotCounts x (nI (c + e))), (upd a_ends x (if xw_je a_ends x = 0 then xw_jE a_ends x c else a_ends x ||| xw_jE a_ends x c)), (xw_aa (xw_ja a_arrows x c e) x (a_ends x) (xw_jb a_arrows x c)), (xw_jt a_takers x c), a_groups, a_marks, a_text, a_tokenKinds, a_tokenLengths, a_lefts, a_rights, a_rightSizes, a_beginSets, a_followSets, a_nextItems, a_openItems, a_restItems, a_stateItems, a_stateSteps, a_stateLooks, a_wideSteps, a_wideLooks, a_readStates, a_readValues, a_usedRules)) :
    wpX_joinTops post ((nI (x + 2)), f_made, f_textLength, f_tokenCount, f_wrongPlace, f_ruleCount, f_prepared, f_rulesInUse, f_stateCount, f_wideCount, f_gradeFound, f_readHeight, f_tokensTaken, f_usedCount, a_spotCounts, a_ends, a_arrows, a_takers, a_groups, a_marks, a_text, a_tokenKinds, a_tokenLengths, a_lefts, a_rights, a_rightSizes, a_beginSets, a_followSets, a_nextItems, a_openItems, a_restItems, a_stateItems, a_stateSteps, a_stateLooks, a_wideSteps, a_wideLooks, a_readStates, a_readValues, a_usedRules) o := by
  have cx : (nI x).toNatClampNeg = x := nI_clamp (by omega)
  have cy : (nI (x + 1)).toNatClampNeg = x + 1 := nI_clamp (by omega)
  have ix : vp_in (nI x) 11 := vp_in_nI (by omega) (by decide)
  have iy : vp_in (nI (x + 1)) 11 := vp_in_nI (by omega) (by decide)
  have e1 : nI (x + 2) - 2 = nI x := pk_sub (a := x + 2) (b := 2) (by omega)
  have e2 : nI (x + 2) - 1 = nI (x + 1) := pk_sub (a := x + 2) (b := 1) (by omega)
  have i6 : (nI (x + 1) * 7 + 6).toNatClampNeg = (x + 1) * 7 + 6 := pk_cl ((x + 1) * 7 + 6) (ix_7 (x + 1) 6)
  refine nm_r e1 (nm_r e2 ⟨ix, nm_r (by rw [cx, hx]) ⟨pk_in ((x + 1) * 7 + 6) 77 (by omega) (ix_7 (x + 1) 6), nm_r (e' := xw_jb a_arrows x c) (by rw [i6]; rfl) ⟨iy, nm_r (e' := xw_je a_ends x) (by rw [cy]; rfl) ⟨iy, nm_r (e' := xw_jE a_ends x c) (by rw [cy]; rfl) ?_⟩⟩⟩⟩)
  refine loop_0 (fun n i s => wX_joinTops_67 post o (nI x) (nI (x + 1)) (nI c) (xw_jb a_arrows x c) (xw_je a_ends x) (xw_jE a_ends x c) (nI (x + 2)) f_made f_textLength f_tokenCount f_wrongPlace f_ruleCount f_prepared f_rulesInUse f_stateCount f_wideCount f_gradeFound f_readHeight f_tokensTaken f_usedCount n (nI i) a_spotCounts a_ends s a_takers a_groups a_marks a_text a_tokenKinds a_tokenLengths a_lefts a_rights a_rightSizes a_beginSets a_followSets a_nextItems a_openItems a_restItems a_stateItems a_stateSteps a_stateLooks a_wideSteps a_wideLooks a_readStates a_readValues a_usedRules) (fun i s => s = xw_ja a_arrows x c i) e a_arrows (ax_0 _ _ _).symm ?_ ?_
  · intro n s hs
    subst hs
    refine ⟨iy, br_t ?_ ?_⟩
    · rw [cy, hy]; exact nI_le (Nat.le_refl _) (by omega)
    refine loop_0 (fun n i s => wX_joinTops_127 post o (nI x) (nI (x + 1)) (nI c) (xw_jb a_arrows x c) (xw_je a_ends x) (xw_jE a_ends x c) (nI (x + 2)) f_made f_textLength f_tokenCount f_wrongPlace f_ruleCount f_prepared f_rulesInUse f_stateCount f_wideCount f_gradeFound f_readHeight f_tokensTaken f_usedCount n (nI i) a_spotCounts a_ends (xw_ja a_arrows x c e) s a_groups a_marks a_text a_tokenKinds a_tokenLengths a_lefts a_rights a_rightSizes a_beginSets a_followSets a_nextItems a_openItems a_restItems a_stateItems a_stateSteps a_stateLooks a_wideSteps a_wideLooks a_readStates a_readValues a_usedRules) (fun i s => s = ax_set a_takers (x * 3) i (fun l => a_takers (x * 3 + l) ||| (a_takers ((x + 1) * 3 + l) <<< (nI c &&& 31)))) 3 a_takers (ax_0 _ _ _).symm ?_ ?_
    · intro n s hs
      subst hs
      refine br_t (nI_le (Nat.le_refl 3) (by decide)) (br_c (fun z => ?_) (fun z => ?_))
      · refine xw_addArrows (by omega) 64 (xw_jb a_arrows x c) ?_
        refine ⟨ix, ix, nm_r (by rw [cx]) ⟨ix, iy, ix, nm_r (by rw [cx, cy, hx, hy, nI_add]) (h0 z)⟩⟩
      · refine ⟨ix, ?_⟩
        rw [cx]
        refine xw_addArrows (by omega) (a_ends x) (xw_jb a_arrows x c) (br_c (fun y => ?_) (fun y => ?_))
        · refine ⟨ix, nm_r (by rw [cx]) ⟨ix, iy, ix, nm_r (by rw [cx, cy, hx, hy, nI_add]) ?_⟩⟩
          have := h1 z
          rw [if_pos y] at this
          exact this
        · refine ⟨ix, ix, nm_r (by rw [cx]) ⟨ix, iy, ix, nm_r (by rw [cx, cy, hx, hy, nI_add]) ?_⟩⟩
          have := h1 z
          rw [if_neg y] at this
          exact this
    · intro n i s hi hs hk
      subst hs
      refine br_f (nI_ge hi (by decide)) ⟨pk_in (x * 3 + i) 33 (by omega) (ix_3 x i), pk_in ((x + 1) * 3 + i) 33 (by omega) (ix_3 (x + 1) i), pk_in (x * 3 + i) 33 (by omega) (ix_3 x i), nm_r ?_ (nm_r (nI_1 i) (hk _ rfl))⟩
      rw [pk_cl (x * 3 + i) (ix_3 x i), pk_cl ((x + 1) * 3 + i) (ix_3 (x + 1) i), ax_out (j := x * 3 + i) (by omega), ax_out (j := (x + 1) * 3 + i) (by omega)]
      exact ax_s _ _ _ _
  · intro n i s hi hs hk
    subst hs
    have e3 : nI x * 7 + nI c + nI i = nI (x * 7 + c + i) := by rw [ix_7, nI_add]
    refine ⟨iy, br_f ?_ (br_f ?_ ⟨pk_in ((x + 1) * 7 + i) 77 (by omega) (ix_7 (x + 1) i), pk_in (x * 7 + c + i) 77 (by omega) e3, nm_r ?_ (nm_r (nI_1 i) (hk _ rfl))⟩)⟩
    · rw [cy, hy]; exact nI_ge hi (by omega)
    · rw [nI_add]; exact nI_ge (b := 6) (by omega) (by decide)
    · rw [pk_cl (x * 7 + c + i) e3, pk_cl ((x + 1) * 7 + i) (ix_7 (x + 1) i)]
      unfold xw_ja
      rw [ax_out (j := (x + 1) * 7 + i) (by omega)]
      exact ax_s _ _ _ _
/-- a slot holds a pattern -/
def xs_S (a_spotCounts a_ends a_arrows a_takers : Nat → Int32) (s : Nat) (x : gk_T) : Prop :=
  gk_wf x ∧ a_spotCounts s = nI (gk_c x) ∧ (∀ i, bt (a_ends s) i = true ↔ gk_en x i ∨ (i = 6 ∧ gk_nu x)) ∧
  (∀ a b, a < gk_c x → (bt (a_arrows (s * 7 + a)) b = true ↔ gk_ar x a b)) ∧ (∀ b, bt (a_arrows (s * 7 + 6)) b = true ↔ gk_bg x b) ∧
  ∀ l b, l < 3 → (bt (a_takers (s * 3 + l)) b = true ↔ gk_tk x b l)
theorem xs_frame {c e a t c' e' a' t' : Nat → Int32} {s s' : Nat} {x : gk_T} (h : xs_S c e a t s x) (h1 : c' s' = c s) (h2 : e' s' = e s) (h3 : ∀ i, i < 7 → a' (s' * 7 + i) = a (s * 7 + i)) (h4 : ∀ i, i < 3 → t' (s' * 3 + i) = t (s * 3 + i)) : xs_S c' e' a' t' s' x := by
  obtain ⟨g0, g1, g2, g3, g4, g5⟩ := h
  refine ⟨g0, by rw [h1]; exact g1, by rw [h2]; exact g2, fun i b hi => ?_, ?_, fun l b hl => ?_⟩
  · rw [h3 i (by have := g0.1; omega)]; exact g3 i b hi
  · rw [h3 6 (by omega)]; exact g4
  · rw [h4 l hl]; exact g5 l b hl
theorem xs_none {c e a t : Nat → Int32} {s : Nat} : xs_S (upd c s 0) (upd e s 0) (ax_set a (s * 7) 7 (fun _ => 0)) (ax_set t (s * 3) 3 (fun _ => 0)) s gk_none := by
  refine ⟨gk_wf_none, pk_us, fun i => ?_, fun i b hi => ?_, fun b => ?_, fun l b hl => ?_⟩
  · rw [pk_us, b_0]
    exact ⟨(fun z => by cases z), fun z => by rcases z with z | ⟨_, z⟩ <;> exact z.elim⟩
  · have hi : i < 0 := hi
    omega
  · rw [ax_in (by omega), b_0]
    exact ⟨(fun z => by cases z), fun z => z.elim⟩
  · rw [ax_in hl, b_0]
    exact ⟨(fun z => by cases z), fun z => z.elim⟩
theorem b_64 (i : Nat) : bt 64 i = decide (i = 6) := by
  rcases Nat.lt_or_ge i 32 with h | h
  · exact (by decide +kernel : ∀ i, i < 32 → bt 64 i = decide (i = 6)) i h
  · rw [b_big h, decide_eq_false (by omega)]
theorem xs_empty {c e a t : Nat → Int32} {s : Nat} : xs_S (upd c s 0) (upd (upd e s 0) s 64) (ax_set a (s * 7) 7 (fun _ => 0)) (ax_set t (s * 3) 3 (fun _ => 0)) s (gk_leaf 4) := by
  refine ⟨gk_wf_leaf 4, pk_us, fun i => ?_, fun i b hi => ?_, fun b => ?_, fun l b hl => ?_⟩
  · rw [pk_us, b_64, decide_eq_true_eq]
    exact ⟨fun z => Or.inr ⟨z, rfl⟩, fun z => by
      rcases z with ⟨z, _⟩ | ⟨z, _⟩
      · omega
      · exact z⟩
  · have hi : i < 0 := hi
    omega
  · rw [ax_in (by omega), b_0]
    exact ⟨(fun z => by cases z), fun z => by have := z.1; omega⟩
  · rw [ax_in hl, b_0]
    exact ⟨(fun z => by cases z), fun z => by have := z.1; omega⟩
theorem xs_leaf {c e a t : Nat → Int32} {s o : Nat} (ho : o < 4) : xs_S (upd (upd c s 0) s 1) (upd (upd e s 0) s 1) (upd (ax_set a (s * 7) 7 (fun _ => 0)) (s * 7 + 6) 1) (ax_set (ax_set t (s * 3) 3 (fun _ => 0)) (s * 3) 3 (fun l => if o = l ∨ o = 3 then 1 else 0)) s (gk_leaf o) := by
  have hc : gk_c (gk_leaf o) = 1 := if_pos ho
  refine ⟨gk_wf_leaf o, by rw [pk_us, hc]; rfl, fun i => ?_, fun i b hi => ?_, fun b => ?_, fun l b hl => ?_⟩
  · rw [pk_us, b_1b, decide_eq_true_eq]
    refine ⟨fun z => Or.inl ⟨ho, z⟩, fun z => ?_⟩
    rcases z with ⟨_, z⟩ | ⟨_, z⟩
    · exact z
    · have z : o = 4 := z
      omega
  · rw [hc] at hi
    rw [pk_un (by omega), ax_in (by omega), b_0]
    exact ⟨(fun z => by cases z), fun z => z.elim⟩
  · rw [pk_us, b_1b, decide_eq_true_eq]
    exact ⟨fun z => ⟨ho, z⟩, fun z => z.2⟩
  · rw [ax_in hl]
    by_cases h : o = l ∨ o = 3
    · rw [if_pos h, b_1b, decide_eq_true_eq]
      exact ⟨fun z => ⟨ho, z, h.symm⟩, fun z => z.2.1⟩
    · rw [if_neg h, b_0]
      exact ⟨(fun z => by cases z), fun z => absurd z.2.2.symm h⟩
end
section
/-! repeats and joins of slots -/
theorem xs_sh {v : Int32} {P : Nat → Prop} {c : Nat} (hc : c < 32) (h : ∀ b, bt v b = true ↔ P b) (hP : ∀ b, P b → b + c < 32) (b : Nat) : bt (v <<< (nI c &&& 31)) b = true ↔ c ≤ b ∧ P (b - c) := by
  rcases Nat.lt_or_ge b 32 with z | z
  · rw [b_shl c hc v z, Bool.and_eq_true, decide_eq_true_eq, h]
  · rw [b_big z]
    refine ⟨(fun y => by cases y), fun y => ?_⟩
    have := hP _ y.2
    omega
theorem xs_or {v w : Int32} {P Q : Prop} {b : Nat} (h1 : bt v b = true ↔ P) (h2 : bt w b = true ↔ Q) : bt (v ||| w) b = true ↔ P ∨ Q := by rw [b_or, Bool.or_eq_true, h1, h2]
theorem xs_rep {c e a t e' a' : Nat → Int32} {s o : Nat} {x : gk_T} (h : xs_S c e a t s x) (ha : o ≠ 2 → a' = xw_aa a s (e s) (a (s * 7 + 6))) (ha2 : o = 2 → a' = a) (he : o ≠ 1 → e' = upd e s (e s ||| 64)) (he1 : o = 1 → e' = e) : xs_S c e' a' t s (gk_rep o x) := by
  obtain ⟨g0, g1, g2, g3, g4, g5⟩ := h
  have h6 : gk_c x ≤ 6 := g0.1
  refine ⟨gk_wf_rep g0, g1, fun i => ?_, fun i b hi => ?_, fun b => ?_, g5⟩
  · by_cases h1 : o = 1
    · rw [he1 h1, g2]
      refine ⟨fun z => ?_, fun z => ?_⟩
      · rcases z with z | ⟨z1, z2⟩
        · exact Or.inl z
        · exact Or.inr ⟨z1, Or.inl z2⟩
      · rcases z with z | ⟨z1, z2 | z2⟩
        · exact Or.inl z
        · exact Or.inr ⟨z1, z2⟩
        · exact absurd h1 z2
    · rw [he h1, pk_us, xs_or (g2 i) (by rw [b_64, decide_eq_true_eq])]
      refine ⟨fun z => ?_, fun z => ?_⟩
      · rcases z with (z | ⟨z1, z2⟩) | z
        · exact Or.inl z
        · exact Or.inr ⟨z1, Or.inl z2⟩
        · exact Or.inr ⟨z, Or.inr h1⟩
      · rcases z with z | ⟨z1, _⟩
        · exact Or.inl (Or.inl z)
        · exact Or.inr z1
  · have hi : i < gk_c x := hi
    by_cases h2 : o = 2
    · rw [ha2 h2, g3 i b hi]
      exact ⟨fun z => Or.inl z, fun z => by
        rcases z with z | ⟨z, _⟩
        · exact z
        · exact absurd h2 z⟩
    · rw [ha h2]
      unfold xw_aa
      rw [ax_in (by omega)]
      by_cases z : bt (e s) i = true
      · rw [if_pos z, xs_or (g3 i b hi) (g4 b)]
        have z : gk_en x i := by
          rcases (g2 i).mp z with z | ⟨z, _⟩
          · exact z
          · omega
        exact ⟨fun y => by
          rcases y with y | y
          · exact Or.inl y
          · exact Or.inr ⟨h2, z, y⟩, fun y => by
          rcases y with y | ⟨_, _, y⟩
          · exact Or.inl y
          · exact Or.inr y⟩
      · rw [if_neg z, g3 i b hi]
        exact ⟨fun y => Or.inl y, fun y => by
          rcases y with y | ⟨_, y, _⟩
          · exact y
          · exact absurd ((g2 i).mpr (Or.inl y)) z⟩
  · by_cases h2 : o = 2
    · rw [ha2 h2]; exact g4 b
    · rw [ha h2]
      unfold xw_aa
      rw [ax_in (by omega)]
      split
      · rw [xs_or (g4 b) (g4 b)]; exact ⟨fun y => y.elim id id, Or.inl⟩
      · exact g4 b
section
variable {c e a t : Nat → Int32} {s : Nat} {x y : gk_T}
theorem xs_jb (hx : xs_S c e a t s x) (hy : xs_S c e a t (s + 1) y) (b : Nat) : bt (xw_jb a s (gk_c x)) b = true ↔ gk_c x ≤ b ∧ gk_bg y (b - gk_c x) :=
  xs_sh (by have := hx.1.1; omega) hy.2.2.2.2.1 (fun b z => by have := hy.1.2.1 b z; have := hx.1.1; have := hy.1.1; omega) b
theorem xs_je (hy : xs_S c e a t (s + 1) y) (b : Nat) : bt (xw_je e s) b = true ↔ b = 6 ∧ gk_nu y := by
  unfold xw_je
  rw [b_and, Bool.and_eq_true, b_64, decide_eq_true_eq, hy.2.2.1]
  refine ⟨fun z => ⟨z.2, ?_⟩, fun z => ⟨Or.inr z, z.1⟩⟩
  rcases z.1 with y1 | y1
  · have := hy.1.2.2.1 _ y1; have := hy.1.1; omega
  · exact y1.2
theorem xs_jE (hx : xs_S c e a t s x) (hy : xs_S c e a t (s + 1) y) (b : Nat) : bt (xw_jE e s (gk_c x)) b = true ↔ gk_c x ≤ b ∧ gk_en y (b - gk_c x) := by
  refine xs_sh (P := gk_en y) (by have := hx.1.1; omega) (fun b => ?_) (fun b z => by have := hy.1.2.2.1 b z; have := hx.1.1; have := hy.1.1; omega) b
  have h1 := hy.2.2.1 b
  have h2 := xs_je (s := s) hy b
  unfold xw_je at h2
  rw [b_xor]
  have h6 : gk_en y b → b ≠ 6 := fun z => by have := hy.1.2.2.1 b z; have := hy.1.1; omega
  cases z1 : bt (e (s + 1)) b
  · rw [z1] at h1
    have n1 : ¬ (gk_en y b ∨ b = 6 ∧ gk_nu y) := fun z => by cases h1.mpr z
    cases z2 : bt (e (s + 1) &&& 64) b
    · exact ⟨(fun z => by cases z), fun z => absurd (Or.inl z) n1⟩
    · exact absurd (Or.inr (h2.mp z2)) n1
  · rw [z1] at h1
    have n1 := h1.mp rfl
    cases z2 : bt (e (s + 1) &&& 64) b
    · refine ⟨fun _ => ?_, fun _ => rfl⟩
      rcases n1 with n1 | n1
      · exact n1
      · rw [h2.mpr n1] at z2; cases z2
    · refine ⟨(fun z => by cases z), fun z => absurd (h2.mp z2).1 (h6 z)⟩
/-- a row of the arrows of the joined slot -/
theorem xs_ja (hx : xs_S c e a t s x) (hy : xs_S c e a t (s + 1) y) (h6 : gk_c x + gk_c y ≤ 6) {M : Int32} {i : Nat} (hi : i < gk_c x + gk_c y) (hM : bt M i = true → i < gk_c x) (b : Nat) :
    bt (xw_aa (xw_ja a s (gk_c x) (gk_c y)) s M (xw_jb a s (gk_c x)) (s * 7 + i)) b = true ↔ gk_ar x i b ∨ (gk_c x ≤ i ∧ gk_c x ≤ b ∧ gk_ar y (i - gk_c x) (b - gk_c x)) ∨ (bt M i = true ∧ gk_c x ≤ b ∧ gk_bg y (b - gk_c x)) := by
  unfold xw_aa
  rw [ax_in (by omega)]
  rcases Nat.lt_or_ge i (gk_c x) with z | z
  · have e1 : xw_ja a s (gk_c x) (gk_c y) (s * 7 + i) = a (s * 7 + i) := ax_out (by omega)
    rw [e1]
    by_cases w : bt M i = true
    · rw [if_pos w, xs_or (hx.2.2.2.1 i b z) (xs_jb hx hy b)]
      exact ⟨fun k => by
        rcases k with k | k
        · exact Or.inl k
        · exact Or.inr (Or.inr ⟨w, k⟩), fun k => by
        rcases k with k | ⟨k, _⟩ | ⟨_, k⟩
        · exact Or.inl k
        · omega
        · exact Or.inr k⟩
    · rw [if_neg w, hx.2.2.2.1 i b z]
      exact ⟨Or.inl, fun k => by
        rcases k with k | ⟨k, _⟩ | ⟨k, _⟩
        · exact k
        · omega
        · exact absurd k w⟩
  · have w : ¬ bt M i = true := fun w => by have := hM w; omega
    rw [if_neg w]
    have e1 : xw_ja a s (gk_c x) (gk_c y) (s * 7 + i) = a ((s + 1) * 7 + (i - gk_c x)) <<< (nI (gk_c x) &&& 31) := by
      have := ax_in (a := a) (b := s * 7 + gk_c x) (n := gk_c y) (j := i - gk_c x) (v := fun p => a ((s + 1) * 7 + p) <<< (nI (gk_c x) &&& 31)) (by omega)
      rw [show s * 7 + gk_c x + (i - gk_c x) = s * 7 + i by omega] at this
      exact this
    rw [e1, xs_sh (P := fun b => gk_ar y (i - gk_c x) b) (by omega) (fun b => hy.2.2.2.1 (i - gk_c x) b (by omega)) (fun b k => by have := (hy.1.2.2.2.1 _ _ k).2; omega)]
    exact ⟨fun k => Or.inr (Or.inl ⟨z, k⟩), fun k => by
      rcases k with k | ⟨_, k⟩ | ⟨k, _⟩
      · have := (hx.1.2.2.2.1 _ _ k).1; omega
      · exact k
      · exact absurd k w⟩
theorem xs_j6 (hx : xs_S c e a t s x) (hy : xs_S c e a t (s + 1) y) (h6 : gk_c x + gk_c y ≤ 6) {M : Int32} (b : Nat) :
    bt (xw_aa (xw_ja a s (gk_c x) (gk_c y)) s M (xw_jb a s (gk_c x)) (s * 7 + 6)) b = true ↔ gk_bg x b ∨ (gk_c x ≤ b ∧ gk_bg y (b - gk_c x) ∧ bt M 6 = true) := by
  unfold xw_aa
  rw [ax_in (by omega)]
  have e1 : xw_ja a s (gk_c x) (gk_c y) (s * 7 + 6) = a (s * 7 + 6) := ax_out (by omega)
  rw [e1]
  by_cases w : bt M 6 = true
  · rw [if_pos w, xs_or (hx.2.2.2.2.1 b) (xs_jb hx hy b)]
    exact ⟨fun k => by
      rcases k with k | k
      · exact Or.inl k
      · exact Or.inr ⟨k.1, k.2, w⟩, fun k => by
      rcases k with k | k
      · exact Or.inl k
      · exact Or.inr ⟨k.1, k.2.1⟩⟩
  · rw [if_neg w, hx.2.2.2.2.1 b]
    exact ⟨Or.inl, fun k => by
      rcases k with k | k
      · exact k
      · exact absurd k.2.2 w⟩
theorem xs_jt (hx : xs_S c e a t s x) (hy : xs_S c e a t (s + 1) y) {l : Nat} (hl : l < 3) (b : Nat) : bt (xw_jt t s (gk_c x) (s * 3 + l)) b = true ↔ gk_tk x b l ∨ (gk_c x ≤ b ∧ gk_tk y (b - gk_c x) l) := by
  unfold xw_jt
  rw [ax_in hl]
  refine xs_or (hx.2.2.2.2.2 l b hl) (xs_sh (P := fun b => gk_tk y b l) (by have := hx.1.1; omega) (fun b => hy.2.2.2.2.2 l b hl) (fun b k => by have := hy.1.2.2.2.2 _ _ k; have := hx.1.1; have := hy.1.1; omega) b)
theorem xs_alt (hx : xs_S c e a t s x) (hy : xs_S c e a t (s + 1) y) (h6 : gk_c x + gk_c y ≤ 6) :
    xs_S (upd c s (nI (gk_c x + gk_c y))) (upd e s (e s ||| (xw_jE e s (gk_c x) ||| xw_je e s))) (xw_aa (xw_ja a s (gk_c x) (gk_c y)) s 64 (xw_jb a s (gk_c x))) (xw_jt t s (gk_c x)) s (gk_join 1 x y) := by
  refine ⟨gk_wf_join hx.1 hy.1 h6, pk_us, fun i => ?_, fun i b hi => ?_, fun b => ?_, fun l b hl => xs_jt hx hy hl b⟩
  · rw [pk_us, xs_or (hx.2.2.1 i) (xs_or (xs_jE hx hy i) (xs_je hy i))]
    refine ⟨fun k => ?_, fun k => ?_⟩
    · rcases k with (k | k) | k | k
      · exact Or.inl (Or.inl ⟨k, Or.inl (by decide)⟩)
      · exact Or.inr ⟨k.1, Or.inr ⟨by decide, Or.inl k.2⟩⟩
      · exact Or.inl (Or.inr k)
      · exact Or.inr ⟨k.1, Or.inr ⟨by decide, Or.inr k.2⟩⟩
    · rcases k with (k | k) | ⟨k1, k2 | ⟨_, k2 | k2⟩⟩
      · exact Or.inl (Or.inl k.1)
      · exact Or.inr (Or.inl k)
      · exact absurd k2.1 (by decide)
      · exact Or.inl (Or.inr ⟨k1, k2⟩)
      · exact Or.inr (Or.inr ⟨k1, k2⟩)
  · have hi : i < gk_c x + gk_c y := hi
    have n : ¬ bt 64 i = true := by rw [b_64, decide_eq_true_eq]; omega
    rw [xs_ja hx hy h6 hi (fun z => absurd z n)]
    refine ⟨fun k => ?_, fun k => ?_⟩
    · rcases k with k | k | k
      · exact Or.inl k
      · exact Or.inr (Or.inl k)
      · exact absurd k.1 n
    · rcases k with k | k | k
      · exact Or.inl k
      · exact Or.inr (Or.inl k)
      · exact absurd k.1 (by decide)
  · rw [xs_j6 hx hy h6]
    have y6 : bt 64 6 = true := by decide
    exact ⟨fun k => k.imp id (fun k => ⟨k.1, k.2.1, Or.inl (by decide)⟩), fun k => k.imp id (fun k => ⟨k.1, k.2.1, y6⟩)⟩
theorem xs_cat (hx : xs_S c e a t s x) (hy : xs_S c e a t (s + 1) y) (h6 : gk_c x + gk_c y ≤ 6) :
    xs_S (upd c s (nI (gk_c x + gk_c y))) (upd e s (if xw_je e s = 0 then xw_jE e s (gk_c x) else e s ||| xw_jE e s (gk_c x))) (xw_aa (xw_ja a s (gk_c x) (gk_c y)) s (e s) (xw_jb a s (gk_c x))) (xw_jt t s (gk_c x)) s (gk_join 0 x y) := by
  have x6 : gk_c x ≤ 6 := hx.1.1
  refine ⟨gk_wf_join hx.1 hy.1 h6, pk_us, fun i => ?_, fun i b hi => ?_, fun b => ?_, fun l b hl => xs_jt hx hy hl b⟩
  · rw [pk_us]
    by_cases z : xw_je e s = 0
    · rw [if_pos z, xs_jE hx hy i]
      have nn : ¬ gk_nu y := fun k => by
        have := (xs_je hy 6).mpr ⟨rfl, k⟩
        rw [z, b_0] at this
        cases this
      refine ⟨fun k => Or.inl (Or.inr k), fun k => ?_⟩
      rcases k with (k | k) | ⟨k1, k2 | k2⟩
      · rcases k.2 with k | k
        · exact absurd rfl k
        · exact absurd k nn
      · exact k
      · exact absurd k2.2.2 nn
      · exact absurd rfl k2.1
    · rw [if_neg z, xs_or (hx.2.2.1 i) (xs_jE hx hy i)]
      have nn : gk_nu y := by
        refine Classical.byContradiction fun k => z (b_zero.mpr fun i _ => ?_)
        cases w : bt (xw_je e s) i
        · rfl
        · exact absurd ((xs_je hy i).mp w).2 k
      refine ⟨fun k => ?_, fun k => ?_⟩
      · rcases k with (k | k) | k
        · exact Or.inl (Or.inl ⟨k, Or.inr nn⟩)
        · exact Or.inr ⟨k.1, Or.inl ⟨rfl, k.2, nn⟩⟩
        · exact Or.inl (Or.inr k)
      · rcases k with (k | k) | ⟨k1, k2 | k2⟩
        · exact Or.inl (Or.inl k.1)
        · exact Or.inr k
        · exact Or.inl (Or.inr ⟨k1, k2.2.1⟩)
        · exact absurd rfl k2.1
  · have hi : i < gk_c x + gk_c y := hi
    have eM : bt (e s) i = true ↔ gk_en x i := by
      rw [hx.2.2.1 i]
      exact ⟨fun k => by
        rcases k with k | k
        · exact k
        · omega, Or.inl⟩
    rw [xs_ja hx hy h6 hi (fun z => hx.1.2.2.1 _ (eM.mp z))]
    refine ⟨fun k => ?_, fun k => ?_⟩
    · rcases k with k | k | k
      · exact Or.inl k
      · exact Or.inr (Or.inl k)
      · exact Or.inr (Or.inr ⟨rfl, eM.mp k.1, k.2⟩)
    · rcases k with k | k | k
      · exact Or.inl k
      · exact Or.inr (Or.inl k)
      · exact Or.inr (Or.inr ⟨eM.mpr k.2.1, k.2.2⟩)
  · rw [xs_j6 hx hy h6]
    have eM : bt (e s) 6 = true ↔ gk_nu x := by
      rw [hx.2.2.1 6]
      exact ⟨fun k => by
        rcases k with k | k
        · have := hx.1.2.2.1 _ k; omega
        · exact k.2, fun k => Or.inr ⟨rfl, k⟩⟩
    exact ⟨fun k => k.imp id (fun k => ⟨k.1, k.2.1, Or.inr (eM.mp k.2.2)⟩), fun k => k.imp id (fun k => ⟨k.1, k.2.1, by
      rcases k.2.2 with k | k
      · exact absurd rfl k
      · exact eM.mpr k⟩)⟩
end
end
section
/-! the longest word and the tokens, told purely -/
theorem gk_it_c {R : Nat → Nat → Prop} {i m : Nat} (h : R i m) : ∀ c j, gk_it R c m j → gk_it R (c + 1) i j := by
  intro c
  induction c with
  | zero => intro j z; have z : m = j := z; subst z; exact ⟨i, rfl, h⟩
  | succ c ih => intro j z; obtain ⟨k, a, b⟩ := z; exact ⟨k, ih k a, b⟩
theorem gk_it_u {R : Nat → Nat → Prop} {i : Nat} : ∀ c j, gk_it R (c + 1) i j → ∃ m, R i m ∧ gk_it R c m j := by
  intro c
  induction c with
  | zero => intro j z; obtain ⟨k, a, b⟩ := z; have a : i = k := a; subst a; exact ⟨j, b, rfl⟩
  | succ c ih =>
    intro j z
    obtain ⟨k, a, b⟩ := z
    obtain ⟨m, e, f⟩ := ih k a
    exact ⟨m, e, k, f, b⟩
theorem gk_swap {R : Nat → Nat → Prop} {i j : Nat} : (∃ m, R i m ∧ gk_star R m j) ↔ ∃ k, gk_star R i k ∧ R k j := by
  constructor
  · rintro ⟨m, h, c, hc⟩
    obtain ⟨k, a, b⟩ := gk_it_c h c j hc
    exact ⟨k, ⟨c, a⟩, b⟩
  · rintro ⟨k, ⟨c, hc⟩, h⟩
    obtain ⟨m, a, b⟩ := gk_it_u c j ⟨k, hc, h⟩
    exact ⟨m, a, c, b⟩
theorem gk_short {R : Nat → Nat → Prop} (hR : ∀ i j, R i j → i ≤ j) {i : Nat} : ∀ l j, j - i ≤ l → gk_star R i j → ∃ c, c ≤ l ∧ gk_it R c i j := by
  intro l
  induction l with
  | zero =>
    intro j hl h
    have := gk_star_le hR h
    have e : i = j := by omega
    exact ⟨0, Nat.le_refl _, e⟩
  | succ l ih =>
    intro j hl h
    have hle := gk_star_le hR h
    rcases Nat.lt_or_ge i j with z | z
    · obtain ⟨k, a, b, c⟩ := gk_star_last hR h z
      obtain ⟨d, d1, d2⟩ := ih k (by omega) a
      exact ⟨d + 1, by omega, k, d2, c⟩
    · have e : i = j := by omega
      exact ⟨0, by omega, e⟩
theorem gk_acc_no {t : Nat → Nat} {i j : Nat} : ¬ gk_acc gk_none t i j := by
  intro h
  rcases h.2 with ⟨_, z⟩ | ⟨b, _, z⟩ <;> exact z.elim
/-- the length of the longest word of at most m letters from a place -/
noncomputable def lg_w (A : Nat → Prop) (place : Nat) : Nat → Nat
  | 0 => 0
  | m + 1 => @ite Nat (A (place + (m + 1))) (Classical.propDecidable _) (m + 1) (lg_w A place m)
theorem lg_w_le {A : Nat → Prop} {place : Nat} : ∀ m, lg_w A place m ≤ m := by
  intro m
  induction m with
  | zero => exact Nat.le_refl _
  | succ m ih =>
    show @ite Nat (A (place + (m + 1))) (Classical.propDecidable _) (m + 1) (lg_w A place m) ≤ m + 1
    split <;> omega
theorem lg_w_s {A : Nat → Prop} {place m : Nat} (h : A (place + (m + 1))) : lg_w A place (m + 1) = m + 1 := if_pos h
theorem lg_w_n {A : Nat → Prop} {place m : Nat} (h : ¬ A (place + (m + 1))) : lg_w A place (m + 1) = lg_w A place m := if_neg h
section
variable (kd : Nat → gk_T) (t : Nat → Nat) (n : Nat)
/-- the longest word of kind k at a place -/
noncomputable def ct_l (k place : Nat) : Nat := lg_w (fun j => gk_acc (kd k) t place j) place (n - place)
noncomputable def ct_1 (place : Nat) : Nat := if ct_l kd t n 1 place ≤ ct_l kd t n 0 place then 0 else 1
noncomputable def ct_k (place : Nat) : Nat := if ct_l kd t n 2 place ≤ ct_l kd t n (ct_1 kd t n place) place then ct_1 kd t n place else 2
noncomputable def ct_n (place : Nat) : Nat := ct_l kd t n (ct_k kd t n place) place
/-- the place of token c -/
noncomputable def ct_p : Nat → Nat
  | 0 => 0
  | c + 1 => ct_p c + ct_n kd t n (ct_p c)
/-- c tokens, and no more -/
def ct_C (c : Nat) : Prop := (∀ i, i < c → ct_p kd t n i < n ∧ ct_n kd t n (ct_p kd t n i) ≠ 0) ∧ (n ≤ ct_p kd t n c ∨ ct_n kd t n (ct_p kd t n c) = 0)
noncomputable def ct_w (c : Nat) : Int32 := if ct_p kd t n c < n then nI (ct_p kd t n c) else -4
end
section
variable {kd : Nat → gk_T} {t : Nat → Nat} {n : Nat}
theorem ct_k3 (place : Nat) : ct_k kd t n place < 3 := by
  have : ct_1 kd t n place < 3 := by unfold ct_1; split <;> omega
  unfold ct_k
  split <;> omega
theorem ct_n_le (place : Nat) : ct_n kd t n place ≤ n - place := lg_w_le _
theorem ct_C_one {c d : Nat} (h : ct_C kd t n c) (h' : ct_C kd t n d) : c = d := by
  rcases Nat.lt_trichotomy c d with z | z | z
  · have a := h'.1 c z
    rcases h.2 with b | b
    · omega
    · exact absurd b a.2
  · exact z
  · have a := h.1 d z
    rcases h'.2 with b | b
    · omega
    · exact absurd b a.2
theorem ct_p_ge {c : Nat} (h : ∀ i, i < c → ct_p kd t n i < n ∧ ct_n kd t n (ct_p kd t n i) ≠ 0) : c ≤ ct_p kd t n c ∧ ct_p kd t n c ≤ n ∧ ∀ i, i < c → ct_p kd t n i < ct_p kd t n (i + 1) := by
  induction c with
  | zero => exact ⟨Nat.le_refl _, Nat.zero_le _, fun i hi => absurd hi (Nat.not_lt_zero i)⟩
  | succ c ih =>
    obtain ⟨a, b, d⟩ := ih (fun i hi => h i (by omega))
    have e := h c (by omega)
    have f := ct_n_le (kd := kd) (t := t) (n := n) (ct_p kd t n c)
    have g : ct_p kd t n (c + 1) = ct_p kd t n c + ct_n kd t n (ct_p kd t n c) := rfl
    refine ⟨by omega, by omega, fun i hi => ?_⟩
    rcases Nat.lt_or_ge i c with z | z
    · exact d i z
    · have : i = c := by omega
      subst this
      omega
theorem ct_C_24 {c : Nat} (hn : n ≤ 24) (h : ∀ i, i < c → ct_p kd t n i < n ∧ ct_n kd t n (ct_p kd t n i) ≠ 0) : c ≤ 24 := by
  have := ct_p_ge h
  omega
end
end
section
/-! the reference's table of patterns, what matches where, and its tokens -/
variable {h_made h_depth h_length h_tokenCount h_wrong h_letterCount h_ruleCount h_makingCount h_usefulRules h_stateCount h_wideCount h_useCount h_result : Int32} {b_ops b_firsts b_seconds b_sizes b_stack b_roots b_text b_ends b_tokenKinds b_tokenSizes b_letters b_begins b_closes b_empties b_nexts b_sets b_leads b_classes b_newClasses b_lefts b_rights b_counts b_making b_firstSets b_followSets b_tasks b_held b_uses b_reach : Nat → Int32} {b_states b_looks b_wides b_work b_met : Nat → Int64}
def yn_N (m : Nat) (g : Nat → gk_T) (lo op fi se : Nat → Nat) (b_ops b_firsts b_seconds b_sizes : Nat → Int32) : Prop := ∀ p, p < m → b_ops p = nI (op p) ∧ gk_wf (g p) ∧ b_sizes p = nI (gk_c (g p)) ∧ lo p ≤ p ∧
  ((op p < 5 ∧ g p = gk_leaf (op p) ∧ b_firsts p = -1 ∧ b_seconds p = -1 ∧ lo p = p) ∨
   (5 ≤ op p ∧ op p < 8 ∧ fi p < p ∧ b_firsts p = nI (fi p) ∧ b_seconds p = -1 ∧ g p = gk_rep (op p - 5) (g (fi p)) ∧ lo p = lo (fi p)) ∨
   (8 ≤ op p ∧ op p < 10 ∧ fi p < lo (se p) ∧ se p < p ∧ b_firsts p = nI (fi p) ∧ b_seconds p = nI (se p) ∧ g p = gk_join (op p - 8) (g (fi p)) (g (se p)) ∧ lo p = lo (fi p)))
theorem yw_endsOf {p n : Nat} {x : Int32} (hp : p < 60) (hn : n ≤ 24) {post : Int32 → Prop} (h : ∀ r, (∀ j, bt r j = true ↔ ∃ i, i ≤ n ∧ bt x i = true ∧ bt (b_ends (p * 25 + i)) j = true) → post r) : wpY_endsOf post (h_made, h_depth, (nI n), h_tokenCount, h_wrong, h_letterCount, h_ruleCount, h_makingCount, h_usefulRules, h_stateCount, h_wideCount, h_useCount, h_result, b_ops, b_firsts, b_seconds, b_sizes, b_stack, b_roots, b_text, b_ends, b_tokenKinds, b_tokenSizes, b_letters, b_begins, b_closes, b_empties, b_nexts, b_sets, b_leads, b_classes, b_newClasses, b_lefts, b_rights, b_counts, b_making, b_firstSets, b_followSets, b_states, b_looks, b_wides, b_work, b_met, b_tasks, b_held, b_uses, b_reach) (nI p) x := by
  refine loop_0 (fun k i s => wY_endsOf_5 post (nI p) x h_made h_depth (nI n) h_tokenCount h_wrong h_letterCount h_ruleCount h_makingCount h_usefulRules h_stateCount h_wideCount h_useCount h_result b_ops b_firsts b_seconds b_sizes b_stack b_roots b_text b_ends b_tokenKinds b_tokenSizes b_letters b_begins b_closes b_empties b_nexts b_sets b_leads b_classes b_newClasses b_lefts b_rights b_counts b_making b_firstSets b_followSets b_states b_looks b_wides b_work b_met b_tasks b_held b_uses b_reach k s (nI i)) (fun i s => ∀ j, bt s j = true ↔ ∃ i', i' < i ∧ bt x i' = true ∧ bt (b_ends (p * 25 + i')) j = true) (n + 1) 0 ?_ ?_ ?_
  · intro j
    rw [b_0]
    exact ⟨(fun z => by cases z), fun ⟨i', hi, _⟩ => absurd hi (Nat.not_lt_zero i')⟩
  · intro k s hs
    refine br_t (nI_lt (by omega) (by omega)) (h s fun j => ?_)
    rw [hs j]
    exact ⟨fun ⟨i, a, b⟩ => ⟨i, by omega, b⟩, fun ⟨i, a, b⟩ => ⟨i, by omega, b⟩⟩
  · intro k i s hi hs hk
    refine br_f (nI_nlt (by omega) (by omega)) (br_c (fun z => ?_) (fun z => ?_))
    · have z := (b_test x (n := i) (by omega)).mp z
      refine ⟨pk_in (p * 25 + i) 1500 (by omega) (ix_25 p i), nm_e (nm_r (nI_1 i) (hk _ fun j => ?_))⟩
      rw [pk_cl (p * 25 + i) (ix_25 p i), b_or, Bool.or_eq_true, hs j]
      constructor
      · rintro (⟨i', a, b⟩ | a)
        · exact ⟨i', by omega, b⟩
        · exact ⟨i, by omega, z, a⟩
      · rintro ⟨i', a, b, c⟩
        rcases Nat.lt_or_ge i' i with y | y
        · exact Or.inl ⟨i', y, b, c⟩
        · have e : i' = i := by omega
          subst e; exact Or.inr c
    · have z : ¬ bt x i = true := fun y => z ((b_test x (by omega)).mpr y)
      refine nm_r (nI_1 i) (hk _ fun j => ?_)
      rw [hs j]
      constructor
      · rintro ⟨i', a, b⟩; exact ⟨i', by omega, b⟩
      · rintro ⟨i', a, b, c⟩
        rcases Nat.lt_or_ge i' i with y | y
        · exact ⟨i', y, b, c⟩
        · have e : i' = i := by omega
          subst e; exact absurd b z
/-- the ends of node p from every place -/
def yn_E (b_ends : Nat → Int32) (x : gk_T) (t : Nat → Nat) (n p : Nat) : Prop := ∀ i, i ≤ n → ∀ j, bt (b_ends (p * 25 + i)) j = true ↔ j ≤ n ∧ gk_acc x t i j
/-- the 24 rounds of a repeat -/
theorem yw_rounds {p q o n : Nat} {x : gk_T} {t : Nat → Nat} {B : Int32} (hp : p < 60) (hq : q < 60) (ho : o < 7) (hn : n ≤ 24) (hf : b_firsts p = nI q) (hE : yn_E b_ends x t n q) (hB : ∀ j, bt B j = true → j ≤ n) {post : Int32 → Prop}
    (h : ∀ r, (∀ j, bt r j = true ↔ j ≤ n ∧ ∃ b, bt B b = true ∧ gk_star (gk_acc x t) b j) → post r) : ∃ k, wY_endsFrom_171 post (nI p) (nI o) h_made h_depth (nI n) h_tokenCount h_wrong h_letterCount h_ruleCount h_makingCount h_usefulRules h_stateCount h_wideCount h_useCount h_result b_ops b_firsts b_seconds b_sizes b_stack b_roots b_text b_ends b_tokenKinds b_tokenSizes b_letters b_begins b_closes b_empties b_nexts b_sets b_leads b_classes b_newClasses b_lefts b_rights b_counts b_making b_firstSets b_followSets b_states b_looks b_wides b_work b_met b_tasks b_held b_uses b_reach k B 0 := by
  refine loop_0 (fun k i s => wY_endsFrom_171 post (nI p) (nI o) h_made h_depth (nI n) h_tokenCount h_wrong h_letterCount h_ruleCount h_makingCount h_usefulRules h_stateCount h_wideCount h_useCount h_result b_ops b_firsts b_seconds b_sizes b_stack b_roots b_text b_ends b_tokenKinds b_tokenSizes b_letters b_begins b_closes b_empties b_nexts b_sets b_leads b_classes b_newClasses b_lefts b_rights b_counts b_making b_firstSets b_followSets b_states b_looks b_wides b_work b_met b_tasks b_held b_uses b_reach k s (nI i)) (fun i s => ∀ j, bt s j = true ↔ j ≤ n ∧ ∃ b c, c ≤ i ∧ bt B b = true ∧ gk_it (gk_acc x t) c b j) 24 B ?_ ?_ ?_
  · intro j
    constructor
    · intro z; exact ⟨hB j z, j, 0, Nat.le_refl _, z, rfl⟩
    · rintro ⟨_, b, c, hc, z, y⟩
      have e : c = 0 := by omega
      subst e
      have y : b = j := y
      subst y; exact z
  · intro k s hs
    refine br_t (nI_le (Nat.le_refl 24) (by decide)) (h s fun j => ?_)
    rw [hs j]
    constructor
    · rintro ⟨a, b, c, _, d, e⟩; exact ⟨a, b, d, c, e⟩
    · rintro ⟨a, b, d, e⟩
      obtain ⟨c, c1, c2⟩ := gk_short (fun _ _ z => gk_acc_le z) 24 j (by omega) e
      exact ⟨a, b, c, c1, d, c2⟩
  · intro k i s hi hs hk
    refine br_f (nI_ge hi (by decide)) (br_f (nI_ge (b := 7) ho (by decide)) ⟨vp_in_nI hp (by decide), ?_⟩)
    rw [nI_clamp (by omega : p < 2 ^ 31), hf]
    refine yw_endsOf hq hn (fun r hr => nm_e (nm_r (nI_1 i) (hk _ fun j => ?_)))
    rw [b_or, Bool.or_eq_true, hs j, hr j]
    constructor
    · rintro (⟨a, b, c, d, e, f⟩ | ⟨m, m1, m2, m3⟩)
      · exact ⟨a, b, c, by omega, e, f⟩
      · obtain ⟨_, b, c, d, e, f⟩ := (hs m).mp m2
        obtain ⟨j1, j2⟩ := (hE m m1 j).mp m3
        exact ⟨j1, b, c + 1, by omega, e, m, f, j2⟩
    · rintro ⟨a, b, c, d, e, f⟩
      rcases Nat.lt_or_ge c (i + 1) with z | z
      · exact Or.inl ⟨a, b, c, by omega, e, f⟩
      · have z : c = i + 1 := by omega
        subst z
        obtain ⟨m, f1, f2⟩ := f
        have hm : m ≤ n := by have := gk_acc_le f2; omega
        exact Or.inr ⟨m, hm, (hs m).mpr ⟨hm, b, i, Nat.le_refl _, e, f1⟩, (hE m hm j).mpr ⟨a, f2⟩⟩
theorem yw_endsFrom {m p n i : Nat} {g : Nat → gk_T} {lo op fi se : Nat → Nat} {t : Nat → Nat} (hN : yn_N m g lo op fi se b_ops b_firsts b_seconds b_sizes) (hm : m ≤ 60) (hp : p < m) (hn : n ≤ 24) (hi : i ≤ n) (ht : ∀ i, i < n → b_text i = nI (t i) ∧ t i < 3)
    (hE : ∀ q, q < p → yn_E b_ends (g q) t n q) {post : Int32 → Prop} (h : ∀ r, (∀ j, bt r j = true ↔ j ≤ n ∧ gk_acc (g p) t i j) → post r) : wpY_endsFrom post (h_made, h_depth, (nI n), h_tokenCount, h_wrong, h_letterCount, h_ruleCount, h_makingCount, h_usefulRules, h_stateCount, h_wideCount, h_useCount, h_result, b_ops, b_firsts, b_seconds, b_sizes, b_stack, b_roots, b_text, b_ends, b_tokenKinds, b_tokenSizes, b_letters, b_begins, b_closes, b_empties, b_nexts, b_sets, b_leads, b_classes, b_newClasses, b_lefts, b_rights, b_counts, b_making, b_firstSets, b_followSets, b_states, b_looks, b_wides, b_work, b_met, b_tasks, b_held, b_uses, b_reach) (nI p) (nI i) := by
  obtain ⟨h1, h2, h3, h4, h5⟩ := hN p hp
  have cp : (nI p).toNatClampNeg = p := nI_clamp (by omega)
  have ip : vp_in (nI p) 60 := vp_in_nI (by omega) (by decide)
  refine ⟨ip, nm_r (e' := nI (op p)) (by rw [cp]; exact h1) ?_⟩
  rcases h5 with ⟨o1, o2, _⟩ | ⟨o1, o2, o3, o4, _, o5, _⟩ | ⟨o1, o2, o3, o4, o5, o6, o7, _⟩
  · refine br_f (nI_ge (b := 5) o1 (by decide)) ?_
    have fin : ∀ z : Nat, (z = 1 ↔ op p < 4 ∧ i < n ∧ (op p = 3 ∨ op p = t i)) ∨ op p = 4 → z ≤ 1 → wY_endsFrom_40 post (nI i) (nI (op p)) (nI z) h_made h_depth (nI n) h_tokenCount h_wrong h_letterCount h_ruleCount h_makingCount h_usefulRules h_stateCount h_wideCount h_useCount h_result b_ops b_firsts b_seconds b_sizes b_stack b_roots b_text b_ends b_tokenKinds b_tokenSizes b_letters b_begins b_closes b_empties b_nexts b_sets b_leads b_classes b_newClasses b_lefts b_rights b_counts b_making b_firstSets b_followSets b_states b_looks b_wides b_work b_met b_tasks b_held b_uses b_reach := by
      intro z hz hz1
      refine pk_eq (op p) 4 (fun y => ?_) (fun y => pk_eq z 0 (fun w => ?_) (fun w => ?_))
      · refine h _ fun j => ?_
        rw [b_one i (by omega), decide_eq_true_eq, o2, gk_acc_leaf]
        constructor
        · rintro rfl; exact ⟨hi, Or.inl ⟨y, rfl⟩⟩
        · rintro ⟨_, ⟨_, e⟩ | ⟨e, _⟩⟩
          · exact e.symm
          · omega
      · refine h _ fun j => ?_
        rw [b_0, o2, gk_acc_leaf]
        refine ⟨(fun z => by cases z), ?_⟩
        rintro ⟨j1, ⟨e, _⟩ | ⟨e1, e2, e3⟩⟩
        · exact absurd e y
        · rcases hz with hz | hz
          · have := hz.mpr ⟨e1, by omega, e3⟩; omega
          · exact absurd hz y
      · have z1 : z = 1 := by omega
        have z2 : op p < 4 ∧ i < n ∧ (op p = 3 ∨ op p = t i) := by
          rcases hz with hz | hz
          · exact hz.mp z1
          · exact absurd hz y
        refine h _ fun j => ?_
        rw [b_two i (by omega), decide_eq_true_eq, o2, gk_acc_leaf]
        constructor
        · rintro rfl; exact ⟨by omega, Or.inr ⟨z2.1, rfl, z2.2.2⟩⟩
        · rintro ⟨_, ⟨e, _⟩ | ⟨_, e, _⟩⟩
          · exact absurd e y
          · exact e
    refine pk_le n i (fun z => ?_) (fun z => pk_eq (op p) 3 (fun y => ?_) (fun y => ?_))
    · refine fin 0 ?_ (by omega)
      rcases Nat.lt_or_ge (op p) 4 with w | w
      · exact Or.inl ⟨fun k => by omega, fun k => by omega⟩
      · exact Or.inr (by omega)
    · exact fin 1 (Or.inl ⟨fun _ => ⟨by omega, z, Or.inl y⟩, fun _ => rfl⟩) (by omega)
    · obtain ⟨t1, t2⟩ := ht i z
      have ci : (nI i).toNatClampNeg = i := nI_clamp (by omega)
      refine ⟨vp_in_nI (by omega) (by decide), pk_eq (op p) (t i) (fun w => ?_) (fun w => ?_) rfl (by rw [ci]; exact t1)⟩
      · exact fin 1 (Or.inl ⟨fun _ => ⟨by omega, z, Or.inr w⟩, fun _ => rfl⟩) (by omega)
      · refine fin 0 ?_ (by omega)
        rcases Nat.lt_or_ge (op p) 4 with k | k
        · exact Or.inl ⟨fun k => by omega, fun k => by omega⟩
        · exact Or.inr (by omega)
  · have e1 : 25 * nI (fi p) + nI i = nI (fi p * 25 + i) := ix_25 _ _
    have hEf := hE (fi p) o3
    refine br_t (nI_le (a := 5) o1 (by omega)) (br_t (nI_le (b := 7) (by omega) (by decide)) ⟨ip, ?_⟩)
    rw [cp, o4]
    refine ⟨pk_in (fi p * 25 + i) 1500 (by omega) e1, nm_r (e' := b_ends (fi p * 25 + i)) (by rw [pk_cl (fi p * 25 + i) e1]) (pk_eq (op p) 6 (fun z => ?_) (fun z => ?_))⟩
    · refine yw_rounds (by omega) (by omega) (by omega) hn o4 hEf (fun j z => ((hEf i hi j).mp z).1) (fun r hr => h r fun j => ?_)
      rw [hr j, o5, show op p - 5 = 1 by omega, gk_acc_plus, ← gk_swap]
      constructor
      · rintro ⟨a, b, c, d⟩; exact ⟨a, b, ((hEf i hi b).mp c).2, d⟩
      · rintro ⟨a, b, c, d⟩
        refine ⟨a, b, (hEf i hi b).mpr ⟨?_, c⟩, d⟩
        have := gk_star_le (fun _ _ z => gk_acc_le z) d
        omega
    · refine nm_e ?_
      have hB : ∀ j, bt (b_ends (fi p * 25 + i) ||| (1 : Int32) <<< (nI i &&& 31)) j = true ↔ (j ≤ n ∧ gk_acc (g (fi p)) t i j) ∨ j = i := by
        intro j
        rw [b_or, Bool.or_eq_true, hEf i hi j, b_one i (by omega), decide_eq_true_eq]
      rcases Nat.lt_or_ge (op p) 7 with w | w
      · refine yw_rounds (by omega) (by omega) w hn o4 hEf (fun j z => by rcases (hB j).mp z with ⟨a, _⟩ | a <;> omega) (fun r hr => h r fun j => ?_)
        rw [hr j, o5, show op p - 5 = 0 by omega, gk_acc_star]
        constructor
        · rintro ⟨a, b, c, d⟩
          refine ⟨a, ?_⟩
          rcases (hB b).mp c with ⟨_, c⟩ | rfl
          · obtain ⟨k, e, f⟩ := gk_swap.mp ⟨b, c, d⟩
            exact gk_star_s e f
          · exact d
        · rintro ⟨a, b⟩; exact ⟨a, i, (hB i).mpr (Or.inr rfl), b⟩
      · refine ⟨1, pk_le 24 0 (fun z => by omega) (fun _ => br_t (nI_le (a := 7) w (by omega)) (h _ fun j => ?_))⟩
        rw [hB j, o5, show op p - 5 = 2 by omega, gk_acc_opt]
        constructor
        · rintro (⟨a, b⟩ | rfl)
          · exact ⟨a, Or.inr b⟩
          · exact ⟨hi, Or.inl rfl⟩
        · rintro ⟨a, b | b⟩
          · exact Or.inr b.symm
          · exact Or.inl ⟨a, b⟩
  · have e1 : 25 * nI (fi p) + nI i = nI (fi p * 25 + i) := ix_25 _ _
    have e2 : 25 * nI (se p) + nI i = nI (se p * 25 + i) := ix_25 _ _
    have hs := (hN (se p) (by omega)).2.2.2.1
    have hEf := hE (fi p) (by omega)
    have hEs := hE (se p) o4
    have hwf := (hN (fi p) (by omega)).2.1
    refine br_t (nI_le (a := 5) (by omega) (by omega)) (br_f (nI_ge (a := 7) (by omega) (by omega)) ⟨ip, ?_⟩)
    rw [cp, o5]
    refine ⟨pk_in (fi p * 25 + i) 1500 (by omega) e1, nm_r (e' := b_ends (fi p * 25 + i)) (by rw [pk_cl (fi p * 25 + i) e1]) (pk_eq (op p) 9 (fun z => ⟨ip, ?_⟩) (fun z => ⟨ip, ?_⟩))⟩
    · rw [o6]
      refine ⟨pk_in (se p * 25 + i) 1500 (by omega) e2, h _ fun j => ?_⟩
      rw [pk_cl (se p * 25 + i) e2, b_or, Bool.or_eq_true, hEf i hi j, hEs i hi j, o7, gk_acc_alt (by omega) hwf]
      constructor
      · rintro (⟨a, b⟩ | ⟨a, b⟩)
        · exact ⟨a, Or.inl b⟩
        · exact ⟨a, Or.inr b⟩
      · rintro ⟨a, b | b⟩
        · exact Or.inl ⟨a, b⟩
        · exact Or.inr ⟨a, b⟩
    · rw [o6]
      refine yw_endsOf (by omega) hn (fun r hr => h r fun j => ?_)
      rw [hr j, o7, show op p - 8 = 0 by omega, gk_acc_cat hwf]
      constructor
      · rintro ⟨k, a, b, c⟩
        obtain ⟨c1, c2⟩ := (hEs k a j).mp c
        exact ⟨c1, k, ((hEf i hi k).mp b).2, c2⟩
      · rintro ⟨a, k, b, c⟩
        have hk : k ≤ n := by have := gk_acc_le c; omega
        exact ⟨k, hk, (hEf i hi k).mpr ⟨hk, b⟩, (hEs k hk j).mpr ⟨a, c⟩⟩
theorem yw_match {m n : Nat} {g : Nat → gk_T} {lo op fi se : Nat → Nat} {t : Nat → Nat} (hN : yn_N m g lo op fi se b_ops b_firsts b_seconds b_sizes) (hm : m ≤ 60) (hn : n ≤ 24) (ht : ∀ i, i < n → b_text i = nI (t i) ∧ t i < 3)
    {post : SY → Prop} (h : ∀ e, (∀ p, p < m → yn_E e (g p) t n p) → post ((nI m), h_depth, (nI n), h_tokenCount, h_wrong, h_letterCount, h_ruleCount, h_makingCount, h_usefulRules, h_stateCount, h_wideCount, h_useCount, h_result, b_ops, b_firsts, b_seconds, b_sizes, b_stack, b_roots, b_text, e, b_tokenKinds, b_tokenSizes, b_letters, b_begins, b_closes, b_empties, b_nexts, b_sets, b_leads, b_classes, b_newClasses, b_lefts, b_rights, b_counts, b_making, b_firstSets, b_followSets, b_states, b_looks, b_wides, b_work, b_met, b_tasks, b_held, b_uses, b_reach)) : wpY_match post ((nI m), h_depth, (nI n), h_tokenCount, h_wrong, h_letterCount, h_ruleCount, h_makingCount, h_usefulRules, h_stateCount, h_wideCount, h_useCount, h_result, b_ops, b_firsts, b_seconds, b_sizes, b_stack, b_roots, b_text, b_ends, b_tokenKinds, b_tokenSizes, b_letters, b_begins, b_closes, b_empties, b_nexts, b_sets, b_leads, b_classes, b_newClasses, b_lefts, b_rights, b_counts, b_making, b_firstSets, b_followSets, b_states, b_looks, b_wides, b_work, b_met, b_tasks, b_held, b_uses, b_reach) := by
  refine loop_0 (fun k p s => wY_match_2 post (nI m) h_depth (nI n) h_tokenCount h_wrong h_letterCount h_ruleCount h_makingCount h_usefulRules h_stateCount h_wideCount h_useCount h_result k (nI p) b_ops b_firsts b_seconds b_sizes b_stack b_roots b_text s b_tokenKinds b_tokenSizes b_letters b_begins b_closes b_empties b_nexts b_sets b_leads b_classes b_newClasses b_lefts b_rights b_counts b_making b_firstSets b_followSets b_states b_looks b_wides b_work b_met b_tasks b_held b_uses b_reach) (fun p s => ∀ q, q < p → yn_E s (g q) t n q) m b_ends (fun q hq => absurd hq (Nat.not_lt_zero q)) ?_ ?_
  · intro k s hs
    exact br_t (nI_le (Nat.le_refl _) (by omega)) (h s hs)
  · intro k p s hp hs hk
    refine br_f (nI_ge hp (by omega)) ?_
    refine ⟨n + 2, ?_⟩
    -- downward over the places
    have key : ∀ c (s : Nat → Int32), c ≤ n + 1 → (∀ q, q < p → yn_E s (g q) t n q) → (∀ i, c ≤ i → i ≤ n → ∀ j, bt (s (p * 25 + i)) j = true ↔ j ≤ n ∧ gk_acc (g p) t i j) → wY_match_15 post (wY_match_2 post (nI m) h_depth (nI n) h_tokenCount h_wrong h_letterCount h_ruleCount h_makingCount h_usefulRules h_stateCount h_wideCount h_useCount h_result k) (nI p) (nI m) h_depth (nI n) h_tokenCount h_wrong h_letterCount h_ruleCount h_makingCount h_usefulRules h_stateCount h_wideCount h_useCount h_result (c + 1) (nI c + (-1)) b_ops b_firsts b_seconds b_sizes b_stack b_roots b_text s b_tokenKinds b_tokenSizes b_letters b_begins b_closes b_empties b_nexts b_sets b_leads b_classes b_newClasses b_lefts b_rights b_counts b_making b_firstSets b_followSets b_states b_looks b_wides b_work b_met b_tasks b_held b_uses b_reach := by
      intro c
      induction c with
      | zero =>
        intro s _ h1 h2
        refine br_t (by decide) (nm_r (nI_1 p) (hk s fun q hq => ?_))
        rcases Nat.lt_or_ge q p with z | z
        · exact h1 q z
        · have e : q = p := by omega
          subst e
          exact fun i hi j => h2 i (Nat.zero_le _) hi j
      | succ c ih =>
        intro s hc h1 h2
        rw [pk_m1]
        refine br_f (nI_pos (by omega)) ?_
        refine yw_endsFrom (b_ends := s) hN hm hp hn (by omega) ht h1 (fun r hr => ⟨pk_in (p * 25 + c) 1500 (by omega) (ix_25 p c), nm_r (by rw [pk_cl (p * 25 + c) (ix_25 p c)]) (nm_e (ih _ (by omega) (fun q hq i hi j => ?_) (fun i hi hin j => ?_)))⟩)
        · rw [pk_un (by omega)]; exact h1 q hq i hi j
        · by_cases e : i = c
          · subst e; rw [pk_us]; exact hr j
          · rw [pk_un (by omega)]; exact h2 i (by omega) hin j
    have := key (n + 1) s (Nat.le_refl _) hs (fun i h1 h2 => by omega)
    rw [pk_m1] at this
    exact this
theorem ne_neg {a : Nat} (h : a < 2 ^ 31) {x : Int32} (hx : x < 0) : ¬ nI a = x := by
  intro e
  rw [← e] at hx
  exact nI_pos h hx
theorem pk_subn {a b c : Nat} (h : a = b + c) : nI a - nI b = nI c := by rw [pk_sub (by omega)]; congr 1; omega
/-- the kinds' patterns -/
def yn_R (m : Nat) (g : Nat → gk_T) (b_roots : Nat → Int32) (kd : Nat → gk_T) : Prop := ∀ k, k < 3 → (b_roots k = -1 ∧ kd k = gk_none) ∨ ∃ p, p < m ∧ b_roots k = nI p ∧ kd k = g p
theorem yw_longest {m n k place : Nat} {g : Nat → gk_T} {t : Nat → Nat} {kd : Nat → gk_T} (hm : m ≤ 60) (hn : n ≤ 24) (hE : ∀ p, p < m → yn_E b_ends (g p) t n p) (hR : yn_R m g b_roots kd) (hk : k < 3) (hp : place ≤ n)
    {post : Int32 → Prop} (h : post (nI (ct_l kd t n k place))) : wpY_longest post (h_made, h_depth, (nI n), h_tokenCount, h_wrong, h_letterCount, h_ruleCount, h_makingCount, h_usefulRules, h_stateCount, h_wideCount, h_useCount, h_result, b_ops, b_firsts, b_seconds, b_sizes, b_stack, b_roots, b_text, b_ends, b_tokenKinds, b_tokenSizes, b_letters, b_begins, b_closes, b_empties, b_nexts, b_sets, b_leads, b_classes, b_newClasses, b_lefts, b_rights, b_counts, b_making, b_firstSets, b_followSets, b_states, b_looks, b_wides, b_work, b_met, b_tasks, b_held, b_uses, b_reach) (nI k) (nI place) := by
  have ck : (nI k).toNatClampNeg = k := nI_clamp (by omega)
  have ik : vp_in (nI k) 3 := vp_in_nI hk (by decide)
  have key : ∀ S : Int32, (∀ j, bt S j = true ↔ j ≤ n ∧ gk_acc (kd k) t place j) → ∃ f, wY_longest_36 post (nI place) S h_made h_depth (nI n) h_tokenCount h_wrong h_letterCount h_ruleCount h_makingCount h_usefulRules h_stateCount h_wideCount h_useCount h_result b_ops b_firsts b_seconds b_sizes b_stack b_roots b_text b_ends b_tokenKinds b_tokenSizes b_letters b_begins b_closes b_empties b_nexts b_sets b_leads b_classes b_newClasses b_lefts b_rights b_counts b_making b_firstSets b_followSets b_states b_looks b_wides b_work b_met b_tasks b_held b_uses b_reach f 0 (nI place) := by
    intro S hS
    refine loop_0 (fun f c s => wY_longest_36 post (nI place) S h_made h_depth (nI n) h_tokenCount h_wrong h_letterCount h_ruleCount h_makingCount h_usefulRules h_stateCount h_wideCount h_useCount h_result b_ops b_firsts b_seconds b_sizes b_stack b_roots b_text b_ends b_tokenKinds b_tokenSizes b_letters b_begins b_closes b_empties b_nexts b_sets b_leads b_classes b_newClasses b_lefts b_rights b_counts b_making b_firstSets b_followSets b_states b_looks b_wides b_work b_met b_tasks b_held b_uses b_reach f s (nI (place + c))) (fun c s => s = nI (lg_w (fun j => gk_acc (kd k) t place j) place (c - 1))) (n + 1 - place) 0 rfl ?_ ?_
    · intro f s hs
      subst hs
      refine br_t (nI_lt (by omega) (by omega)) ?_
      rw [show n + 1 - place - 1 = n - place by omega]
      exact h
    · intro f c s hc hs hk2
      subst hs
      refine br_f (nI_nlt (by omega) (by omega)) (br_c (fun z => ?_) (fun z => ?_))
      · have z := ((hS _).mp ((b_test S (n := place + c) (by omega)).mp z)).2
        refine nm_r (pk_subn (c := c) rfl) (nm_r (nI_1 _) (hk2 _ ?_))
        rw [Nat.add_sub_cancel]
        cases c with
        | zero => rfl
        | succ c => rw [lg_w_s z]
      · have z : ¬ gk_acc (kd k) t place (place + c) := fun y => z ((b_test S (n := place + c) (by omega)).mpr ((hS _).mpr ⟨by omega, y⟩))
        refine nm_r (nI_1 _) (hk2 _ ?_)
        rw [Nat.add_sub_cancel]
        cases c with
        | zero => rfl
        | succ c => rw [lg_w_n z]; rfl
  refine ⟨ik, ?_⟩
  rw [ck]
  rcases hR k hk with ⟨r1, r2⟩ | ⟨p, r0, r1, r2⟩
  · rw [r1]
    refine br_f (by decide) (key 0 fun j => ?_)
    rw [b_0, r2]
    exact ⟨(fun z => by cases z), fun z => absurd z.2 gk_acc_no⟩
  · rw [r1]
    refine br_t (nI_pos' (by omega)) ⟨ik, pk_in (p * 25 + place) 1500 (by omega) (ix_25 p place), nm_r (by rw [pk_cl (p * 25 + place) (ix_25 p place)]) (key _ fun j => ?_)⟩
    rw [r2]
    exact hE p r0 place hp j
/-- what cut leaves: c tokens -/
def ct_ok (kd : Nat → gk_T) (t : Nat → Nat) (n c : Nat) (K S : Nat → Int32) : Prop := ct_C kd t n c ∧ ∀ i, i < c → K i = nI (ct_k kd t n (ct_p kd t n i)) ∧ S i = nI (ct_n kd t n (ct_p kd t n i))
theorem yw_cut {m n : Nat} {g : Nat → gk_T} {lo op fi se : Nat → Nat} {t : Nat → Nat} {kd : Nat → gk_T} (hN : yn_N m g lo op fi se b_ops b_firsts b_seconds b_sizes) (hm : m ≤ 60) (hn : n ≤ 24) (ht : ∀ i, i < n → b_text i = nI (t i) ∧ t i < 3) (hR : yn_R m g b_roots kd)
    {post : SY → Prop} (h : ∀ e c K S, ct_ok kd t n c K S → post ((nI m), h_depth, (nI n), (nI c), (ct_w kd t n c), h_letterCount, h_ruleCount, h_makingCount, h_usefulRules, h_stateCount, h_wideCount, h_useCount, h_result, b_ops, b_firsts, b_seconds, b_sizes, b_stack, b_roots, b_text, e, K, S, b_letters, b_begins, b_closes, b_empties, b_nexts, b_sets, b_leads, b_classes, b_newClasses, b_lefts, b_rights, b_counts, b_making, b_firstSets, b_followSets, b_states, b_looks, b_wides, b_work, b_met, b_tasks, b_held, b_uses, b_reach)) : wpY_cut post ((nI m), h_depth, (nI n), h_tokenCount, h_wrong, h_letterCount, h_ruleCount, h_makingCount, h_usefulRules, h_stateCount, h_wideCount, h_useCount, h_result, b_ops, b_firsts, b_seconds, b_sizes, b_stack, b_roots, b_text, b_ends, b_tokenKinds, b_tokenSizes, b_letters, b_begins, b_closes, b_empties, b_nexts, b_sets, b_leads, b_classes, b_newClasses, b_lefts, b_rights, b_counts, b_making, b_firstSets, b_followSets, b_states, b_looks, b_wides, b_work, b_met, b_tasks, b_held, b_uses, b_reach) := by
  refine yw_match hN hm hn ht (fun e hE => ?_)
  have key : ∀ f c (K S : Nat → Int32), n - ct_p kd t n c < f → (∀ i, i < c → ct_p kd t n i < n ∧ ct_n kd t n (ct_p kd t n i) ≠ 0) → (∀ i, i < c → K i = nI (ct_k kd t n (ct_p kd t n i)) ∧ S i = nI (ct_n kd t n (ct_p kd t n i))) →
      wY_cut_17 post (nI m) h_depth (nI n) h_letterCount h_ruleCount h_makingCount h_usefulRules h_stateCount h_wideCount h_useCount h_result f (nI (ct_p kd t n c)) (nI c) (-4) b_ops b_firsts b_seconds b_sizes b_stack b_roots b_text e K S b_letters b_begins b_closes b_empties b_nexts b_sets b_leads b_classes b_newClasses b_lefts b_rights b_counts b_making b_firstSets b_followSets b_states b_looks b_wides b_work b_met b_tasks b_held b_uses b_reach := by
    intro f
    induction f with
    | zero => intro c K S hf; omega
    | succ f ih =>
      intro c K S hf h1 h2
      have h3 := ct_p_ge h1
      refine pk_le n (ct_p kd t n c) (fun z => ?_) (fun z => ?_)
      · have := h e c K S ⟨⟨h1, Or.inl z⟩, h2⟩
        unfold ct_w at this
        rw [if_neg (by omega)] at this
        exact this
      · refine br_t rfl ⟨3, ?_⟩
        have hw := fun k (hk : k < 3) (po : Int32 → Prop) (hpo : po (nI (ct_l kd t n k (ct_p kd t n c)))) => yw_longest (b_ends := e) (b_tokenKinds := K) (b_tokenSizes := S) (b_roots := b_roots) (place := ct_p kd t n c) hm hn hE hR hk (by omega) (post := po) hpo (h_made := nI m) (h_depth := h_depth) (h_tokenCount := nI c) (h_wrong := -4) (h_letterCount := h_letterCount) (h_ruleCount := h_ruleCount) (h_makingCount := h_makingCount) (h_usefulRules := h_usefulRules) (h_stateCount := h_stateCount) (h_wideCount := h_wideCount) (h_useCount := h_useCount) (h_result := h_result) (b_ops := b_ops) (b_firsts := b_firsts) (b_seconds := b_seconds) (b_sizes := b_sizes) (b_stack := b_stack) (b_text := b_text) (b_letters := b_letters) (b_begins := b_begins) (b_closes := b_closes) (b_empties := b_empties) (b_nexts := b_nexts) (b_sets := b_sets) (b_leads := b_leads) (b_classes := b_classes) (b_newClasses := b_newClasses) (b_lefts := b_lefts) (b_rights := b_rights) (b_counts := b_counts) (b_making := b_making) (b_firstSets := b_firstSets) (b_followSets := b_followSets) (b_states := b_states) (b_looks := b_looks) (b_wides := b_wides) (b_work := b_work) (b_met := b_met) (b_tasks := b_tasks) (b_held := b_held) (b_uses := b_uses) (b_reach := b_reach)
        have fin : ∀ b, b < 3 → b = ct_k kd t n (ct_p kd t n c) → wY_cut_38 post (wY_cut_17 post (nI m) h_depth (nI n) h_letterCount h_ruleCount h_makingCount h_usefulRules h_stateCount h_wideCount h_useCount h_result f) (nI (ct_p kd t n c)) (nI m) h_depth (nI n) (nI c) (-4) h_letterCount h_ruleCount h_makingCount h_usefulRules h_stateCount h_wideCount h_useCount h_result b_ops b_firsts b_seconds b_sizes b_stack b_roots b_text e K S b_letters b_begins b_closes b_empties b_nexts b_sets b_leads b_classes b_newClasses b_lefts b_rights b_counts b_making b_firstSets b_followSets b_states b_looks b_wides b_work b_met b_tasks b_held b_uses b_reach 1 (nI b) (nI 3) := by
          intro b hb3 hb
          refine br_t (nI_le (Nat.le_refl 3) (by decide)) (hw b hb3 _ ?_)
          have hsz : ct_l kd t n b (ct_p kd t n c) = ct_n kd t n (ct_p kd t n c) := by rw [hb]; rfl
          rw [hsz]
          have hle := ct_n_le (kd := kd) (t := t) (n := n) (ct_p kd t n c)
          refine pk_eq (ct_n kd t n (ct_p kd t n c)) 0 (fun y => ?_) (fun y => ?_)
          · obtain ⟨f', rfl⟩ : ∃ f', f = f' + 1 := ⟨f - 1, by omega⟩
            refine br_f (nI_ge z (by omega)) (br_f (ne_neg (by omega) (by decide)) ?_)
            have := h e c K S ⟨⟨h1, Or.inr y⟩, h2⟩
            unfold ct_w at this
            rw [if_pos z] at this
            exact this
          · have c24 : c < 24 := by omega
            refine ⟨vp_in_nI c24 (by decide), nm_r (by rw [nI_clamp (by omega)]) ⟨vp_in_nI c24 (by decide), nm_r (by rw [nI_clamp (by omega)]) (nm_r (nI_1 c) (nm_r (nI_add _ _) ?_))⟩⟩
            refine ih (c + 1) _ _ ?_ ?_ ?_
            · show n - (ct_p kd t n c + ct_n kd t n (ct_p kd t n c)) < f
              omega
            · intro i hi
              rcases Nat.lt_or_ge i c with w | w
              · exact h1 i w
              · have w : i = c := by omega
                subst w; exact ⟨z, y⟩
            · intro i hi
              rcases Nat.lt_or_ge i c with w | w
              · rw [pk_un (by omega), pk_un (by omega)]; exact h2 i w
              · have w : i = c := by omega
                subst w
                rw [pk_us, pk_us, hb]
                exact ⟨rfl, rfl⟩
        have two : ∀ b, b < 3 → b = ct_1 kd t n (ct_p kd t n c) → wY_cut_38 post (wY_cut_17 post (nI m) h_depth (nI n) h_letterCount h_ruleCount h_makingCount h_usefulRules h_stateCount h_wideCount h_useCount h_result f) (nI (ct_p kd t n c)) (nI m) h_depth (nI n) (nI c) (-4) h_letterCount h_ruleCount h_makingCount h_usefulRules h_stateCount h_wideCount h_useCount h_result b_ops b_firsts b_seconds b_sizes b_stack b_roots b_text e K S b_letters b_begins b_closes b_empties b_nexts b_sets b_leads b_classes b_newClasses b_lefts b_rights b_counts b_making b_firstSets b_followSets b_states b_looks b_wides b_work b_met b_tasks b_held b_uses b_reach 2 (nI b) (nI 2) := by
          intro b hb3 hb
          have l1 := lg_w_le (A := fun j => gk_acc (kd 2) t (ct_p kd t n c) j) (place := ct_p kd t n c) (n - ct_p kd t n c)
          have l2 := lg_w_le (A := fun j => gk_acc (kd b) t (ct_p kd t n c) j) (place := ct_p kd t n c) (n - ct_p kd t n c)
          refine br_f (nI_ge (a := 2) (b := 3) (by decide) (by decide)) (hw 2 (by omega) _ (hw b hb3 _ (pk_le (ct_l kd t n 2 (ct_p kd t n c)) (ct_l kd t n b (ct_p kd t n c)) (fun y => ?_) (fun y => ?_) rfl rfl (by unfold ct_l; omega) (by unfold ct_l; omega))))
          · refine nm_r (nI_1 2) (fin b hb3 ?_)
            unfold ct_k
            rw [hb] at y
            rw [if_pos y, hb]
          · refine nm_r (nI_1 2) (fin 2 (by omega) ?_)
            unfold ct_k
            rw [hb] at y
            rw [if_neg (by omega)]
        have l1 := lg_w_le (A := fun j => gk_acc (kd 1) t (ct_p kd t n c) j) (place := ct_p kd t n c) (n - ct_p kd t n c)
        have l2 := lg_w_le (A := fun j => gk_acc (kd 0) t (ct_p kd t n c) j) (place := ct_p kd t n c) (n - ct_p kd t n c)
        refine br_f (nI_ge (a := 1) (b := 3) (by decide) (by decide)) (hw 1 (by omega) _ (hw 0 (by omega) _ (pk_le (ct_l kd t n 1 (ct_p kd t n c)) (ct_l kd t n 0 (ct_p kd t n c)) (fun y => ?_) (fun y => ?_) rfl rfl (by unfold ct_l; omega) (by unfold ct_l; omega))))
        · refine nm_r (nI_1 1) (two 0 (by omega) ?_)
          unfold ct_1
          rw [if_pos y]
        · refine nm_r (nI_1 1) (two 1 (by omega) ?_)
          unfold ct_1
          rw [if_neg (by omega)]
  exact ⟨n + 1, key (n + 1) 0 b_tokenKinds b_tokenSizes (by omega) (fun i hi => absurd hi (Nat.not_lt_zero i)) (fun i hi => absurd hi (Nat.not_lt_zero i))⟩
end
section
/-! the component's tokens -/
variable {f_depth f_made f_textLength f_tokenCount f_wrongPlace f_ruleCount f_prepared f_rulesInUse f_stateCount f_wideCount f_gradeFound f_readHeight f_tokensTaken f_usedCount : Int32} {a_spotCounts a_ends a_arrows a_takers a_groups a_marks a_text a_tokenKinds a_tokenLengths a_lefts a_rights a_rightSizes a_beginSets a_followSets a_stateSteps a_wideSteps a_readStates a_readValues a_usedRules : Nat → Int32} {a_nextItems a_openItems a_restItems a_stateItems a_stateLooks a_wideLooks : Nat → Int64}
theorem xw_spotsAfter {s l : Nat} {x : Int32} (hs : s < 11) (hl : l < 3) {post : Int32 → Prop} (h : ∀ r, (∀ b, bt r b = true ↔ (∃ a, a < 7 ∧ bt x a = true ∧ bt (a_arrows (s * 7 + a)) b = true) ∧ bt (a_takers (s * 3 + l)) b = true) → post r) : wpX_spotsAfter post (f_depth, f_made, f_textLength, f_tokenCount, f_wrongPlace, f_ruleCount, f_prepared, f_rulesInUse, f_stateCount, f_wideCount, f_gradeFound, f_readHeight, f_tokensTaken, f_usedCount, a_spotCounts, a_ends, a_arrows, a_takers, a_groups, a_marks, a_text, a_tokenKinds, a_tokenLengths, a_lefts, a_rights, a_rightSizes, a_beginSets, a_followSets, a_nextItems, a_openItems, a_restItems, a_stateItems, a_stateSteps, a_stateLooks, a_wideSteps, a_wideLooks, a_readStates, a_readValues, a_usedRules) (nI s) x (nI l) := by
  refine loop_0 (fun k i z => wX_spotsAfter_6 post (nI s) x (nI l) f_depth f_made f_textLength f_tokenCount f_wrongPlace f_ruleCount f_prepared f_rulesInUse f_stateCount f_wideCount f_gradeFound f_readHeight f_tokensTaken f_usedCount a_spotCounts a_ends a_arrows a_takers a_groups a_marks a_text a_tokenKinds a_tokenLengths a_lefts a_rights a_rightSizes a_beginSets a_followSets a_nextItems a_openItems a_restItems a_stateItems a_stateSteps a_stateLooks a_wideSteps a_wideLooks a_readStates a_readValues a_usedRules k z (nI i)) (fun i z => ∀ b, bt z b = true ↔ ∃ a, a < i ∧ bt x a = true ∧ bt (a_arrows (s * 7 + a)) b = true) 7 0 ?_ ?_ ?_
  · intro b
    rw [b_0]
    exact ⟨(fun z => by cases z), fun ⟨a, ha, _⟩ => absurd ha (Nat.not_lt_zero a)⟩
  · intro k z hz
    refine br_t (nI_le (Nat.le_refl 7) (by decide)) ⟨pk_in (s * 3 + l) 33 (by omega) (ix_3 s l), h _ fun b => ?_⟩
    rw [pk_cl (s * 3 + l) (ix_3 s l), b_and, Bool.and_eq_true, hz b]
  · intro k i z hi hz hk
    refine br_f (nI_ge hi (by decide)) (br_c (fun y => ?_) (fun y => ?_))
    · have y := (b_test x (n := i) (by omega)).mp y
      refine ⟨pk_in (s * 7 + i) 77 (by omega) (ix_7 s i), nm_e (nm_r (nI_1 i) (hk _ fun b => ?_))⟩
      rw [pk_cl (s * 7 + i) (ix_7 s i), b_or, Bool.or_eq_true, hz b]
      constructor
      · rintro (⟨a, a1, a2⟩ | a)
        · exact ⟨a, by omega, a2⟩
        · exact ⟨i, by omega, y, a⟩
      · rintro ⟨a, a1, a2, a3⟩
        rcases Nat.lt_or_ge a i with w | w
        · exact Or.inl ⟨a, w, a2, a3⟩
        · have w : a = i := by omega
          subst w; exact Or.inr a3
    · have y : ¬ bt x i = true := fun w => y ((b_test x (by omega)).mpr w)
      refine nm_r (nI_1 i) (hk _ fun b => ?_)
      rw [hz b]
      constructor
      · rintro ⟨a, a1, a2⟩; exact ⟨a, by omega, a2⟩
      · rintro ⟨a, a1, a2, a3⟩
        rcases Nat.lt_or_ge a i with w | w
        · exact ⟨a, w, a2, a3⟩
        · have w : a = i := by omega
          subst w; exact absurd a2 y
/-- the set of spots after c letters from a place -/
def xs_W (x : gk_T) (t : Nat → Nat) (place c : Nat) (S : Int32) : Prop := (c = 0 → ∀ b, bt S b = true ↔ b = 6) ∧ (c ≠ 0 → ∀ b, bt S b = true ↔ gk_rs x t place c b)
theorem xs_Wt {ca ea aa ta : Nat → Int32} {s : Nat} {x : gk_T} (h : xs_S ca ea aa ta s x) {t : Nat → Nat} {place c : Nat} {S r : Int32} (hl : t (place + c) < 3) (hS : xs_W x t place c S) (hr : ∀ b, bt r b = true ↔ (∃ a, a < 7 ∧ bt S a = true ∧ bt (aa (s * 7 + a)) b = true) ∧ bt (ta (s * 3 + t (place + c))) b = true) : xs_W x t place (c + 1) r ∧ (r &&& ea s = 0 ↔ ¬ gk_acc x t place (place + (c + 1))) := by
  obtain ⟨g0, g1, g2, g3, g4, g5⟩ := h
  have key : ∀ b, bt r b = true ↔ gk_rs x t place (c + 1) b := by
    intro b
    rw [hr b, g5 _ _ hl]
    rcases Nat.eq_zero_or_pos c with z | z
    · subst z
      constructor
      · rintro ⟨⟨a, a1, a2, a3⟩, b1⟩
        have e := (hS.1 rfl a).mp a2
        subst e
        exact ⟨b1, Or.inl ⟨rfl, (g4 b).mp a3⟩⟩
      · rintro ⟨b1, ⟨_, b2⟩ | ⟨a, b2, _⟩⟩
        · exact ⟨⟨6, by omega, (hS.1 rfl 6).mpr rfl, (g4 b).mpr b2⟩, b1⟩
        · exact b2.elim
    · have hS := hS.2 (by omega)
      constructor
      · rintro ⟨⟨a, a1, a2, a3⟩, b1⟩
        have e := (hS a).mp a2
        exact ⟨b1, Or.inr ⟨a, e, (g3 a b (gk_rs_lt g0 e)).mp a3⟩⟩
      · rintro ⟨b1, ⟨b2, _⟩ | ⟨a, b2, b3⟩⟩
        · omega
        · have ha := gk_rs_lt g0 b2
          exact ⟨⟨a, by have := g0.1; omega, (hS a).mpr b2, (g3 a b ha).mpr b3⟩, b1⟩
  refine ⟨⟨fun z => by omega, fun _ => key⟩, ?_⟩
  constructor
  · intro z y
    obtain ⟨b, b1, b2⟩ := gk_acc_ne y (by omega)
    rw [Nat.add_sub_cancel_left] at b1
    have hb := gk_rs_lt g0 b1
    have := b_zero.mp z b (by have := g0.1; omega)
    rw [b_and, (key b).mpr b1, (g2 b).mpr (Or.inl b2)] at this
    cases this
  · intro z
    refine b_zero.mpr fun b _ => ?_
    rw [b_and]
    cases w1 : bt r b
    · rfl
    · cases w2 : bt (ea s) b
      · rfl
      · exfalso
        have b1 := (key b).mp w1
        rcases (g2 b).mp w2 with b2 | ⟨b2, _⟩
        · exact z (gk_acc_mk b1 b2)
        · have := gk_rs_lt g0 b1
          have := g0.1
          omega
theorem xs_W0 (x : gk_T) (t : Nat → Nat) (place : Nat) : xs_W x t place 0 64 := ⟨fun _ b => by rw [b_64, decide_eq_true_eq], fun z => absurd rfl z⟩
theorem xw_longestMatch {n k place : Nat} {t : Nat → Nat} {kd : Nat → gk_T} (hn : n ≤ 24) (hk : k < 3) (hp : place ≤ n) (ht : ∀ i, i < n → a_text i = nI (t i) ∧ t i < 3) (hS : xs_S a_spotCounts a_ends a_arrows a_takers (8 + k) (kd k))
    {post : Int32 → Prop} (h : post (nI (ct_l kd t n k place))) : wpX_longestMatch post (f_depth, f_made, (nI n), f_tokenCount, f_wrongPlace, f_ruleCount, f_prepared, f_rulesInUse, f_stateCount, f_wideCount, f_gradeFound, f_readHeight, f_tokensTaken, f_usedCount, a_spotCounts, a_ends, a_arrows, a_takers, a_groups, a_marks, a_text, a_tokenKinds, a_tokenLengths, a_lefts, a_rights, a_rightSizes, a_beginSets, a_followSets, a_nextItems, a_openItems, a_restItems, a_stateItems, a_stateSteps, a_stateLooks, a_wideSteps, a_wideLooks, a_readStates, a_readValues, a_usedRules) (nI k) (nI place) := by
  refine nm_r (ix_8 k) ?_
  refine loop_0 (fun f c s => wX_longestMatch_15 post (nI place) (nI (8 + k)) f_depth f_made (nI n) f_tokenCount f_wrongPlace f_ruleCount f_prepared f_rulesInUse f_stateCount f_wideCount f_gradeFound f_readHeight f_tokensTaken f_usedCount a_spotCounts a_ends a_arrows a_takers a_groups a_marks a_text a_tokenKinds a_tokenLengths a_lefts a_rights a_rightSizes a_beginSets a_followSets a_nextItems a_openItems a_restItems a_stateItems a_stateSteps a_stateLooks a_wideSteps a_wideLooks a_readStates a_readValues a_usedRules f s.1 s.2 (nI (place + c))) (fun c s => xs_W (kd k) t place c s.1 ∧ s.2 = nI (lg_w (fun j => gk_acc (kd k) t place j) place c)) (n - place) ((64 : Int32), (0 : Int32)) ⟨xs_W0 _ _ _, rfl⟩ ?_ ?_
  · rintro f ⟨s1, s2⟩ ⟨_, hs⟩
    have hs : s2 = nI (lg_w (fun j => gk_acc (kd k) t place j) place (n - place)) := hs
    subst hs
    exact br_t (nI_le (by omega) (by omega)) h
  · rintro f c ⟨s1, s2⟩ hc ⟨hw, hs⟩ hk2
    have hs : s2 = nI (lg_w (fun j => gk_acc (kd k) t place j) place c) := hs
    subst hs
    obtain ⟨t1, t2⟩ := ht (place + c) (by omega)
    refine br_f (nI_ge (by omega) (by omega)) ⟨vp_in_nI (by omega) (by decide), ?_⟩
    rw [nI_clamp (by omega : place + c < 2 ^ 31), t1]
    refine xw_spotsAfter (by omega) t2 (fun r hr => ?_)
    obtain ⟨w1, w2⟩ := xs_Wt hS t2 hw hr
    refine ⟨vp_in_nI (by omega) (by decide), ?_⟩
    rw [nI_clamp (by omega : 8 + k < 2 ^ 31)]
    refine br_c (fun z => ?_) (fun z => ?_)
    · refine nm_r (nI_1 _) (hk2 (r, _) ⟨w1, ?_⟩)
      rw [lg_w_n (w2.mp z)]
    · have z : gk_acc (kd k) t place (place + (c + 1)) := Classical.byContradiction fun y => z (w2.mpr y)
      refine nm_r (e' := nI (c + 1)) (by rw [nI_1]; exact pk_subn (by omega)) (nm_r (nI_1 _) (hk2 (r, _) ⟨w1, ?_⟩))
      rw [lg_w_s z]
      rfl
theorem xw_cutToken {n place c : Nat} {t : Nat → Nat} {kd : Nat → gk_T} (hn : n ≤ 24) (hp : place ≤ n) (hc : c < 24) (ht : ∀ i, i < n → a_text i = nI (t i) ∧ t i < 3) (hS : ∀ k, k < 3 → xs_S a_spotCounts a_ends a_arrows a_takers (8 + k) (kd k))
    {post : Int32 → SX → Prop} (h0 : ct_n kd t n place = 0 → post 0 (f_depth, f_made, (nI n), (nI c), f_wrongPlace, f_ruleCount, f_prepared, f_rulesInUse, f_stateCount, f_wideCount, f_gradeFound, f_readHeight, f_tokensTaken, f_usedCount, a_spotCounts, a_ends, a_arrows, a_takers, a_groups, a_marks, a_text, a_tokenKinds, a_tokenLengths, a_lefts, a_rights, a_rightSizes, a_beginSets, a_followSets, a_nextItems, a_openItems, a_restItems, a_stateItems, a_stateSteps, a_stateLooks, a_wideSteps, a_wideLooks, a_readStates, a_readValues, a_usedRules)) (h1 : ct_n kd t n place ≠ 0 → post (nI (ct_n kd t n place)) (f_depth, f_made, (nI n), (nI (c + 1)), f_wrongPlace, f_ruleCount, f_prepared, f_rulesInUse, f_stateCount, f_wideCount, f_gradeFound, f_readHeight, f_tokensTaken, f_usedCount, a_spotCounts, a_ends, a_arrows, a_takers, a_groups, a_marks, a_text, (upd a_tokenKinds c (nI (ct_k kd t n place))), (upd a_tokenLengths c (nI (ct_n kd t n place))), a_lefts, a_rights, a_rightSizes, a_beginSets, a_followSets, a_nextItems, a_openItems, a_restItems, a_stateItems, a_stateSteps, a_stateLooks, a_wideSteps, a_wideLooks, a_readStates, a_readValues, a_usedRules)) :
    wpX_cutToken post (f_depth, f_made, (nI n), (nI c), f_wrongPlace, f_ruleCount, f_prepared, f_rulesInUse, f_stateCount, f_wideCount, f_gradeFound, f_readHeight, f_tokensTaken, f_usedCount, a_spotCounts, a_ends, a_arrows, a_takers, a_groups, a_marks, a_text, a_tokenKinds, a_tokenLengths, a_lefts, a_rights, a_rightSizes, a_beginSets, a_followSets, a_nextItems, a_openItems, a_restItems, a_stateItems, a_stateSteps, a_stateLooks, a_wideSteps, a_wideLooks, a_readStates, a_readValues, a_usedRules) (nI place) := by
  refine ⟨4, ?_⟩
  have hl : ∀ k, ct_l kd t n k place ≤ 24 := fun k => by
    have := lg_w_le (A := fun j => gk_acc (kd k) t place j) (place := place) (n - place)
    unfold ct_l
    omega
  have hn24 : ct_n kd t n place ≤ 24 := hl _
  have fin : ∀ b, b = ct_k kd t n place → wX_cutToken_7 post (nI place) f_depth f_made (nI n) (nI c) f_wrongPlace f_ruleCount f_prepared f_rulesInUse f_stateCount f_wideCount f_gradeFound f_readHeight f_tokensTaken f_usedCount a_spotCounts a_ends a_arrows a_takers a_groups a_marks a_text a_tokenKinds a_tokenLengths a_lefts a_rights a_rightSizes a_beginSets a_followSets a_nextItems a_openItems a_restItems a_stateItems a_stateSteps a_stateLooks a_wideSteps a_wideLooks a_readStates a_readValues a_usedRules 1 (nI (ct_n kd t n place)) (nI b) (nI 3) := by
    intro b hb
    subst hb
    refine br_t (nI_le (Nat.le_refl 3) (by decide)) (pk_le (ct_n kd t n place) 0 (fun z => ?_) (fun z => ?_))
    · have z : ct_n kd t n place = 0 := by omega
      have := h0 z
      rw [z]
      exact this
    · exact ⟨vp_in_nI hc (by decide), nm_r (by rw [nI_clamp (by omega)]) ⟨vp_in_nI hc (by decide), nm_r (by rw [nI_clamp (by omega)]) (nm_r (nI_1 c) (h1 (by omega)))⟩⟩
  have two : ∀ b, b = ct_1 kd t n place → wX_cutToken_7 post (nI place) f_depth f_made (nI n) (nI c) f_wrongPlace f_ruleCount f_prepared f_rulesInUse f_stateCount f_wideCount f_gradeFound f_readHeight f_tokensTaken f_usedCount a_spotCounts a_ends a_arrows a_takers a_groups a_marks a_text a_tokenKinds a_tokenLengths a_lefts a_rights a_rightSizes a_beginSets a_followSets a_nextItems a_openItems a_restItems a_stateItems a_stateSteps a_stateLooks a_wideSteps a_wideLooks a_readStates a_readValues a_usedRules 2 (nI (ct_l kd t n b place)) (nI b) (nI 2) := by
    intro b hb
    have a1 := hl 2
    have a2 := hl b
    refine br_f (nI_ge (a := 2) (b := 3) (by decide) (by decide)) (xw_longestMatch hn (by omega) hp ht (hS 2 (by omega)) (pk_le (ct_l kd t n 2 place) (ct_l kd t n b place) (fun y => ?_) (fun y => ?_)))
    · refine nm_r (nI_1 2) ?_
      have e : b = ct_k kd t n place := by
        unfold ct_k
        rw [← hb, if_pos y]
      have := fin b e
      unfold ct_n at this
      rw [← e] at this
      exact this
    · refine nm_r (nI_1 2) ?_
      have e : 2 = ct_k kd t n place := by
        unfold ct_k
        rw [← hb, if_neg (by omega)]
      have := fin 2 e
      unfold ct_n at this
      rw [← e] at this
      exact this
  have one : wX_cutToken_7 post (nI place) f_depth f_made (nI n) (nI c) f_wrongPlace f_ruleCount f_prepared f_rulesInUse f_stateCount f_wideCount f_gradeFound f_readHeight f_tokensTaken f_usedCount a_spotCounts a_ends a_arrows a_takers a_groups a_marks a_text a_tokenKinds a_tokenLengths a_lefts a_rights a_rightSizes a_beginSets a_followSets a_nextItems a_openItems a_restItems a_stateItems a_stateSteps a_stateLooks a_wideSteps a_wideLooks a_readStates a_readValues a_usedRules 3 (nI (ct_l kd t n 0 place)) (nI 0) (nI 1) := by
    have a1 := hl 1
    have a2 := hl 0
    refine br_f (nI_ge (a := 1) (b := 3) (by decide) (by decide)) (xw_longestMatch hn (by omega) hp ht (hS 1 (by omega)) (pk_le (ct_l kd t n 1 place) (ct_l kd t n 0 place) (fun y => ?_) (fun y => ?_)))
    · refine nm_r (nI_1 1) (two 0 ?_)
      unfold ct_1
      rw [if_pos y]
    · refine nm_r (nI_1 1) (two 1 ?_)
      unfold ct_1
      rw [if_neg (by omega)]
  have a2 := hl 0
  refine br_f (nI_ge (a := 0) (b := 3) (by decide) (by decide)) (xw_longestMatch (k := 0) hn (by omega) hp ht (hS 0 (by omega)) (pk_le (ct_l kd t n 0 place) 0 (fun y => ?_) (fun y => ?_)))
  · refine nm_r (nI_1 0) ?_
    have e : ct_l kd t n 0 place = 0 := by omega
    rw [e] at one
    exact one
  · exact nm_r (nI_1 0) one
theorem xw_cutText {n : Nat} {t : Nat → Nat} {kd : Nat → gk_T} (hn : n ≤ 24) (ht : ∀ i, i < n → a_text i = nI (t i) ∧ t i < 3) (hS : ∀ k, k < 3 → xs_S a_spotCounts a_ends a_arrows a_takers (8 + k) (kd k))
    {post : SX → Prop} (h : ∀ c K S, ct_ok kd t n c K S → post (f_depth, f_made, (nI n), (nI c), (ct_w kd t n c), f_ruleCount, f_prepared, f_rulesInUse, f_stateCount, f_wideCount, f_gradeFound, f_readHeight, f_tokensTaken, f_usedCount, a_spotCounts, a_ends, a_arrows, a_takers, a_groups, a_marks, a_text, K, S, a_lefts, a_rights, a_rightSizes, a_beginSets, a_followSets, a_nextItems, a_openItems, a_restItems, a_stateItems, a_stateSteps, a_stateLooks, a_wideSteps, a_wideLooks, a_readStates, a_readValues, a_usedRules)) : wpX_cutText post (f_depth, f_made, (nI n), f_tokenCount, f_wrongPlace, f_ruleCount, f_prepared, f_rulesInUse, f_stateCount, f_wideCount, f_gradeFound, f_readHeight, f_tokensTaken, f_usedCount, a_spotCounts, a_ends, a_arrows, a_takers, a_groups, a_marks, a_text, a_tokenKinds, a_tokenLengths, a_lefts, a_rights, a_rightSizes, a_beginSets, a_followSets, a_nextItems, a_openItems, a_restItems, a_stateItems, a_stateSteps, a_stateLooks, a_wideSteps, a_wideLooks, a_readStates, a_readValues, a_usedRules) := by
  have key : ∀ f c (K S : Nat → Int32), n - ct_p kd t n c < f → (∀ i, i < c → ct_p kd t n i < n ∧ ct_n kd t n (ct_p kd t n i) ≠ 0) → (∀ i, i < c → K i = nI (ct_k kd t n (ct_p kd t n i)) ∧ S i = nI (ct_n kd t n (ct_p kd t n i))) →
      wX_cutText_15 post f (nI (ct_p kd t n c)) (nI c) f_depth f_made (nI n) (nI c) (-4) f_ruleCount f_prepared f_rulesInUse f_stateCount f_wideCount f_gradeFound f_readHeight f_tokensTaken f_usedCount a_spotCounts a_ends a_arrows a_takers a_groups a_marks a_text K S a_lefts a_rights a_rightSizes a_beginSets a_followSets a_nextItems a_openItems a_restItems a_stateItems a_stateSteps a_stateLooks a_wideSteps a_wideLooks a_readStates a_readValues a_usedRules := by
    intro f
    induction f with
    | zero => intro c K S hf; omega
    | succ f ih =>
      intro c K S hf h1 h2
      have h3 := ct_p_ge h1
      have hend : n ≤ ct_p kd t n c → post (f_depth, f_made, (nI n), (nI c), (-4), f_ruleCount, f_prepared, f_rulesInUse, f_stateCount, f_wideCount, f_gradeFound, f_readHeight, f_tokensTaken, f_usedCount, a_spotCounts, a_ends, a_arrows, a_takers, a_groups, a_marks, a_text, K, S, a_lefts, a_rights, a_rightSizes, a_beginSets, a_followSets, a_nextItems, a_openItems, a_restItems, a_stateItems, a_stateSteps, a_stateLooks, a_wideSteps, a_wideLooks, a_readStates, a_readValues, a_usedRules) := by
        intro z
        have := h c K S ⟨⟨h1, Or.inl z⟩, h2⟩
        unfold ct_w at this
        rw [if_neg (by omega)] at this
        exact this
      refine pk_le 24 c (fun z => hend (by omega)) (fun z24 => pk_le n (ct_p kd t n c) hend (fun z => ?_))
      have hle := ct_n_le (kd := kd) (t := t) (n := n) (ct_p kd t n c)
      refine xw_cutToken hn (by omega) z24 ht hS (fun y => ?_) (fun y => ?_)
      · refine br_t rfl ?_
        have := h c K S ⟨⟨h1, Or.inr y⟩, h2⟩
        unfold ct_w at this
        rw [if_pos z] at this
        exact this
      · refine br_f (nI_ne0 (by omega) (by omega)) (nm_r (nI_add _ _) (nm_r (nI_1 c) (ih (c + 1) _ _ ?_ ?_ ?_)))
        · show n - (ct_p kd t n c + ct_n kd t n (ct_p kd t n c)) < f
          omega
        · intro i hi
          rcases Nat.lt_or_ge i c with w | w
          · exact h1 i w
          · have w : i = c := by omega
            subst w; exact ⟨z, y⟩
        · intro i hi
          rcases Nat.lt_or_ge i c with w | w
          · rw [pk_un (by omega), pk_un (by omega)]; exact h2 i w
          · have w : i = c := by omega
            subst w
            rw [pk_us, pk_us]
            exact ⟨rfl, rfl⟩
  exact ⟨n + 1, key (n + 1) 0 a_tokenKinds a_tokenLengths (by omega) (fun i hi => absurd hi (Nat.not_lt_zero i)) (fun i hi => absurd hi (Nat.not_lt_zero i))⟩
end
section
/-! the component's useful rules, begins and follows -/
variable {f_depth f_made f_textLength f_tokenCount f_wrongPlace f_ruleCount f_prepared f_rulesInUse f_stateCount f_wideCount f_gradeFound f_readHeight f_tokensTaken f_usedCount : Int32} {a_spotCounts a_ends a_arrows a_takers a_groups a_marks a_text a_tokenKinds a_tokenLengths a_lefts a_rights a_rightSizes a_beginSets a_followSets a_stateSteps a_wideSteps a_readStates a_readValues a_usedRules : Nat → Int32} {a_nextItems a_openItems a_restItems a_stateItems a_stateLooks a_wideLooks : Nat → Int64}
theorem rd_i {σ : Type} {m : Nat} {sat : Nat → σ → Prop} {c : σ → Nat} {s : σ} : rd_J m sat c 0 s := by
  rcases Nat.eq_zero_or_pos m with h | h
  · exact Or.inl fun k hk => by omega
  · exact rd_0 h
theorem md_r {q m r : Nat} (h : r < m) : (q * m + r) % m = r := by rw [Nat.mul_comm, Nat.mul_add_mod, Nat.mod_eq_of_lt h]
theorem rd_kr {σ : Type} {m q r : Nat} {sat : Nat → σ → Prop} {c : σ → Nat} {s : σ} (hr : r < m) (h : rd_J m sat c (q * m + r) s) (hs : sat r s) : rd_J m sat c (q * m + (r + 1)) s := rd_keep (n := q * m + r) (by omega) h (by rw [md_r hr]; exact hs)
theorem rd_gr {σ : Type} {m q r : Nat} {sat : Nat → σ → Prop} {c : σ → Nat} {s s' : σ} (hr : r < m) (h : rd_J m sat c (q * m + r) s) (hs : ¬ sat r s) (hc : c s < c s') : rd_J m sat c (q * m + (r + 1)) s' := rd_grow (n := q * m + r) (by omega) h (by rw [md_r hr]; exact hs) hc
theorem cn_full {P : Nat → Prop} : ∀ {N : Nat}, cn_c P N = N → ∀ k, k < N → P k
  | 0, _, k, hk => absurd hk (Nat.not_lt_zero k)
  | N + 1, h, k, hk => by
    have a := cn_le P N
    have b := cn_ble (P N)
    have e : cn_c P N + cn_b (P N) = N + 1 := h
    rcases Nat.lt_or_ge k N with z | z
    · exact cn_full (N := N) (by omega) k z
    · have z : k = N := by omega
      subst z
      refine Classical.byContradiction fun y => ?_
      rw [cn_bf y] at e
      omega
theorem b_7b (i : Nat) : bt 7 i = decide (i < 3) := by
  rcases Nat.lt_or_ge i 32 with h | h
  · exact (by decide +kernel : ∀ i, i < 32 → bt 7 i = decide (i < 3)) i h
  · rw [b_big h, decide_eq_false (by omega)]
theorem b_8b (i : Nat) : bt 8 i = decide (i = 3) := by
  rcases Nat.lt_or_ge i 32 with h | h
  · exact (by decide +kernel : ∀ i, i < 32 → bt 8 i = decide (i = 3)) i h
  · rw [b_big h, decide_eq_false (by omega)]
theorem b_512 (i : Nat) : bt 512 i = decide (i = 9) := by
  rcases Nat.lt_or_ge i 32 with h | h
  · exact (by decide +kernel : ∀ i, i < 32 → bt 512 i = decide (i = 9)) i h
  · rw [b_big h, decide_eq_false (by omega)]
theorem b_not (x : Int32) {i : Nat} (hi : i < 32) : bt (x ^^^ (-1)) i = !bt x i := by rw [b_xor, b_m1 i hi]; cases bt x i <;> rfl
/-- x & ~y is 0: x lies in y -/
theorem b_sub {x y : Int32} : x &&& (y ^^^ (-1)) = 0 ↔ ∀ i, bt x i = true → bt y i = true := by
  rw [b_zero]
  constructor
  · intro h i hi
    rcases Nat.lt_or_ge i 32 with z | z
    · have := h i z
      rw [b_and, b_not y z, hi] at this
      cases e : bt y i
      · rw [e] at this; cases this
      · rfl
    · rw [b_big z] at hi; cases hi
  · intro h i hi
    rw [b_and, b_not y hi]
    cases e : bt x i
    · rfl
    · rw [h i e]; rfl
/-- x & 8 is 0: bit 3 is not set -/
theorem b_and8 (x : Int32) : x &&& 8 = 0 ↔ bt x 3 = false := by
  rw [b_zero]
  constructor
  · intro h
    have := h 3 (by omega)
    rw [b_and, b_8b] at this
    simpa using this
  · intro h i hi
    rw [b_and, b_8b]
    by_cases e : i = 3
    · subst e; rw [h]; rfl
    · simp [e]
/-- the rules, as the arrays hold them -/
def xg_G (g : rg_T) (a_lefts a_rights a_rightSizes : Nat → Int32) : Prop := ∀ r, r < rg_n g ∨ r = 9 → a_lefts r = nI (rg_l g r) ∧ a_rightSizes r = nI (rg_c g r) ∧ ∀ k, k < rg_c g r → a_rights (r * 4 + k) = nI (rg_h g r k)
theorem rg_b {g : rg_T} (hg : rg_ok g) {r : Nat} (hr : r < rg_n g ∨ r = 9) : r < 10 ∧ rg_l g r < 8 ∧ 3 ≤ rg_l g r ∧ rg_c g r ≤ 4 ∧ ∀ k, k < rg_c g r → rg_h g r k < 7 := by
  rcases hr with hr | rfl
  · have := hg.2.1 r hr
    have h9 := hg.1
    exact ⟨by omega, by omega, this.1, this.2.2.1, this.2.2.2⟩
  · refine ⟨by omega, by have := hg.2.2.1; omega, by have := hg.2.2.1; omega, by have := hg.2.2.2.1; omega, fun k hk => ?_⟩
    have : k = 0 := by have := hg.2.2.2.1; omega
    subst this
    have := hg.2.2.2.2
    omega
section
variable {g : rg_T}
theorem xw_rightSymbols (hg : rg_ok g) (hG : xg_G g a_lefts a_rights a_rightSizes) {r : Nat} (hr : r < rg_n g ∨ r = 9) {post : Int32 → Prop} (h : ∀ x, (∀ b, bt x b = true ↔ ∃ k, k < rg_c g r ∧ rg_h g r k = b) → post x) : wpX_rightSymbols post (f_depth, f_made, f_textLength, f_tokenCount, f_wrongPlace, f_ruleCount, f_prepared, f_rulesInUse, f_stateCount, f_wideCount, f_gradeFound, f_readHeight, f_tokensTaken, f_usedCount, a_spotCounts, a_ends, a_arrows, a_takers, a_groups, a_marks, a_text, a_tokenKinds, a_tokenLengths, a_lefts, a_rights, a_rightSizes, a_beginSets, a_followSets, a_nextItems, a_openItems, a_restItems, a_stateItems, a_stateSteps, a_stateLooks, a_wideSteps, a_wideLooks, a_readStates, a_readValues, a_usedRules) (nI r) := by
  obtain ⟨b1, b2, b3, b4, b5⟩ := rg_b hg hr
  obtain ⟨g1, g2, g3⟩ := hG r hr
  have cr : (nI r).toNatClampNeg = r := nI_clamp (by omega)
  refine loop_0 (fun f i s => wX_rightSymbols_4 post (nI r) f_depth f_made f_textLength f_tokenCount f_wrongPlace f_ruleCount f_prepared f_rulesInUse f_stateCount f_wideCount f_gradeFound f_readHeight f_tokensTaken f_usedCount a_spotCounts a_ends a_arrows a_takers a_groups a_marks a_text a_tokenKinds a_tokenLengths a_lefts a_rights a_rightSizes a_beginSets a_followSets a_nextItems a_openItems a_restItems a_stateItems a_stateSteps a_stateLooks a_wideSteps a_wideLooks a_readStates a_readValues a_usedRules f s (nI i)) (fun i s => ∀ b, bt s b = true ↔ ∃ k, k < i ∧ rg_h g r k = b) (rg_c g r) 0 ?_ ?_ ?_
  · intro b
    rw [b_0]
    exact ⟨(fun z => by cases z), fun ⟨k, hk, _⟩ => absurd hk (Nat.not_lt_zero k)⟩
  · intro f s hs
    refine ⟨vp_in_nI (by omega) (by decide), br_t ?_ (h s hs)⟩
    rw [cr, g2]; exact nI_le (Nat.le_refl _) (by omega)
  · intro f i s hi hs hk
    refine ⟨vp_in_nI (by omega) (by decide), br_f ?_ ⟨pk_in (r * 4 + i) 44 (by omega) (ix_4 r i), nm_e (nm_r (nI_1 i) (hk _ fun b => ?_))⟩⟩
    · rw [cr, g2]; exact nI_ge hi (by omega)
    · have hb := b5 i hi
      rw [pk_cl (r * 4 + i) (ix_4 r i), g3 i hi, b_or, Bool.or_eq_true, hs b, b_one _ (by omega), decide_eq_true_eq]
      constructor
      · rintro (⟨k, k1, k2⟩ | rfl)
        · exact ⟨k, by omega, k2⟩
        · exact ⟨i, by omega, rfl⟩
      · rintro ⟨k, k1, k2⟩
        rcases Nat.lt_or_ge k i with z | z
        · exact Or.inl ⟨k, z, k2⟩
        · have z : k = i := by omega
          subst z; exact Or.inr k2.symm
/-- how many variables a set of symbols holds -/
noncomputable def sv_c (s : Int32) : Nat := cn_c (fun x => bt s (x + 3) = true) 4
theorem sv_lt {s s' : Int32} {v : Nat} (h3 : 3 ≤ v) (h7 : v < 7) (h1 : ¬ bt s v = true) (h2 : bt s' v = true) (h : ∀ b, bt s b = true → bt s' b = true) : sv_c s < sv_c s' := by
  have e : v - 3 + 3 = v := by omega
  exact cn_lt (a := v - 3) (by rw [e]; exact h1) (by rw [e]; exact h2) (fun k _ z => h _ z) (by omega)
theorem sv_full {s : Int32} (h : sv_c s = 4) {v : Nat} (h3 : 3 ≤ v) (h7 : v < 7) : bt s v = true := by
  have := cn_full h (v - 3) (by omega)
  rwa [show v - 3 + 3 = v by omega] at this
theorem xw_endingSymbols (hg : rg_ok g) (hG : xg_G g a_lefts a_rights a_rightSizes) {post : Int32 → Prop} (h : ∀ x, (∀ b, bt x b = true ↔ en_E g b) → post x) : wpX_endingSymbols post (f_depth, f_made, f_textLength, f_tokenCount, f_wrongPlace, (nI (rg_n g)), f_prepared, f_rulesInUse, f_stateCount, f_wideCount, f_gradeFound, f_readHeight, f_tokensTaken, f_usedCount, a_spotCounts, a_ends, a_arrows, a_takers, a_groups, a_marks, a_text, a_tokenKinds, a_tokenLengths, a_lefts, a_rights, a_rightSizes, a_beginSets, a_followSets, a_nextItems, a_openItems, a_restItems, a_stateItems, a_stateSteps, a_stateLooks, a_wideSteps, a_wideLooks, a_readStates, a_readValues, a_usedRules) := by
  have h9 := hg.1
  refine loop_0 (fun f q s => wX_endingSymbols_5 post f_depth f_made f_textLength f_tokenCount f_wrongPlace (nI (rg_n g)) f_prepared f_rulesInUse f_stateCount f_wideCount f_gradeFound f_readHeight f_tokensTaken f_usedCount a_spotCounts a_ends a_arrows a_takers a_groups a_marks a_text a_tokenKinds a_tokenLengths a_lefts a_rights a_rightSizes a_beginSets a_followSets a_nextItems a_openItems a_restItems a_stateItems a_stateSteps a_stateLooks a_wideSteps a_wideLooks a_readStates a_readValues a_usedRules f s (nI q)) (fun q s => (∀ b, b < 3 → bt s b = true) ∧ (∀ b, bt s b = true → en_E g b) ∧ rd_J (rg_n g) (fun r s => (∀ k, k < rg_c g r → bt s (rg_h g r k) = true) → bt s (rg_l g r) = true) sv_c (q * rg_n g) s) 4 7 ?_ ?_ ?_
  · refine ⟨fun b hb => by rw [b_7b, decide_eq_true hb], fun b hb => ?_, by rw [Nat.zero_mul]; exact rd_i⟩
    rw [b_7b, decide_eq_true_eq] at hb
    exact (en_self g).1 b hb
  · rintro f s ⟨s1, s2, s3⟩
    refine br_t (nI_le (Nat.le_refl 4) (by decide)) (h s fun b => ⟨s2 b, fun hb => ?_⟩)
    have cl := rd_end s3 (cn_le _ 4) (by omega) (fun e r hr _ => sv_full e (hg.2.1 r hr).1 (hg.2.1 r hr).2.1)
    exact hb (fun b => bt s b = true) ⟨s1, fun r hr hi => cl r hr hi⟩
  · rintro f q s hq ⟨s1, s2, s3⟩ hk
    refine br_f (nI_ge hq (by decide)) ?_
    refine loop_0 (fun f' r s => wX_endingSymbols_12 post (wX_endingSymbols_5 post f_depth f_made f_textLength f_tokenCount f_wrongPlace (nI (rg_n g)) f_prepared f_rulesInUse f_stateCount f_wideCount f_gradeFound f_readHeight f_tokensTaken f_usedCount a_spotCounts a_ends a_arrows a_takers a_groups a_marks a_text a_tokenKinds a_tokenLengths a_lefts a_rights a_rightSizes a_beginSets a_followSets a_nextItems a_openItems a_restItems a_stateItems a_stateSteps a_stateLooks a_wideSteps a_wideLooks a_readStates a_readValues a_usedRules f) (nI q) f_depth f_made f_textLength f_tokenCount f_wrongPlace (nI (rg_n g)) f_prepared f_rulesInUse f_stateCount f_wideCount f_gradeFound f_readHeight f_tokensTaken f_usedCount a_spotCounts a_ends a_arrows a_takers a_groups a_marks a_text a_tokenKinds a_tokenLengths a_lefts a_rights a_rightSizes a_beginSets a_followSets a_nextItems a_openItems a_restItems a_stateItems a_stateSteps a_stateLooks a_wideSteps a_wideLooks a_readStates a_readValues a_usedRules f' s (nI r)) (fun r s => (∀ b, b < 3 → bt s b = true) ∧ (∀ b, bt s b = true → en_E g b) ∧ rd_J (rg_n g) (fun r s => (∀ k, k < rg_c g r → bt s (rg_h g r k) = true) → bt s (rg_l g r) = true) sv_c (q * rg_n g + r) s) (rg_n g) s ⟨s1, s2, s3⟩ ?_ ?_
    · rintro f' s hs
      refine br_t (nI_le (Nat.le_refl _) (by omega)) (nm_r (nI_1 q) (hk s ?_))
      rw [Nat.succ_mul]; exact hs
    · rintro f' r s hr ⟨s1, s2, s3⟩ hk2
      obtain ⟨b1, b2, b3, b4, b5⟩ := rg_b hg (Or.inl hr)
      obtain ⟨g1, g2, g3⟩ := hG r (Or.inl hr)
      refine br_f (nI_ge hr (by omega)) (xw_rightSymbols hg hG (Or.inl hr) (fun x hx => br_c (fun z => ?_) (fun z => ?_)))
      · have z := b_sub.mp z
        have hin : ∀ k, k < rg_c g r → bt s (rg_h g r k) = true := fun k hk => z _ ((hx _).mpr ⟨k, hk, rfl⟩)
        have hl7 := (hg.2.1 r hr).2.1
        refine ⟨vp_in_nI (by omega) (by decide), nm_e (nm_r (nI_1 r) (hk2 _ ?_))⟩
        rw [nI_clamp (by omega : r < 2 ^ 31), g1]
        have e : ∀ b, bt (s ||| (1 : Int32) <<< (nI (rg_l g r) &&& 31)) b = true ↔ bt s b = true ∨ b = rg_l g r := by
          intro b
          rw [b_or, Bool.or_eq_true, b_one _ (by omega), decide_eq_true_eq]
        refine ⟨fun b hb => (e b).mpr (Or.inl (s1 b hb)), fun b hb => ?_, ?_⟩
        · rcases (e b).mp hb with y | rfl
          · exact s2 b y
          · exact (en_self g).2 r hr (fun i hi => s2 _ (hin i hi))
        · by_cases y : bt s (rg_l g r) = true
          · have es : s ||| (1 : Int32) <<< (nI (rg_l g r) &&& 31) = s := by
              apply b_ext
              intro i _
              cases w : bt s i
              · cases w2 : bt (s ||| (1 : Int32) <<< (nI (rg_l g r) &&& 31)) i
                · rfl
                · rcases (e i).mp w2 with k | rfl
                  · rw [w] at k; cases k
                  · rw [w] at y; cases y
              · exact (e i).mpr (Or.inl w)
            rw [es]
            exact rd_kr hr s3 (fun _ => y)
          · exact rd_gr hr s3 (fun k => y (k hin)) (sv_lt b3 hl7 y ((e _).mpr (Or.inr rfl)) (fun b hb => (e b).mpr (Or.inl hb)))
      · refine nm_r (nI_1 r) (hk2 _ ⟨s1, s2, rd_kr hr s3 ?_⟩)
        intro k
        exact absurd (b_sub.mpr fun b hb => by
          obtain ⟨i, i1, rfl⟩ := (hx b).mp hb
          exact k i i1) z
/-- in use: the useful rules, and the first one -/
def xg_U (g : rg_T) (u : Int32) : Prop := ∀ r, bt u r = true ↔ us_U g r ∨ r = 9
noncomputable def sv_d (s : Int32 × Int32) : Nat := sv_c s.1 - 1
def xr_s (g : rg_T) (r : Nat) (s : Int32 × Int32) : Prop := (∀ k, k < rg_c g r → en_E g (rg_h g r k)) → bt s.1 (rg_l g r) = true → ∀ k, k < rg_c g r → 3 ≤ rg_h g r k → bt s.1 (rg_h g r k) = true
/-- what holds at round q before rule r -/
def xr_I (g : rg_T) (q r : Nat) (s : Int32 × Int32) : Prop :=
  (∀ b, bt s.1 b = true → co_C g b) ∧ (∀ r', bt s.2 r' = true → us_U g r' ∨ r' = 9) ∧ (en_E g 3 → bt s.1 3 = true) ∧ (en_E g 3 → rd_J (rg_n g) (xr_s g) sv_d (q * rg_n g + r) s) ∧
  (∀ r', q = 4 ∨ (q = 3 ∧ r' < r) → r' < rg_n g → (∀ k, k < rg_c g r' → en_E g (rg_h g r' k)) → bt s.1 (rg_l g r') = true → bt s.2 r' = true) ∧ bt s.2 9 = true
theorem rd_congr {σ : Type} {m n : Nat} {sat : Nat → σ → Prop} {c : σ → Nat} {s s' : σ} (h1 : ∀ k, k < m → sat k s → sat k s') (h2 : c s = c s') (hm : 0 < m) (h : rd_J m sat c n s) : rd_J m sat c n s' := by
  rcases h with h | ⟨a, a1, a2, a3, a4⟩
  · exact Or.inl fun k hk => h1 k hk (h k hk)
  · exact Or.inr ⟨a, a1, a2, by rw [← h2]; exact a3, fun i i1 i2 => h1 _ (Nat.mod_lt _ hm) (a4 i i1 i2)⟩
theorem sv_pos {s : Int32} (h : bt s 3 = true) : 1 ≤ sv_c s := by
  have := cn_lt (P := fun _ => False) (Q := fun x => bt s (x + 3) = true) (a := 0) id h (N := 4) (fun _ _ z => z.elim) (by omega)
  unfold sv_c
  omega
theorem sv_eq {s s' : Int32} (h : ∀ v, 3 ≤ v → v < 7 → (bt s v = true ↔ bt s' v = true)) : sv_c s = sv_c s' := cn_eq fun k hk => h (k + 3) (by omega) (by omega)
/-- from round 3 on what is reached is closed -/
theorem xr_cl (hg : rg_ok g) {q r : Nat} {s : Int32 × Int32} (h : xr_I g q r s) (hq : 3 ≤ q) (h3 : en_E g 3) : ∀ k, k < rg_n g → xr_s g k s := by
  have h1 := sv_pos (h.2.2.1 h3)
  have h4 : sv_c s.1 ≤ 4 := cn_le _ 4
  refine rd_end (B := 3) (h.2.2.2.1 h3) (by unfold sv_d; omega) ?_ (fun e r hr _ _ k hk hv => ?_)
  · have : rg_n g * 3 ≤ q * rg_n g := by rw [Nat.mul_comm]; exact Nat.mul_le_mul_right _ hq
    omega
  · unfold sv_d at e
    exact sv_full (by omega) hv ((hg.2.1 r hr).2.2.2 k hk)
theorem xr_end (hg : rg_ok g) {s : Int32 × Int32} (h : xr_I g 4 0 s) : xg_U g s.2 := by
  intro r
  refine ⟨h.2.1 r, fun z => ?_⟩
  rcases z with z | rfl
  · have h3 := us_3 z
    have cl := xr_cl hg h (by omega) h3
    refine h.2.2.2.2.1 r (Or.inl rfl) z.1 z.2.1 ?_
    have := z.2.2 (fun b => b < 3 ∨ bt s.1 b = true) ⟨Or.inr (h.2.2.1 h3), fun r hr he hl i hi => ?_⟩
    · rcases this with y | y
      · have := (hg.2.1 r z.1).1; omega
      · exact y
    · rcases Nat.lt_or_ge (rg_h g r i) 3 with y | y
      · exact Or.inl y
      · refine Or.inr (cl r hr he ?_ i hi y)
        rcases hl with y | y
        · have := (hg.2.1 r hr).1; omega
        · exact y
  · exact h.2.2.2.2.2
/-- a rule that is not used changes nothing -/
theorem xr_skip {q r : Nat} {s : Int32 × Int32} (h : xr_I g q r s) (hr : r < rg_n g) (hn : (∀ k, k < rg_c g r → en_E g (rg_h g r k)) → ¬ bt s.1 (rg_l g r) = true) : xr_I g q (r + 1) s := by
  obtain ⟨h1, h2, h3, h4, h5, h6⟩ := h
  refine ⟨h1, h2, h3, fun e => rd_kr hr (h4 e) ?_, fun r' hr' a b c => ?_, h6⟩
  · exact fun a b => absurd b (hn a)
  · by_cases e : r' = r
    · subst e; exact absurd c (hn b)
    · exact h5 r' (by omega) a b c
theorem xr_use (hg : rg_ok g) {q r : Nat} {s : Int32 × Int32} {x : Int32} (h : xr_I g q r s) (hq : q < 4) (hr : r < rg_n g) (hx : ∀ b, bt x b = true ↔ ∃ k, k < rg_c g r ∧ rg_h g r k = b) (he : ∀ k, k < rg_c g r → en_E g (rg_h g r k)) (hl : bt s.1 (rg_l g r) = true) : xr_I g q (r + 1) (s.1 ||| x, s.2 ||| (1 : Int32) <<< (nI r &&& 31)) := by
  have hI := h
  obtain ⟨h1, h2, h3, h4, h5, h6⟩ := h
  have h9 := hg.1
  have e1 : ∀ b, bt (s.1 ||| x) b = true ↔ bt s.1 b = true ∨ ∃ k, k < rg_c g r ∧ rg_h g r k = b := fun b => by rw [b_or, Bool.or_eq_true, hx]
  have e2 : ∀ b, bt (s.2 ||| (1 : Int32) <<< (nI r &&& 31)) b = true ↔ bt s.2 b = true ∨ b = r := fun b => by rw [b_or, Bool.or_eq_true, b_one _ (by omega), decide_eq_true_eq]
  have hU : us_U g r := ⟨hr, he, h1 _ hl⟩
  have same : xr_s g r s → ∀ v, 3 ≤ v → v < 7 → (bt s.1 v = true ↔ bt (s.1 ||| x) v = true) := by
    intro hs v v3 v7
    rw [e1]
    refine ⟨Or.inl, fun z => ?_⟩
    rcases z with z | ⟨k, k1, rfl⟩
    · exact z
    · exact hs he hl k k1 v3
  refine ⟨fun b hb => ?_, fun r' hr' => ?_, fun e => (e1 3).mpr (Or.inl (h3 e)), fun e => ?_, fun r' hr' a b c => ?_, (e2 9).mpr (Or.inl h6)⟩
  · rcases (e1 b).mp hb with z | ⟨k, k1, rfl⟩
    · exact h1 b z
    · exact (co_self g).2 r hr he (h1 _ hl) k k1
  · rcases (e2 r').mp hr' with z | rfl
    · exact h2 r' z
    · exact Or.inl hU
  · by_cases hs : xr_s g r s
    · have sm := same hs
      refine rd_congr (s := s) (fun k hk z a b i i1 i3 => ?_) ?_ (by omega) (rd_kr hr (h4 e) hs)
      · have l1 := hg.2.1 k hk
        exact (sm _ i3 (l1.2.2.2 i i1)).mp (z a ((sm _ l1.1 l1.2.1).mpr b) i i1 i3)
      · unfold sv_d
        rw [sv_eq sm]
    · refine rd_gr hr (h4 e) hs ?_
      have : ∃ k, k < rg_c g r ∧ 3 ≤ rg_h g r k ∧ ¬ bt s.1 (rg_h g r k) = true := by
        refine Classical.byContradiction fun z => hs fun _ _ k k1 k3 => ?_
        refine Classical.byContradiction fun y => z ⟨k, k1, k3, y⟩
      obtain ⟨k, k1, k3, k4⟩ := this
      have := sv_lt k3 ((hg.2.1 r hr).2.2.2 k k1) k4 ((e1 _).mpr (Or.inr ⟨k, k1, rfl⟩)) (fun b hb => (e1 b).mpr (Or.inl hb))
      have p := sv_pos (h3 e)
      unfold sv_d
      show sv_c s.1 - 1 < sv_c (s.1 ||| x) - 1
      omega
  · by_cases er : r' = r
    · exact (e2 r').mpr (Or.inr er)
    · have q3 : q = 3 ∧ r' < r := by omega
      refine (e2 r').mpr (Or.inl (h5 r' (by omega) a b ?_))
      rcases co_3 (h1 _ hl) with y | y
      · -- symbol 3 ends: its own rule is used
        have y3 : en_E g 3 := by rw [← y]; exact (en_self g).2 r hr he
        have cl := xr_cl hg hI (by omega) y3 r hr
        have l1 := hg.2.1 r' a
        exact (same cl _ l1.1 l1.2.1).mpr c
      · have cl := xr_cl hg hI (by omega) y r hr
        have l1 := hg.2.1 r' a
        exact (same cl _ l1.1 l1.2.1).mpr c
theorem xw_findRulesInUse (hg : rg_ok g) (hG : xg_G g a_lefts a_rights a_rightSizes) {post : SX → Prop} (h : ∀ u, xg_U g u → post (f_depth, f_made, f_textLength, f_tokenCount, f_wrongPlace, (nI (rg_n g)), f_prepared, u, f_stateCount, f_wideCount, f_gradeFound, f_readHeight, f_tokensTaken, f_usedCount, a_spotCounts, a_ends, a_arrows, a_takers, a_groups, a_marks, a_text, a_tokenKinds, a_tokenLengths, a_lefts, a_rights, a_rightSizes, a_beginSets, a_followSets, a_nextItems, a_openItems, a_restItems, a_stateItems, a_stateSteps, a_stateLooks, a_wideSteps, a_wideLooks, a_readStates, a_readValues, a_usedRules)) : wpX_findRulesInUse post (f_depth, f_made, f_textLength, f_tokenCount, f_wrongPlace, (nI (rg_n g)), f_prepared, f_rulesInUse, f_stateCount, f_wideCount, f_gradeFound, f_readHeight, f_tokensTaken, f_usedCount, a_spotCounts, a_ends, a_arrows, a_takers, a_groups, a_marks, a_text, a_tokenKinds, a_tokenLengths, a_lefts, a_rights, a_rightSizes, a_beginSets, a_followSets, a_nextItems, a_openItems, a_restItems, a_stateItems, a_stateSteps, a_stateLooks, a_wideSteps, a_wideLooks, a_readStates, a_readValues, a_usedRules) := by
  have h9 := hg.1
  refine xw_endingSymbols hg hG (fun E hE => nm_e ?_)
  have h3 : ∀ b, bt (E &&& 8) b = true ↔ b = 3 ∧ en_E g 3 := by
    intro b
    rw [b_and, Bool.and_eq_true, b_8b, decide_eq_true_eq, hE]
    constructor
    · rintro ⟨a, rfl⟩; exact ⟨rfl, a⟩
    · rintro ⟨rfl, a⟩; exact ⟨a, rfl⟩
  refine loop_0 (fun f q s => wX_findRulesInUse_19 post E f_depth f_made f_textLength f_tokenCount f_wrongPlace (nI (rg_n g)) f_prepared f_stateCount f_wideCount f_gradeFound f_readHeight f_tokensTaken f_usedCount a_spotCounts a_ends a_arrows a_takers a_groups a_marks a_text a_tokenKinds a_tokenLengths a_lefts a_rights a_rightSizes a_beginSets a_followSets a_nextItems a_openItems a_restItems a_stateItems a_stateSteps a_stateLooks a_wideSteps a_wideLooks a_readStates a_readValues a_usedRules f s.1 (nI q) s.2) (fun q s => xr_I g q 0 s) 4 (E &&& 8, (512 : Int32)) ?_ ?_ ?_
  · refine ⟨fun b hb => ?_, fun r hr => ?_, fun e => (h3 3).mpr ⟨rfl, e⟩, fun e => ?_, fun r' hr' => by omega, by show bt 512 9 = true; rw [b_512]; rfl⟩
    · obtain ⟨rfl, _⟩ := (h3 b).mp hb
      exact (co_self g).1
    · have hr : bt 512 r = true := hr
      rw [b_512, decide_eq_true_eq] at hr
      exact Or.inr hr
    · rw [Nat.zero_mul]; exact rd_i
  · rintro f ⟨s, u⟩ hs
    exact br_t (nI_le (Nat.le_refl 4) (by decide)) (h u (xr_end hg hs))
  · rintro f q ⟨s, u⟩ hq hs hk
    refine br_f (nI_ge hq (by decide)) ?_
    refine loop_0 (fun f' r s => wX_findRulesInUse_27 post (wX_findRulesInUse_19 post E f_depth f_made f_textLength f_tokenCount f_wrongPlace (nI (rg_n g)) f_prepared f_stateCount f_wideCount f_gradeFound f_readHeight f_tokensTaken f_usedCount a_spotCounts a_ends a_arrows a_takers a_groups a_marks a_text a_tokenKinds a_tokenLengths a_lefts a_rights a_rightSizes a_beginSets a_followSets a_nextItems a_openItems a_restItems a_stateItems a_stateSteps a_stateLooks a_wideSteps a_wideLooks a_readStates a_readValues a_usedRules f) E (nI q) f_depth f_made f_textLength f_tokenCount f_wrongPlace (nI (rg_n g)) f_prepared f_stateCount f_wideCount f_gradeFound f_readHeight f_tokensTaken f_usedCount a_spotCounts a_ends a_arrows a_takers a_groups a_marks a_text a_tokenKinds a_tokenLengths a_lefts a_rights a_rightSizes a_beginSets a_followSets a_nextItems a_openItems a_restItems a_stateItems a_stateSteps a_stateLooks a_wideSteps a_wideLooks a_readStates a_readValues a_usedRules f' s.1 (nI r) s.2) (fun r s => xr_I g q r s) (rg_n g) (s, u) hs ?_ ?_
    · rintro f' ⟨s, u⟩ hs
      refine br_t (nI_le (Nat.le_refl _) (by omega)) (nm_r (nI_1 q) (hk (s, u) ?_))
      obtain ⟨h1, h2, h3, h4, h5, h6⟩ := hs
      refine ⟨h1, h2, h3, fun e => ?_, fun r' hr' a b c => h5 r' ?_ a b c, h6⟩
      · rw [Nat.succ_mul]; exact h4 e
      · omega
    · rintro f' r ⟨s, u⟩ hr hs hk2
      obtain ⟨b1, b2, b3, b4, b5⟩ := rg_b hg (Or.inl hr)
      obtain ⟨g1, g2, g3⟩ := hG r (Or.inl hr)
      refine br_f (nI_ge hr (by omega)) (xw_rightSymbols hg hG (Or.inl hr) (fun x hx => ⟨vp_in_nI (by omega) (by decide), ?_⟩))
      rw [nI_clamp (by omega : r < 2 ^ 31), g1]
      have hen : x &&& (E ^^^ (-1)) = 0 ↔ ∀ k, k < rg_c g r → en_E g (rg_h g r k) := by
        rw [b_sub]
        constructor
        · intro z k hk; exact (hE _).mp (z _ ((hx _).mpr ⟨k, hk, rfl⟩))
        · intro z b hb
          obtain ⟨k, k1, rfl⟩ := (hx b).mp hb
          exact (hE _).mpr (z k k1)
      refine br_c (fun z => ?_) (fun z => ?_)
      · have z := (b_test s (n := rg_l g r) (by omega)).mp z
        refine br_c (fun y => ?_) (fun y => ?_)
        · exact nm_e (nm_e (nm_r (nI_1 r) (hk2 _ (xr_use hg hs hq hr hx (hen.mp y) z))))
        · exact nm_r (nI_1 r) (hk2 (s, u) (xr_skip hs hr fun k => absurd (hen.mpr k) y))
      · refine nm_r (nI_1 r) (hk2 (s, u) (xr_skip hs hr fun _ k => z ((b_test s (by omega)).mpr k)))
end
end
section
/-! the component's begins and follows -/
variable {f_depth f_made f_textLength f_tokenCount f_wrongPlace f_ruleCount f_prepared f_rulesInUse f_stateCount f_wideCount f_gradeFound f_readHeight f_tokensTaken f_usedCount : Int32} {a_spotCounts a_ends a_arrows a_takers a_groups a_marks a_text a_tokenKinds a_tokenLengths a_lefts a_rights a_rightSizes a_beginSets a_followSets a_stateSteps a_wideSteps a_readStates a_readValues a_usedRules : Nat → Int32} {a_nextItems a_openItems a_restItems a_stateItems a_stateLooks a_wideLooks : Nat → Int64}
section
variable {g : rg_T}
/-- sets of looks, as an array holds them -/
def xb_F (a : Nat → Int32) (s b : Nat) : Prop := bt (a s) b = true
/-- no bits but the first four -/
def xb_4 (a : Nat → Int32) : Prop := ∀ s b, s < 7 → bt (a s) b = true → b < 4
theorem xw_beginsFrom (hg : rg_ok g) (hG : xg_G g a_lefts a_rights a_rightSizes) (h4 : xb_4 a_beginSets) {r p : Nat} (hr : r < rg_n g ∨ r = 9) (hp : p ≤ rg_c g r) {post : Int32 → Prop} (h : ∀ x, (∀ b, bt x b = true ↔ fs_b (xb_F a_beginSets) (rg_h g r) (rg_c g r - p) p b) → post x) : wpX_beginsFrom post (f_depth, f_made, f_textLength, f_tokenCount, f_wrongPlace, f_ruleCount, f_prepared, f_rulesInUse, f_stateCount, f_wideCount, f_gradeFound, f_readHeight, f_tokensTaken, f_usedCount, a_spotCounts, a_ends, a_arrows, a_takers, a_groups, a_marks, a_text, a_tokenKinds, a_tokenLengths, a_lefts, a_rights, a_rightSizes, a_beginSets, a_followSets, a_nextItems, a_openItems, a_restItems, a_stateItems, a_stateSteps, a_stateLooks, a_wideSteps, a_wideLooks, a_readStates, a_readValues, a_usedRules) (nI r) (nI p) := by
  obtain ⟨b1, b2, b3, b4, b5⟩ := rg_b hg hr
  obtain ⟨g1, g2, g3⟩ := hG r hr
  have cr : (nI r).toNatClampNeg = r := nI_clamp (by omega)
  refine loop_0 (fun f i s => wX_beginsFrom_5 post (nI r) f_depth f_made f_textLength f_tokenCount f_wrongPlace f_ruleCount f_prepared f_rulesInUse f_stateCount f_wideCount f_gradeFound f_readHeight f_tokensTaken f_usedCount a_spotCounts a_ends a_arrows a_takers a_groups a_marks a_text a_tokenKinds a_tokenLengths a_lefts a_rights a_rightSizes a_beginSets a_followSets a_nextItems a_openItems a_restItems a_stateItems a_stateSteps a_stateLooks a_wideSteps a_wideLooks a_readStates a_readValues a_usedRules f s (nI (p + i))) (fun i s => (∀ b, bt s b = true → b < 3) ∧ ∀ b, fs_b (xb_F a_beginSets) (rg_h g r) (rg_c g r - p) p b ↔ bt s b = true ∨ fs_b (xb_F a_beginSets) (rg_h g r) (rg_c g r - (p + i)) (p + i) b) (rg_c g r - p) 0 ?_ ?_ ?_
  · refine ⟨(fun b hb => by rw [b_0] at hb; cases hb), fun b => ?_⟩
    rw [b_0]
    exact ⟨Or.inr, fun z => by
      rcases z with z | z
      · cases z
      · exact z⟩
  · rintro f s ⟨s1, s2⟩
    rw [show p + (rg_c g r - p) = rg_c g r by omega] at s2 ⊢
    refine ⟨vp_in_nI (by omega) (by decide), br_t ?_ (h _ fun b => ?_)⟩
    · rw [cr, g2]; exact nI_le (Nat.le_refl _) (by omega)
    · rw [s2 b, Nat.sub_self, b_or, Bool.or_eq_true, b_8b, decide_eq_true_eq]
      exact Iff.rfl
  · rintro f i s hi ⟨s1, s2⟩ hk
    have hc : rg_c g r - (p + i) = (rg_c g r - (p + (i + 1))) + 1 := by omega
    have hh := b5 (p + i) (by omega)
    have ch : (nI (rg_h g r (p + i))).toNatClampNeg = rg_h g r (p + i) := nI_clamp (by omega)
    refine ⟨vp_in_nI (by omega) (by decide), br_f ?_ ⟨pk_in (r * 4 + (p + i)) 44 (by omega) (ix_4 r (p + i)), ?_⟩⟩
    · rw [cr, g2]; exact nI_ge (by omega) (by omega)
    rw [pk_cl (r * 4 + (p + i)) (ix_4 r (p + i)), g3 (p + i) (by omega)]
    refine ⟨vp_in_nI hh (by decide), nm_r (e' := a_beginSets (rg_h g r (p + i))) (by rw [ch]) (nm_e ?_)⟩
    have e : ∀ b, bt (s ||| (a_beginSets (rg_h g r (p + i)) &&& 7)) b = true ↔ bt s b = true ∨ (b < 3 ∧ xb_F a_beginSets (rg_h g r (p + i)) b) := by
      intro b
      rw [b_or, Bool.or_eq_true, b_and, Bool.and_eq_true, b_7b, decide_eq_true_eq]
      exact ⟨fun z => z.imp id (fun z => ⟨z.2, z.1⟩), fun z => z.imp id (fun z => ⟨z.2, z.1⟩)⟩
    refine br_c (fun z => ?_) (fun z => ?_)
    · have z := (b_and8 _).mp z
      refine h _ fun b => ?_
      rw [e b, s2 b, hc]
      constructor
      · rintro (y | y)
        · exact Or.inl y
        · exact Or.inr (Or.inl y)
      · rintro (y | y | ⟨y, _⟩)
        · exact Or.inl y
        · exact Or.inr y
        · have y : bt (a_beginSets (rg_h g r (p + i))) 3 = true := y
          rw [z] at y; cases y
    · have z : xb_F a_beginSets (rg_h g r (p + i)) 3 := ts_nf fun y => z ((b_and8 _).mpr y)
      refine nm_r (nI_1 (p + i)) (hk _ ⟨fun b hb => ?_, fun b => ?_⟩)
      · rcases (e b).mp hb with y | y
        · exact s1 b y
        · exact y.1
      · rw [s2 b, e b, hc]
        constructor
        · rintro (y | y | ⟨_, y⟩)
          · exact Or.inl (Or.inl y)
          · exact Or.inl (Or.inr y)
          · exact Or.inr y
        · rintro ((y | y) | y)
          · exact Or.inl y
          · exact Or.inr (Or.inl y)
          · exact Or.inr (Or.inr ⟨z, y⟩)
/-- how many looks the variables' sets hold -/
noncomputable def sw_c (a : Nat → Int32) : Nat := cn_c (fun x => bt (a (x / 4 + 3)) (x % 4) = true) 16
theorem sw_lt {a a' : Nat → Int32} {v b : Nat} (h3 : 3 ≤ v) (h7 : v < 7) (hb : b < 4) (h1 : ¬ bt (a v) b = true) (h2 : bt (a' v) b = true) (h : ∀ s b, 3 ≤ s → s < 7 → bt (a s) b = true → bt (a' s) b = true) : sw_c a < sw_c a' := by
  have e1 : ((v - 3) * 4 + b) / 4 + 3 = v := by omega
  have e2 : ((v - 3) * 4 + b) % 4 = b := by omega
  refine cn_lt (a := (v - 3) * 4 + b) (by rw [e1, e2]; exact h1) (by rw [e1, e2]; exact h2) (fun k hk z => h _ _ (by omega) (by omega) z) (by omega)
theorem sw_full {a : Nat → Int32} (h : sw_c a = 16) {v b : Nat} (h3 : 3 ≤ v) (h7 : v < 7) (hb : b < 4) : bt (a v) b = true := by
  have := cn_full h ((v - 3) * 4 + b) (by omega)
  rwa [show ((v - 3) * 4 + b) / 4 + 3 = v by omega, show ((v - 3) * 4 + b) % 4 = b by omega] at this
theorem sw_eq {a a' : Nat → Int32} (h : ∀ s, 3 ≤ s → s < 7 → a s = a' s) : sw_c a = sw_c a' := cn_eq fun k hk => by rw [h (k / 4 + 3) (by omega) (by omega)]
/-- rule r adds nothing to the begins -/
def xb_s (g : rg_T) (r : Nat) (a : Nat → Int32) : Prop := us_U g r → ∀ b, fs_b (xb_F a) (rg_h g r) (rg_c g r) 0 b → bt (a (rg_l g r)) b = true
def xb_I (g : rg_T) (m n : Nat) (a : Nat → Int32) : Prop := xb_4 a ∧ (∀ s b, s < 3 → (bt (a s) b = true ↔ b = s)) ∧ (∀ s b, s < 7 → bt (a s) b = true → fi_F g s b) ∧ rd_J m (xb_s g) sw_c n a
/-- the begins: the least sets -/
def xb_ok (g : rg_T) (a : Nat → Int32) : Prop := ∀ s b, s < 7 → (bt (a s) b = true ↔ fi_F g s b)
theorem fs_mono7 {F F' : Nat → Nat → Prop} {h : Nat → Nat} {N : Nat} (hh : ∀ k, k < N → h k < 7) (hF : ∀ s b, s < 7 → F s b → F' s b) : ∀ c p b, p + c ≤ N → fs_b F h c p b → fs_b F' h c p b := by
  intro c
  induction c with
  | zero => intro p b _ z; exact z
  | succ c ih =>
    intro p b hp z
    rcases z with ⟨z1, z2⟩ | ⟨z1, z2⟩
    · exact Or.inl ⟨z1, hF _ _ (hh p (by omega)) z2⟩
    · exact Or.inr ⟨hF _ _ (hh p (by omega)) z1, ih _ _ (by omega) z2⟩
theorem xb_end (hg : rg_ok g) {m n : Nat} {a : Nat → Int32} (h : xb_I g m n a) (hm : rg_n g ≤ m) (hn : m * 16 ≤ n) : xb_ok g a := by
  obtain ⟨h1, h2, h3, h4⟩ := h
  have cl := rd_end h4 (cn_le _ 16) hn (fun e r hr hU b hb => by
    have l := hg.2.1 r hU.1
    exact sw_full e l.1 l.2.1 (by have := fs_le _ _ _ hb; omega))
  intro s b hs
  refine ⟨h3 s b hs, fun z => ?_⟩
  have := z (fun s b => s < 7 → bt (a s) b = true) ⟨fun s hs _ => (h2 s s hs).mpr rfl, fun r b hU hb h7 => ?_⟩
  · exact this hs
  · have hU : us_U g r := hU
    exact cl r (by have := hU.1; omega) hU b (fs_mono7 (N := rg_c g r) (hg.2.1 r hU.1).2.2.2 (fun s b hs z => z hs) _ _ _ (by show 0 + rg_c g r ≤ rg_c g r; omega) hb)
theorem xb_step (hg : rg_ok g) {m n r : Nat} {a : Nat → Int32} {x : Int32} (h : xb_I g m n a) (hm : 0 < m) (hn : n % m = r) (hU : us_U g r) (hx : ∀ b, bt x b = true ↔ fs_b (xb_F a) (rg_h g r) (rg_c g r) 0 b) : xb_I g m (n + 1) (upd a (rg_l g r) (a (rg_l g r) ||| x)) := by
  obtain ⟨h1, h2, h3, h4⟩ := h
  have l := hg.2.1 r hU.1
  have e : ∀ s b, bt (upd a (rg_l g r) (a (rg_l g r) ||| x) s) b = true ↔ bt (a s) b = true ∨ (s = rg_l g r ∧ fs_b (xb_F a) (rg_h g r) (rg_c g r) 0 b) := by
    intro s b
    by_cases z : s = rg_l g r
    · subst z
      rw [pk_us, b_or, Bool.or_eq_true, hx]
      exact ⟨fun y => y.imp id (fun y => ⟨rfl, y⟩), fun y => y.imp id (fun y => y.2)⟩
    · rw [pk_un z]
      exact ⟨Or.inl, fun y => by
        rcases y with y | y
        · exact y
        · exact absurd y.1 z⟩
  refine ⟨fun s b hs hb => ?_, fun s b hs => ?_, fun s b hs hb => ?_, ?_⟩
  · rcases (e s b).mp hb with z | z
    · exact h1 s b hs z
    · have := fs_le _ _ _ z.2; omega
  · rw [e s b, h2 s b hs]
    exact ⟨fun y => by
      rcases y with y | y
      · exact y
      · omega, Or.inl⟩
  · rcases (e s b).mp hb with z | ⟨rfl, z⟩
    · exact h3 s b hs z
    · exact (fi_ok g).2 r b hU (fs_mono7 (N := rg_c g r) l.2.2.2 h3 _ _ _ (by show 0 + rg_c g r ≤ rg_c g r; omega) z)
  · by_cases hs : xb_s g r a
    · have es : upd a (rg_l g r) (a (rg_l g r) ||| x) = a := by
        funext s
        apply b_ext
        intro b _
        cases w : bt (a s) b
        · cases w2 : bt (upd a (rg_l g r) (a (rg_l g r) ||| x) s) b
          · rfl
          · rcases (e s b).mp w2 with k | ⟨rfl, k⟩
            · rw [w] at k; cases k
            · rw [hs hU b k] at w; cases w
        · exact (e s b).mpr (Or.inl w)
      rw [es]
      exact rd_keep hm h4 (by rw [hn]; exact hs)
    · refine rd_grow hm h4 (by rw [hn]; exact hs) ?_
      have : ∃ b, fs_b (xb_F a) (rg_h g r) (rg_c g r) 0 b ∧ ¬ bt (a (rg_l g r)) b = true := by
        refine Classical.byContradiction fun z => hs fun _ b k => ?_
        refine Classical.byContradiction fun y => z ⟨b, k, y⟩
      obtain ⟨b, k1, k2⟩ := this
      exact sw_lt l.1 l.2.1 (by have := fs_le _ _ _ k1; omega) k2 ((e _ _).mpr (Or.inr ⟨rfl, k1⟩)) (fun s b _ _ hb => (e s b).mpr (Or.inl hb))
theorem xw_findBegins (hg : rg_ok g) (hG : xg_G g a_lefts a_rights a_rightSizes) (hU : xg_U g f_rulesInUse) {post : SX → Prop} (h : ∀ a, xb_ok g a → xb_4 a → post (f_depth, f_made, f_textLength, f_tokenCount, f_wrongPlace, (nI (rg_n g)), f_prepared, f_rulesInUse, f_stateCount, f_wideCount, f_gradeFound, f_readHeight, f_tokensTaken, f_usedCount, a_spotCounts, a_ends, a_arrows, a_takers, a_groups, a_marks, a_text, a_tokenKinds, a_tokenLengths, a_lefts, a_rights, a_rightSizes, a, a_followSets, a_nextItems, a_openItems, a_restItems, a_stateItems, a_stateSteps, a_stateLooks, a_wideSteps, a_wideLooks, a_readStates, a_readValues, a_usedRules)) : wpX_findBegins post (f_depth, f_made, f_textLength, f_tokenCount, f_wrongPlace, (nI (rg_n g)), f_prepared, f_rulesInUse, f_stateCount, f_wideCount, f_gradeFound, f_readHeight, f_tokensTaken, f_usedCount, a_spotCounts, a_ends, a_arrows, a_takers, a_groups, a_marks, a_text, a_tokenKinds, a_tokenLengths, a_lefts, a_rights, a_rightSizes, a_beginSets, a_followSets, a_nextItems, a_openItems, a_restItems, a_stateItems, a_stateSteps, a_stateLooks, a_wideSteps, a_wideLooks, a_readStates, a_readValues, a_usedRules) := by
  have h9 := hg.1
  refine loop_0 (fun f i s => wX_findBegins_2 post f_depth f_made f_textLength f_tokenCount f_wrongPlace (nI (rg_n g)) f_prepared f_rulesInUse f_stateCount f_wideCount f_gradeFound f_readHeight f_tokensTaken f_usedCount f (nI i) a_spotCounts a_ends a_arrows a_takers a_groups a_marks a_text a_tokenKinds a_tokenLengths a_lefts a_rights a_rightSizes s a_followSets a_nextItems a_openItems a_restItems a_stateItems a_stateSteps a_stateLooks a_wideSteps a_wideLooks a_readStates a_readValues a_usedRules) (fun i s => ∀ s', s' < i → ∀ b, bt (s s') b = true ↔ s' < 3 ∧ b = s') 7 a_beginSets (fun s' hs => absurd hs (Nat.not_lt_zero s')) ?_ ?_
  · intro f s hs
    refine br_t (nI_le (Nat.le_refl 7) (by decide)) ?_
    refine loop_0 (fun f q s => wX_findBegins_34 post f_depth f_made f_textLength f_tokenCount f_wrongPlace (nI (rg_n g)) f_prepared f_rulesInUse f_stateCount f_wideCount f_gradeFound f_readHeight f_tokensTaken f_usedCount f (nI q) a_spotCounts a_ends a_arrows a_takers a_groups a_marks a_text a_tokenKinds a_tokenLengths a_lefts a_rights a_rightSizes s a_followSets a_nextItems a_openItems a_restItems a_stateItems a_stateSteps a_stateLooks a_wideSteps a_wideLooks a_readStates a_readValues a_usedRules) (fun q s => xb_I g (rg_n g) (q * rg_n g) s) 16 s ?_ ?_ ?_
    · refine ⟨fun s' b h7 hb => ?_, fun s' b h3 => ?_, fun s' b h7 hb => ?_, by rw [Nat.zero_mul]; exact rd_i⟩
      · obtain ⟨_, rfl⟩ := (hs s' h7 b).mp hb; omega
      · rw [hs s' (by omega) b]; exact ⟨fun z => z.2, fun z => ⟨h3, z⟩⟩
      · obtain ⟨z, rfl⟩ := (hs s' h7 b).mp hb
        exact (fi_ok g).1 _ z
    · intro f s hs
      exact br_t (nI_le (Nat.le_refl 16) (by decide)) (h s (xb_end hg hs (Nat.le_refl _) (by omega)) hs.1)
    · intro f q s hq hs hk
      refine br_f (nI_ge hq (by decide)) ?_
      refine loop_0 (fun f' r s => wX_findBegins_42 post (wX_findBegins_34 post f_depth f_made f_textLength f_tokenCount f_wrongPlace (nI (rg_n g)) f_prepared f_rulesInUse f_stateCount f_wideCount f_gradeFound f_readHeight f_tokensTaken f_usedCount f) (nI q) f_depth f_made f_textLength f_tokenCount f_wrongPlace (nI (rg_n g)) f_prepared f_rulesInUse f_stateCount f_wideCount f_gradeFound f_readHeight f_tokensTaken f_usedCount f' (nI r) a_spotCounts a_ends a_arrows a_takers a_groups a_marks a_text a_tokenKinds a_tokenLengths a_lefts a_rights a_rightSizes s a_followSets a_nextItems a_openItems a_restItems a_stateItems a_stateSteps a_stateLooks a_wideSteps a_wideLooks a_readStates a_readValues a_usedRules) (fun r s => xb_I g (rg_n g) (q * rg_n g + r) s) (rg_n g) s hs ?_ ?_
      · intro f' s hs
        refine br_t (nI_le (Nat.le_refl _) (by omega)) (nm_r (nI_1 q) (hk s ?_))
        rw [Nat.succ_mul]; exact hs
      · intro f' r s hr hs hk2
        obtain ⟨b1, b2, b3, b4, b5⟩ := rg_b hg (Or.inl hr)
        obtain ⟨g1, g2, g3⟩ := hG r (Or.inl hr)
        have hl7 := (hg.2.1 r hr).2.1
        have cr : (nI r).toNatClampNeg = r := nI_clamp (by omega)
        have cl : (nI (rg_l g r)).toNatClampNeg = rg_l g r := nI_clamp (by omega)
        refine br_f (nI_ge hr (by omega)) (br_c (fun z => ?_) (fun z => ?_))
        · have z := (b_test f_rulesInUse (n := r) (by omega)).mp z
          have hUr : us_U g r := by
            rcases (hU r).mp z with y | y
            · exact y
            · omega
          refine br_f (by decide) ⟨vp_in_nI (by omega) (by decide), ?_⟩
          rw [cr, g1]
          refine ⟨vp_in_nI hl7 (by decide), xw_beginsFrom (p := 0) hg hG hs.1 (Or.inl hr) (Nat.zero_le _) (fun x hx => ⟨vp_in_nI hl7 (by decide), nm_r (by rw [cl]) (nm_r (nI_1 r) (hk2 _ ?_))⟩)⟩
          exact xb_step hg hs (by omega) (md_r hr) hUr hx
        · have z : ¬ us_U g r := fun y => z ((b_test f_rulesInUse (by omega)).mpr ((hU r).mpr (Or.inl y)))
          refine br_t rfl (nm_r (nI_1 r) (hk2 _ ⟨hs.1, hs.2.1, hs.2.2.1, rd_kr hr hs.2.2.2 ?_⟩))
          exact fun y => absurd y z
  · intro f i s hi hs hk
    refine br_f (nI_ge hi (by decide)) (pk_le 3 i (fun z => ?_) (fun z => ?_))
    · refine ⟨vp_in_nI hi (by decide), nm_r (by rw [nI_clamp (by omega)]) (nm_r (nI_1 i) (hk _ fun s' h1 b => ?_))⟩
      by_cases e : s' = i
      · subst e; rw [pk_us, b_0]; exact ⟨(fun y => by cases y), fun y => by omega⟩
      · rw [pk_un e]; exact hs s' (by omega) b
    · refine ⟨vp_in_nI hi (by decide), nm_r (by rw [nI_clamp (by omega)]) (nm_r (nI_1 i) (hk _ fun s' h1 b => ?_))⟩
      by_cases e : s' = i
      · subst e; rw [pk_us, b_one _ (by omega), decide_eq_true_eq]; exact ⟨fun y => ⟨z, y⟩, fun y => y.2⟩
      · rw [pk_un e]; exact hs s' (by omega) b
end
end
section
/-! the component's follows -/
variable {f_depth f_made f_textLength f_tokenCount f_wrongPlace f_ruleCount f_prepared f_rulesInUse f_stateCount f_wideCount f_gradeFound f_readHeight f_tokensTaken f_usedCount : Int32} {a_spotCounts a_ends a_arrows a_takers a_groups a_marks a_text a_tokenKinds a_tokenLengths a_lefts a_rights a_rightSizes a_beginSets a_followSets a_stateSteps a_wideSteps a_readStates a_readValues a_usedRules : Nat → Int32} {a_nextItems a_openItems a_restItems a_stateItems a_stateLooks a_wideLooks : Nat → Int64}
section
variable {g : rg_T}
/-- the looks behind place i of rule r -/
def xf_R (g : rg_T) (F : Nat → Nat → Prop) (r i b : Nat) : Prop := fs_b F (rg_h g r) (rg_c g r - (i + 1)) (i + 1) b
def xf_s (g : rg_T) (F : Nat → Nat → Prop) (r : Nat) (a : Nat → Int32) : Prop := us_U g r ∨ r = 9 → ∀ i, i < rg_c g r → 3 ≤ rg_h g r i → (∀ b, b < 3 → xf_R g F r i b → bt (a (rg_h g r i)) b = true) ∧ (xf_R g F r i 3 → ∀ b, bt (a (rg_l g r)) b = true → bt (a (rg_h g r i)) b = true)
def xf_S (g : rg_T) (a : Nat → Int32) : Prop := (∀ s b, s < 7 → bt (a s) b = true → fo_W g s b) ∧ ∀ b, bt (a 7) b = true ↔ b = 3
theorem fs_iff7 {F F' : Nat → Nat → Prop} {h : Nat → Nat} {N : Nat} (hh : ∀ k, k < N → h k < 7) (hF : ∀ s b, s < 7 → (F s b ↔ F' s b)) (c p b : Nat) (hp : p + c ≤ N) : fs_b F h c p b ↔ fs_b F' h c p b :=
  ⟨fs_mono7 hh (fun s b hs => (hF s b hs).mp) c p b hp, fs_mono7 hh (fun s b hs => (hF s b hs).mpr) c p b hp⟩
/-- a rule's follows are sound -/
theorem xf_snd (hg : rg_ok g) {F : Nat → Nat → Prop} (hF : ∀ s b, s < 7 → (F s b ↔ fi_F g s b)) {r i b : Nat} (hr : us_U g r ∨ r = 9) (hi : i < rg_c g r) {a : Nat → Int32} (ha : xf_S g a) (h : (b < 3 ∧ xf_R g F r i b) ∨ (xf_R g F r i 3 ∧ bt (a (rg_l g r)) b = true)) : fo_W g (rg_h g r i) b := by
  have W := fo_self g
  rcases hr with hr | rfl
  · have l := hg.2.1 r hr.1
    have e : ∀ b, xf_R g F r i b ↔ fs_b (fi_F g) (rg_h g r) (rg_c g r - (i + 1)) (i + 1) b := fun b => fs_iff7 l.2.2.2 hF _ _ _ (by omega)
    rcases h with ⟨h1, h2⟩ | ⟨h1, h2⟩
    · exact (W.2 r i hr hi).1 b h1 ((e b).mp h2)
    · exact (W.2 r i hr hi).2 ((e 3).mp h1) b (ha.1 _ _ l.2.1 h2)
  · have hc := hg.2.2.2.1
    have i0 : i = 0 := by omega
    subst i0
    unfold xf_R at h
    rw [hc, hg.2.2.1] at h
    have : b = 3 := by
      rcases h with ⟨_, h2⟩ | ⟨_, h2⟩
      · exact h2
      · exact (ha.2 b).mp h2
    rw [hg.2.2.2.2, this]
    exact W.1
theorem xw_addFollows (hg : rg_ok g) (hG : xg_G g a_lefts a_rights a_rightSizes) (h4 : xb_4 a_beginSets) (hF : xb_ok g a_beginSets) {r : Nat} (hr : us_U g r ∨ r = 9) (ha : xf_S g a_followSets) {post : SX → Prop}
    (h : ∀ s, xf_S g s → (∀ v b, bt (a_followSets v) b = true → bt (s v) b = true) → (xf_s g (xb_F a_beginSets) r a_followSets → ∀ v, 3 ≤ v → v < 7 → s v = a_followSets v) → (¬ xf_s g (xb_F a_beginSets) r a_followSets → sw_c a_followSets < sw_c s) → post (f_depth, f_made, f_textLength, f_tokenCount, f_wrongPlace, f_ruleCount, f_prepared, f_rulesInUse, f_stateCount, f_wideCount, f_gradeFound, f_readHeight, f_tokensTaken, f_usedCount, a_spotCounts, a_ends, a_arrows, a_takers, a_groups, a_marks, a_text, a_tokenKinds, a_tokenLengths, a_lefts, a_rights, a_rightSizes, a_beginSets, s, a_nextItems, a_openItems, a_restItems, a_stateItems, a_stateSteps, a_stateLooks, a_wideSteps, a_wideLooks, a_readStates, a_readValues, a_usedRules)) : wpX_addFollows post (f_depth, f_made, f_textLength, f_tokenCount, f_wrongPlace, f_ruleCount, f_prepared, f_rulesInUse, f_stateCount, f_wideCount, f_gradeFound, f_readHeight, f_tokensTaken, f_usedCount, a_spotCounts, a_ends, a_arrows, a_takers, a_groups, a_marks, a_text, a_tokenKinds, a_tokenLengths, a_lefts, a_rights, a_rightSizes, a_beginSets, a_followSets, a_nextItems, a_openItems, a_restItems, a_stateItems, a_stateSteps, a_stateLooks, a_wideSteps, a_wideLooks, a_readStates, a_readValues, a_usedRules) (nI r) := by
  have hr' : r < rg_n g ∨ r = 9 := hr.imp (fun z => z.1) id
  obtain ⟨b1, b2, b3, b4, b5⟩ := rg_b hg hr'
  obtain ⟨g1, g2, g3⟩ := hG r hr'
  have cr : (nI r).toNatClampNeg = r := nI_clamp (by omega)
  have cl : (nI (rg_l g r)).toNatClampNeg = rg_l g r := nI_clamp (by omega)
  refine loop_0 (fun f i s => wX_addFollows_2 post (nI r) f_depth f_made f_textLength f_tokenCount f_wrongPlace f_ruleCount f_prepared f_rulesInUse f_stateCount f_wideCount f_gradeFound f_readHeight f_tokensTaken f_usedCount f (nI i) a_spotCounts a_ends a_arrows a_takers a_groups a_marks a_text a_tokenKinds a_tokenLengths a_lefts a_rights a_rightSizes a_beginSets s a_nextItems a_openItems a_restItems a_stateItems a_stateSteps a_stateLooks a_wideSteps a_wideLooks a_readStates a_readValues a_usedRules) (fun j s => xf_S g s ∧ (∀ v b, bt (a_followSets v) b = true → bt (s v) b = true) ∧ (xf_s g (xb_F a_beginSets) r a_followSets → ∀ v, 3 ≤ v → v < 7 → s v = a_followSets v) ∧ (∀ v, 7 ≤ v → s v = a_followSets v) ∧
      ∀ i, i < j → (∀ b, b < 3 → xf_R g (xb_F a_beginSets) r i b → bt (s (rg_h g r i)) b = true) ∧ (xf_R g (xb_F a_beginSets) r i 3 → ∀ b, bt (a_followSets (rg_l g r)) b = true → bt (s (rg_h g r i)) b = true)) (rg_c g r) a_followSets ⟨ha, fun _ _ z => z, fun _ _ _ _ => rfl, fun _ _ => rfl, fun i hi => absurd hi (Nat.not_lt_zero i)⟩ ?_ ?_
  · rintro f s ⟨s1, s2, s3, s4, s5⟩
    refine ⟨vp_in_nI (by omega) (by decide), br_t ?_ (h s s1 s2 s3 fun z => ?_)⟩
    · rw [cr, g2]; exact nI_le (Nat.le_refl _) (by omega)
    -- something was wanting
    have : ∃ i b, i < rg_c g r ∧ 3 ≤ rg_h g r i ∧ b < 4 ∧ ¬ bt (a_followSets (rg_h g r i)) b = true ∧ bt (s (rg_h g r i)) b = true := by
      refine Classical.byContradiction fun y => z fun _ i hi h3 => ⟨fun b hb hR => ?_, fun hR b hb => ?_⟩
      · exact Classical.byContradiction fun w => y ⟨i, b, hi, h3, by omega, w, (s5 i hi).1 b hb hR⟩
      · have hb4 : b < 4 := by
          rcases Nat.lt_or_ge (rg_l g r) 7 with k | k
          · have := fo_rng (ha.1 _ _ k hb); omega
          · have k : rg_l g r = 7 := by omega
            rw [k] at hb
            have := (ha.2 b).mp hb; omega
        exact Classical.byContradiction fun w => y ⟨i, b, hi, h3, hb4, w, (s5 i hi).2 hR b hb⟩
    obtain ⟨i, b, y1, y2, y3, y4, y5⟩ := this
    exact sw_lt y2 (b5 i y1) y3 y4 y5 (fun v b _ _ => s2 v b)
  · rintro f j s hj ⟨s1, s2, s3, s4, s5⟩ hk
    have hh := b5 j hj
    have ch : (nI (rg_h g r j)).toNatClampNeg = rg_h g r j := nI_clamp (by omega)
    -- the store, whatever the set
    have fin : ∀ x : Int32, (∀ b, bt x b = true ↔ (b < 3 ∧ xf_R g (xb_F a_beginSets) r j b) ∨ (xf_R g (xb_F a_beginSets) r j 3 ∧ bt (s (rg_l g r)) b = true)) → wX_addFollows_50 post (wX_addFollows_2 post (nI r) f_depth f_made f_textLength f_tokenCount f_wrongPlace f_ruleCount f_prepared f_rulesInUse f_stateCount f_wideCount f_gradeFound f_readHeight f_tokensTaken f_usedCount f) (nI r) (nI j) x f_depth f_made f_textLength f_tokenCount f_wrongPlace f_ruleCount f_prepared f_rulesInUse f_stateCount f_wideCount f_gradeFound f_readHeight f_tokensTaken f_usedCount a_spotCounts a_ends a_arrows a_takers a_groups a_marks a_text a_tokenKinds a_tokenLengths a_lefts a_rights a_rightSizes a_beginSets s a_nextItems a_openItems a_restItems a_stateItems a_stateSteps a_stateLooks a_wideSteps a_wideLooks a_readStates a_readValues a_usedRules := by
      intro x hx
      refine ⟨pk_in (r * 4 + j) 44 (by omega) (ix_4 r j), ?_⟩
      rw [pk_cl (r * 4 + j) (ix_4 r j), g3 j hj]
      refine ⟨vp_in_nI (by omega) (by decide), vp_in_nI (by omega) (by decide), nm_r (by rw [ch]) (nm_r (nI_1 j) (hk _ ?_))⟩
      have e : ∀ v b, bt (upd s (rg_h g r j) (s (rg_h g r j) ||| x) v) b = true ↔ bt (s v) b = true ∨ (v = rg_h g r j ∧ bt x b = true) := by
        intro v b
        by_cases z : v = rg_h g r j
        · subst z
          rw [pk_us, b_or, Bool.or_eq_true]
          exact ⟨fun y => y.imp id (fun y => ⟨rfl, y⟩), fun y => y.imp id (fun y => y.2)⟩
        · rw [pk_un z]
          exact ⟨Or.inl, fun y => by
            rcases y with y | y
            · exact y
            · exact absurd y.1 z⟩
      refine ⟨⟨fun v b hv hb => ?_, fun b => ?_⟩, fun v b hb => (e v b).mpr (Or.inl (s2 v b hb)), fun z v v3 v7 => ?_, fun v hv => ?_, fun i hi => ?_⟩
      · rcases (e v b).mp hb with y | ⟨rfl, y⟩
        · exact s1.1 v b hv y
        · exact xf_snd hg hF hr hj s1 ((hx b).mp y)
      · rw [pk_un (by omega)]; exact s1.2 b
      · by_cases y : v = rg_h g r j
        · subst y
          rw [pk_us]
          have sv := s3 z (rg_h g r j) v3 v7
          have sl : s (rg_l g r) = a_followSets (rg_l g r) := by
            rcases Nat.lt_or_ge (rg_l g r) 7 with k | k
            · exact s3 z _ b3 k
            · exact s4 _ k
          apply b_ext
          intro b _
          rw [b_or, sv]
          cases w : bt (a_followSets (rg_h g r j)) b
          · cases w2 : bt x b
            · rfl
            · exfalso
              have := z hr j hj v3
              rcases (hx b).mp w2 with ⟨k1, k2⟩ | ⟨k1, k2⟩
              · rw [this.1 b k1 k2] at w; cases w
              · rw [sl] at k2
                rw [this.2 k1 b k2] at w; cases w
          · rfl
        · rw [pk_un y]; exact s3 z v v3 v7
      · rw [pk_un (by omega)]; exact s4 v hv
      · rcases Nat.lt_or_ge i j with y | y
        · exact ⟨fun b k1 k2 => (e _ b).mpr (Or.inl ((s5 i y).1 b k1 k2)), fun k1 b k2 => (e _ b).mpr (Or.inl ((s5 i y).2 k1 b k2))⟩
        · have y : i = j := by omega
          subst y
          exact ⟨fun b k1 k2 => (e _ b).mpr (Or.inr ⟨rfl, (hx b).mpr (Or.inl ⟨k1, k2⟩)⟩), fun k1 b k2 => (e _ b).mpr (Or.inr ⟨rfl, (hx b).mpr (Or.inr ⟨k1, s2 _ _ k2⟩)⟩)⟩
    refine ⟨vp_in_nI (by omega) (by decide), br_f ?_ ?_⟩
    · rw [cr, g2]; exact nI_ge hj (by omega)
    rw [nI_1]
    refine xw_beginsFrom hg hG h4 hr' (by omega) (fun y hy => nm_e (br_c (fun z => ?_) (fun z => ?_)))
    · have z := (b_and8 _).mp z
      refine fin _ fun b => ?_
      rw [b_and, Bool.and_eq_true, b_7b, decide_eq_true_eq, hy b]
      constructor
      · rintro ⟨k1, k2⟩; exact Or.inl ⟨k2, k1⟩
      · rintro (⟨k1, k2⟩ | ⟨k1, _⟩)
        · exact ⟨k2, k1⟩
        · have k1 := (hy 3).mpr k1
          rw [z] at k1; cases k1
    · have z : bt y 3 = true := ts_nf fun k => z ((b_and8 _).mpr k)
      refine ⟨vp_in_nI (by omega) (by decide), ?_⟩
      rw [cr, g1]
      refine ⟨vp_in_nI (by omega) (by decide), nm_e (fin _ fun b => ?_)⟩
      rw [cl, b_or, Bool.or_eq_true, b_and, Bool.and_eq_true, b_7b, decide_eq_true_eq, hy b]
      constructor
      · rintro (⟨k1, k2⟩ | k)
        · exact Or.inl ⟨k2, k1⟩
        · exact Or.inr ⟨(hy 3).mp z, k⟩
      · rintro (⟨k1, k2⟩ | ⟨_, k⟩)
        · exact Or.inl ⟨k2, k1⟩
        · exact Or.inr k
/-- the follows: the least sets, at the variables; behind the first rule the end alone -/
def xf_ok (g : rg_T) (a : Nat → Int32) : Prop := (∀ v b, 3 ≤ v → v < 7 → (bt (a v) b = true ↔ fo_W g v b)) ∧ ∀ b, bt (a 7) b = true ↔ b = 3
theorem xf_end (hg : rg_ok g) {F : Nat → Nat → Prop} (hF : ∀ s b, s < 7 → (F s b ↔ fi_F g s b)) {n : Nat} {a : Nat → Int32} (hS : xf_S g a) (hJ : rd_J 10 (xf_s g F) sw_c n a) (hn : 160 ≤ n) : xf_ok g a := by
  have cl := rd_end hJ (cn_le _ 16) hn (fun e r hr hU i hi h3 => by
    have hr' : r < rg_n g ∨ r = 9 := hU.imp (fun z => z.1) id
    have h7 := (rg_b hg hr').2.2.2.2 i hi
    refine ⟨fun b hb _ => sw_full e h3 h7 (by omega), fun _ b hb => sw_full e h3 h7 ?_⟩
    rcases Nat.lt_or_ge (rg_l g r) 7 with k | k
    · have := fo_rng (hS.1 _ _ k hb); omega
    · have k : rg_l g r = 7 := by have := (rg_b hg hr').2.1; omega
      rw [k] at hb
      have := (hS.2 b).mp hb; omega)
  refine ⟨fun v b v3 v7 => ⟨hS.1 v b v7, fun z => ?_⟩, hS.2⟩
  have := z (fun v b => 3 ≤ v → v < 7 → bt (a v) b = true) ⟨fun _ _ => ?_, fun r i hU hi => ?_⟩
  · exact this v3 v7
  · have h9 := cl 9 (by omega) (Or.inr rfl) 0 (by have := hg.2.2.2.1; omega) (by have := hg.2.2.2.2; omega)
    unfold xf_R at h9
    rw [hg.2.2.1, hg.2.2.2.1, hg.2.2.2.2] at h9
    exact h9.2 rfl 3 ((hS.2 3).mpr rfl)
  · have l := hg.2.1 r hU.1
    have h9 := hg.1
    have hr := hU.1
    have e : ∀ b, xf_R g F r i b ↔ fs_b (fi_F g) (rg_h g r) (rg_c g r - (i + 1)) (i + 1) b := fun b => fs_iff7 l.2.2.2 hF _ _ _ (by omega)
    refine ⟨fun b hb hR v3 v7 => (cl r (by omega) (Or.inl hU) i hi v3).1 b hb ((e b).mpr hR), fun hR b hb v3 v7 => (cl r (by omega) (Or.inl hU) i hi v3).2 ((e 3).mpr hR) b (hb l.1 l.2.1)⟩
theorem xw_findFollows (hg : rg_ok g) (hG : xg_G g a_lefts a_rights a_rightSizes) (hU : xg_U g f_rulesInUse) (h4 : xb_4 a_beginSets) (hF : xb_ok g a_beginSets) {post : SX → Prop} (h : ∀ a, xf_ok g a → post (f_depth, f_made, f_textLength, f_tokenCount, f_wrongPlace, f_ruleCount, f_prepared, f_rulesInUse, f_stateCount, f_wideCount, f_gradeFound, f_readHeight, f_tokensTaken, f_usedCount, a_spotCounts, a_ends, a_arrows, a_takers, a_groups, a_marks, a_text, a_tokenKinds, a_tokenLengths, a_lefts, a_rights, a_rightSizes, a_beginSets, a, a_nextItems, a_openItems, a_restItems, a_stateItems, a_stateSteps, a_stateLooks, a_wideSteps, a_wideLooks, a_readStates, a_readValues, a_usedRules)) : wpX_findFollows post (f_depth, f_made, f_textLength, f_tokenCount, f_wrongPlace, f_ruleCount, f_prepared, f_rulesInUse, f_stateCount, f_wideCount, f_gradeFound, f_readHeight, f_tokensTaken, f_usedCount, a_spotCounts, a_ends, a_arrows, a_takers, a_groups, a_marks, a_text, a_tokenKinds, a_tokenLengths, a_lefts, a_rights, a_rightSizes, a_beginSets, a_followSets, a_nextItems, a_openItems, a_restItems, a_stateItems, a_stateSteps, a_stateLooks, a_wideSteps, a_wideLooks, a_readStates, a_readValues, a_usedRules) := by
  refine loop_0 (fun f i s => wX_findFollows_2 post f_depth f_made f_textLength f_tokenCount f_wrongPlace f_ruleCount f_prepared f_rulesInUse f_stateCount f_wideCount f_gradeFound f_readHeight f_tokensTaken f_usedCount f (nI i) a_spotCounts a_ends a_arrows a_takers a_groups a_marks a_text a_tokenKinds a_tokenLengths a_lefts a_rights a_rightSizes a_beginSets s a_nextItems a_openItems a_restItems a_stateItems a_stateSteps a_stateLooks a_wideSteps a_wideLooks a_readStates a_readValues a_usedRules) (fun i s => ∀ v, v < i → s v = 0) 8 a_followSets (fun v hv => absurd hv (Nat.not_lt_zero v)) ?_ ?_
  · intro f s hs
    refine br_t (nI_le (Nat.le_refl 8) (by decide)) (nm_e ?_)
    have hS0 : xf_S g (upd s 7 8) := by
      refine ⟨fun v b hv hb => ?_, fun b => ?_⟩
      · rw [pk_un (by omega), hs v (by omega), b_0] at hb; cases hb
      · rw [pk_us, b_8b, decide_eq_true_eq]
    refine loop_0 (fun f q s => wX_findFollows_32 post f (nI q) f_depth f_made f_textLength f_tokenCount f_wrongPlace f_ruleCount f_prepared f_rulesInUse f_stateCount f_wideCount f_gradeFound f_readHeight f_tokensTaken f_usedCount a_spotCounts a_ends a_arrows a_takers a_groups a_marks a_text a_tokenKinds a_tokenLengths a_lefts a_rights a_rightSizes a_beginSets s a_nextItems a_openItems a_restItems a_stateItems a_stateSteps a_stateLooks a_wideSteps a_wideLooks a_readStates a_readValues a_usedRules) (fun q s => xf_S g s ∧ rd_J 10 (xf_s g (xb_F a_beginSets)) sw_c (q * 10) s) 17 (upd s 7 8) ⟨hS0, rd_i⟩ ?_ ?_
    · rintro f s ⟨s1, s2⟩
      exact br_t (nI_lt (a := 16) (by decide) (by decide)) (h s (xf_end hg hF s1 s2 (by omega)))
    · rintro f q s hq ⟨s1, s2⟩ hk
      refine br_f (nI_nlt (a := 16) (by omega) (by omega)) ?_
      refine loop_0 (fun f' r s => wX_findFollows_40 post (wX_findFollows_32 post f) (nI q) f' (nI r) f_depth f_made f_textLength f_tokenCount f_wrongPlace f_ruleCount f_prepared f_rulesInUse f_stateCount f_wideCount f_gradeFound f_readHeight f_tokensTaken f_usedCount a_spotCounts a_ends a_arrows a_takers a_groups a_marks a_text a_tokenKinds a_tokenLengths a_lefts a_rights a_rightSizes a_beginSets s a_nextItems a_openItems a_restItems a_stateItems a_stateSteps a_stateLooks a_wideSteps a_wideLooks a_readStates a_readValues a_usedRules) (fun r s => xf_S g s ∧ rd_J 10 (xf_s g (xb_F a_beginSets)) sw_c (q * 10 + r) s) 10 s ⟨s1, s2⟩ ?_ ?_
      · rintro f' s hs
        refine br_t (nI_lt (a := 9) (by decide) (by decide)) (nm_r (nI_1 q) (hk s ?_))
        rw [Nat.succ_mul]; exact hs
      · rintro f' r s hr ⟨s1, s2⟩ hk2
        refine br_f (nI_nlt (a := 9) (by omega) (by omega)) (br_c (fun z => ?_) (fun z => ?_))
        · have z := (hU r).mp ((b_test f_rulesInUse (n := r) (by omega)).mp z)
          refine br_f (by decide) (xw_addFollows hg hG h4 hF z s1 (fun s' a1 a2 a3 a4 => nm_r (nI_1 r) (hk2 s' ⟨a1, ?_⟩)))
          by_cases y : xf_s g (xb_F a_beginSets) r s
          · have e := a3 y
            refine rd_congr (s := s) (fun k hk w => ?_) (sw_eq fun v v3 v7 => (e v v3 v7).symm) (by omega) (rd_kr hr s2 y)
            intro hUk i hi h3
            have hk' : k < rg_n g ∨ k = 9 := hUk.imp (fun z => z.1) id
            have hb := rg_b hg hk'
            have h7 := hb.2.2.2.2 i hi
            have el : s' (rg_l g k) = s (rg_l g k) ∨ rg_l g k = 7 := by
              rcases Nat.lt_or_ge (rg_l g k) 7 with q | q
              · exact Or.inl (e _ hb.2.2.1 q)
              · exact Or.inr (by omega)
            rw [e _ h3 h7]
            refine ⟨(w hUk i hi h3).1, fun hR b hb2 => (w hUk i hi h3).2 hR b ?_⟩
            rcases el with el | el
            · rw [el] at hb2; exact hb2
            · rw [el] at hb2 ⊢
              exact (s1.2 b).mpr ((a1.2 b).mp hb2)
          · exact rd_gr hr s2 y (a4 y)
        · have z : ¬ (us_U g r ∨ r = 9) := fun y => z ((b_test f_rulesInUse (by omega)).mpr ((hU r).mpr y))
          refine br_t rfl (nm_r (nI_1 r) (hk2 s ⟨s1, rd_kr hr s2 ?_⟩))
          exact fun y => absurd y z
  · intro f i s hi hs hk
    refine br_f (nI_ge hi (by decide)) ⟨vp_in_nI hi (by decide), nm_r (by rw [nI_clamp (by omega)]) (nm_r (nI_1 i) (hk _ fun v hv => ?_))⟩
    by_cases e : v = i
    · subst e; exact pk_us
    · rw [pk_un e]; exact hs v (by omega)
end
end
section
/-! the reference's useful rules, begins and follows -/
variable {h_made h_depth h_length h_tokenCount h_wrong h_letterCount h_ruleCount h_makingCount h_usefulRules h_stateCount h_wideCount h_useCount h_result : Int32} {b_ops b_firsts b_seconds b_sizes b_stack b_roots b_text b_ends b_tokenKinds b_tokenSizes b_letters b_begins b_closes b_empties b_nexts b_sets b_leads b_classes b_newClasses b_lefts b_rights b_counts b_making b_firstSets b_followSets b_tasks b_held b_uses b_reach : Nat → Int32} {b_states b_looks b_wides b_work b_met : Nat → Int64}
section
variable {g : rg_T}
theorem yw_isWithin (hg : rg_ok g) (hG : xg_G g b_lefts b_rights b_counts) {r : Nat} {x : Int32} (hr : r < rg_n g ∨ r = 9) {post : Int32 → Prop} (h1 : (∀ k, k < rg_c g r → bt x (rg_h g r k) = true) → post 1) (h0 : (¬ ∀ k, k < rg_c g r → bt x (rg_h g r k) = true) → post 0) : wpY_isWithin post (h_made, h_depth, h_length, h_tokenCount, h_wrong, h_letterCount, h_ruleCount, h_makingCount, h_usefulRules, h_stateCount, h_wideCount, h_useCount, h_result, b_ops, b_firsts, b_seconds, b_sizes, b_stack, b_roots, b_text, b_ends, b_tokenKinds, b_tokenSizes, b_letters, b_begins, b_closes, b_empties, b_nexts, b_sets, b_leads, b_classes, b_newClasses, b_lefts, b_rights, b_counts, b_making, b_firstSets, b_followSets, b_states, b_looks, b_wides, b_work, b_met, b_tasks, b_held, b_uses, b_reach) (nI r) x := by
  obtain ⟨b1, b2, b3, b4, b5⟩ := rg_b hg hr
  obtain ⟨g1, g2, g3⟩ := hG r hr
  have cr : (nI r).toNatClampNeg = r := nI_clamp (by omega)
  refine loop_0 (fun f i (_ : Unit) => wY_isWithin_2 post (nI r) x h_made h_depth h_length h_tokenCount h_wrong h_letterCount h_ruleCount h_makingCount h_usefulRules h_stateCount h_wideCount h_useCount h_result b_ops b_firsts b_seconds b_sizes b_stack b_roots b_text b_ends b_tokenKinds b_tokenSizes b_letters b_begins b_closes b_empties b_nexts b_sets b_leads b_classes b_newClasses b_lefts b_rights b_counts b_making b_firstSets b_followSets b_states b_looks b_wides b_work b_met b_tasks b_held b_uses b_reach f (nI i)) (fun i _ => ∀ k, k < i → bt x (rg_h g r k) = true) (rg_c g r) () (fun k hk => absurd hk (Nat.not_lt_zero k)) ?_ ?_
  · intro f _ hs
    refine ⟨vp_in_nI (by omega) (by decide), br_t ?_ (h1 hs)⟩
    rw [cr, g2]; exact nI_le (Nat.le_refl _) (by omega)
  · intro f i _ hi hs hk
    have hh := b5 i hi
    refine ⟨vp_in_nI (by omega) (by decide), br_f ?_ ⟨pk_in (r * 4 + i) 40 (by omega) (ix_l4 r i), ?_⟩⟩
    · rw [cr, g2]; exact nI_ge hi (by omega)
    rw [pk_cl (r * 4 + i) (ix_l4 r i), g3 i hi]
    refine br_c (fun z => h0 fun y => ?_) (fun z => nm_r (nI_1 i) (hk () fun k h => ?_))
    · have z := (b_test0 x (n := rg_h g r i) (by omega)).mp z
      rw [y i hi] at z; cases z
    · rcases Nat.lt_or_ge k i with y | y
      · exact hs k y
      · have y : k = i := by omega
        subst y
        exact ts_nf fun w => z ((b_test0 x (by omega)).mpr w)
theorem yw_symbolsOf (hg : rg_ok g) (hG : xg_G g b_lefts b_rights b_counts) {r : Nat} (hr : r < rg_n g ∨ r = 9) {post : Int32 → Prop} (h : ∀ x, (∀ b, bt x b = true ↔ ∃ k, k < rg_c g r ∧ rg_h g r k = b) → post x) : wpY_symbolsOf post (h_made, h_depth, h_length, h_tokenCount, h_wrong, h_letterCount, h_ruleCount, h_makingCount, h_usefulRules, h_stateCount, h_wideCount, h_useCount, h_result, b_ops, b_firsts, b_seconds, b_sizes, b_stack, b_roots, b_text, b_ends, b_tokenKinds, b_tokenSizes, b_letters, b_begins, b_closes, b_empties, b_nexts, b_sets, b_leads, b_classes, b_newClasses, b_lefts, b_rights, b_counts, b_making, b_firstSets, b_followSets, b_states, b_looks, b_wides, b_work, b_met, b_tasks, b_held, b_uses, b_reach) (nI r) := by
  obtain ⟨b1, b2, b3, b4, b5⟩ := rg_b hg hr
  obtain ⟨g1, g2, g3⟩ := hG r hr
  have cr : (nI r).toNatClampNeg = r := nI_clamp (by omega)
  refine loop_0 (fun f i s => wY_symbolsOf_4 post (nI r) h_made h_depth h_length h_tokenCount h_wrong h_letterCount h_ruleCount h_makingCount h_usefulRules h_stateCount h_wideCount h_useCount h_result b_ops b_firsts b_seconds b_sizes b_stack b_roots b_text b_ends b_tokenKinds b_tokenSizes b_letters b_begins b_closes b_empties b_nexts b_sets b_leads b_classes b_newClasses b_lefts b_rights b_counts b_making b_firstSets b_followSets b_states b_looks b_wides b_work b_met b_tasks b_held b_uses b_reach f s (nI i)) (fun i s => ∀ b, bt s b = true ↔ ∃ k, k < i ∧ rg_h g r k = b) (rg_c g r) 0 ?_ ?_ ?_
  · intro b
    rw [b_0]
    exact ⟨(fun z => by cases z), fun ⟨k, hk, _⟩ => absurd hk (Nat.not_lt_zero k)⟩
  · intro f s hs
    refine ⟨vp_in_nI (by omega) (by decide), br_t ?_ (h s hs)⟩
    rw [cr, g2]; exact nI_le (Nat.le_refl _) (by omega)
  · intro f i s hi hs hk
    refine ⟨vp_in_nI (by omega) (by decide), br_f ?_ ⟨pk_in (r * 4 + i) 40 (by omega) (ix_l4 r i), nm_e (nm_r (nI_1 i) (hk _ fun b => ?_))⟩⟩
    · rw [cr, g2]; exact nI_ge hi (by omega)
    · have hb := b5 i hi
      rw [pk_cl (r * 4 + i) (ix_l4 r i), g3 i hi, b_or, Bool.or_eq_true, hs b, b_one _ (by omega), decide_eq_true_eq]
      constructor
      · rintro (⟨k, k1, k2⟩ | rfl)
        · exact ⟨k, by omega, k2⟩
        · exact ⟨i, by omega, rfl⟩
      · rintro ⟨k, k1, k2⟩
        rcases Nat.lt_or_ge k i with z | z
        · exact Or.inl ⟨k, z, k2⟩
        · have z : k = i := by omega
          subst z; exact Or.inr k2.symm
/-- the useful rules as a mask -/
def yg_U (g : rg_T) (u : Int32) : Prop := ∀ r, bt u r = true ↔ us_U g r
def yr_I (g : rg_T) (n : Nat) (s : Int32 × Int32) : Prop :=
  (∀ b, bt s.1 b = true → co_C g b) ∧ (∀ r', bt s.2 r' = true → us_U g r') ∧ bt s.1 3 = true ∧ rd_J 9 (fun r s => r < rg_n g → xr_s g r s) sv_d n s ∧
  ∀ n', 27 ≤ n' → n' < n → n' % 9 < rg_n g → (∀ k, k < rg_c g (n' % 9) → en_E g (rg_h g (n' % 9) k)) → bt s.1 (rg_l g (n' % 9)) = true → bt s.2 (n' % 9) = true
theorem yr_cl (hg : rg_ok g) {n : Nat} {s : Int32 × Int32} (h : yr_I g n s) (hn : 27 ≤ n) : ∀ k, k < rg_n g → xr_s g k s := by
  have h1 := sv_pos h.2.2.1
  have h4 : sv_c s.1 ≤ 4 := cn_le _ 4
  have h9 := hg.1
  have cl := rd_end (B := 3) h.2.2.2.1 (by unfold sv_d; omega) (by omega) (fun e r hr h _ _ k hk hv => by
    unfold sv_d at e
    exact sv_full (by omega) hv ((hg.2.1 r h).2.2.2 k hk))
  exact fun k hk => cl k (by omega) hk
theorem yr_end (hg : rg_ok g) {s : Int32 × Int32} (h : yr_I g 90 s) : yg_U g s.2 := by
  intro r
  refine ⟨h.2.1 r, fun z => ?_⟩
  have h9 := hg.1
  have hr := z.1
  have cl := yr_cl hg h (by omega)
  have e : (81 + r) % 9 = r := by omega
  have := h.2.2.2.2 (81 + r) (by omega) (by omega)
  rw [e] at this
  refine this hr z.2.1 ?_
  have := z.2.2 (fun b => b < 3 ∨ bt s.1 b = true) ⟨Or.inr h.2.2.1, fun r hr he hl i hi => ?_⟩
  · rcases this with y | y
    · have := (hg.2.1 r z.1).1; omega
    · exact y
  · rcases Nat.lt_or_ge (rg_h g r i) 3 with y | y
    · exact Or.inl y
    · refine Or.inr (cl r hr he ?_ i hi y)
      rcases hl with y | y
      · have := (hg.2.1 r hr).1; omega
      · exact y
theorem yr_skip {n : Nat} {s : Int32 × Int32} (h : yr_I g n s) (hn : n % 9 < rg_n g → (∀ k, k < rg_c g (n % 9) → en_E g (rg_h g (n % 9) k)) → ¬ bt s.1 (rg_l g (n % 9)) = true) : yr_I g (n + 1) s := by
  obtain ⟨h1, h2, h3, h4, h5⟩ := h
  refine ⟨h1, h2, h3, rd_keep (by omega) h4 (fun a b c => absurd c (hn a b)), fun n' a b c d e => ?_⟩
  by_cases z : n' = n
  · subst z; exact absurd e (hn c d)
  · exact h5 n' a (by omega) c d e
theorem yr_use (hg : rg_ok g) {n : Nat} {s : Int32 × Int32} {x : Int32} (h : yr_I g n s) (hr : n % 9 < rg_n g) (hx : ∀ b, bt x b = true ↔ ∃ k, k < rg_c g (n % 9) ∧ rg_h g (n % 9) k = b) (he : ∀ k, k < rg_c g (n % 9) → en_E g (rg_h g (n % 9) k)) (hl : bt s.1 (rg_l g (n % 9)) = true) : yr_I g (n + 1) (s.1 ||| x, s.2 ||| (1 : Int32) <<< (nI (n % 9) &&& 31)) := by
  have hI := h
  obtain ⟨h1, h2, h3, h4, h5⟩ := h
  have h9 := hg.1
  have e1 : ∀ b, bt (s.1 ||| x) b = true ↔ bt s.1 b = true ∨ ∃ k, k < rg_c g (n % 9) ∧ rg_h g (n % 9) k = b := fun b => by rw [b_or, Bool.or_eq_true, hx]
  have e2 : ∀ b, bt (s.2 ||| (1 : Int32) <<< (nI (n % 9) &&& 31)) b = true ↔ bt s.2 b = true ∨ b = n % 9 := fun b => by rw [b_or, Bool.or_eq_true, b_one _ (by omega), decide_eq_true_eq]
  have hU : us_U g (n % 9) := ⟨hr, he, h1 _ hl⟩
  have same : xr_s g (n % 9) s → ∀ v, 3 ≤ v → v < 7 → (bt s.1 v = true ↔ bt (s.1 ||| x) v = true) := by
    intro hs v v3 v7
    rw [e1]
    refine ⟨Or.inl, fun z => ?_⟩
    rcases z with z | ⟨k, k1, rfl⟩
    · exact z
    · exact hs he hl k k1 v3
  refine ⟨fun b hb => ?_, fun r' hr' => ?_, (e1 3).mpr (Or.inl h3), ?_, fun n' a b c d e => ?_⟩
  · rcases (e1 b).mp hb with z | ⟨k, k1, rfl⟩
    · exact h1 b z
    · exact (co_self g).2 _ hr he (h1 _ hl) k k1
  · rcases (e2 r').mp hr' with z | rfl
    · exact h2 r' z
    · exact hU
  · by_cases hs : xr_s g (n % 9) s
    · have sm := same hs
      refine rd_congr (s := s) (fun k hk z zr a b i i1 i3 => ?_) ?_ (by omega) (rd_keep (by omega) h4 (fun _ => hs))
      · have l1 := hg.2.1 k zr
        exact (sm _ i3 (l1.2.2.2 i i1)).mp (z zr a ((sm _ l1.1 l1.2.1).mpr b) i i1 i3)
      · unfold sv_d
        rw [sv_eq sm]
    · refine rd_grow (by omega) h4 (fun z => hs (z hr)) ?_
      have : ∃ k, k < rg_c g (n % 9) ∧ 3 ≤ rg_h g (n % 9) k ∧ ¬ bt s.1 (rg_h g (n % 9) k) = true := by
        refine Classical.byContradiction fun z => hs fun _ _ k k1 k3 => ?_
        refine Classical.byContradiction fun y => z ⟨k, k1, k3, y⟩
      obtain ⟨k, k1, k3, k4⟩ := this
      have := sv_lt k3 ((hg.2.1 _ hr).2.2.2 k k1) k4 ((e1 _).mpr (Or.inr ⟨k, k1, rfl⟩)) (fun b hb => (e1 b).mpr (Or.inl hb))
      have p := sv_pos h3
      unfold sv_d
      show sv_c s.1 - 1 < sv_c (s.1 ||| x) - 1
      omega
  · by_cases z : n' % 9 = n % 9
    · exact (e2 _).mpr (Or.inr z)
    · have z2 : n' ≠ n := fun y => z (by rw [y])
      refine (e2 _).mpr (Or.inl (h5 n' a (by omega) c d ?_))
      have cl := yr_cl hg hI (by omega) (n % 9) hr
      have l1 := hg.2.1 _ c
      exact (same cl _ l1.1 l1.2.1).mpr e
theorem yw_findUseful (hg : rg_ok g) (hG : xg_G g b_lefts b_rights b_counts) {post : SY → Prop} (h : ∀ u, yg_U g u → post (h_made, h_depth, h_length, h_tokenCount, h_wrong, h_letterCount, (nI (rg_n g)), h_makingCount, u, h_stateCount, h_wideCount, h_useCount, h_result, b_ops, b_firsts, b_seconds, b_sizes, b_stack, b_roots, b_text, b_ends, b_tokenKinds, b_tokenSizes, b_letters, b_begins, b_closes, b_empties, b_nexts, b_sets, b_leads, b_classes, b_newClasses, b_lefts, b_rights, b_counts, b_making, b_firstSets, b_followSets, b_states, b_looks, b_wides, b_work, b_met, b_tasks, b_held, b_uses, b_reach)) : wpY_findUseful post (h_made, h_depth, h_length, h_tokenCount, h_wrong, h_letterCount, (nI (rg_n g)), h_makingCount, h_usefulRules, h_stateCount, h_wideCount, h_useCount, h_result, b_ops, b_firsts, b_seconds, b_sizes, b_stack, b_roots, b_text, b_ends, b_tokenKinds, b_tokenSizes, b_letters, b_begins, b_closes, b_empties, b_nexts, b_sets, b_leads, b_classes, b_newClasses, b_lefts, b_rights, b_counts, b_making, b_firstSets, b_followSets, b_states, b_looks, b_wides, b_work, b_met, b_tasks, b_held, b_uses, b_reach) := by
  have h9 := hg.1
  have rem : ∀ n, n < 90 → nI n - nI n / 9 * 9 = nI (n % 9) := fun n hn => pk_rem (d := 9) (by omega) (by decide) (by decide)
  refine loop_0 (fun f n s => wY_findUseful_13 post 8 h_made h_depth h_length h_tokenCount h_wrong h_letterCount (nI (rg_n g)) h_makingCount 0 h_stateCount h_wideCount h_useCount h_result b_ops b_firsts b_seconds b_sizes b_stack b_roots b_text b_ends b_tokenKinds b_tokenSizes b_letters b_begins b_closes b_empties b_nexts b_sets b_leads b_classes b_newClasses b_lefts b_rights b_counts b_making b_firstSets b_followSets b_states b_looks b_wides b_work b_met b_tasks b_held b_uses b_reach f s (nI n)) (fun n s => (∀ b, b < 3 → bt s b = true) ∧ (∀ b, bt s b = true → en_E g b) ∧ rd_J 9 (fun r s => r < rg_n g → (∀ k, k < rg_c g r → bt s (rg_h g r k) = true) → bt s (rg_l g r) = true) sv_c n s) 90 7 ?_ ?_ ?_
  · refine ⟨fun b hb => by rw [b_7b, decide_eq_true hb], fun b hb => ?_, rd_i⟩
    rw [b_7b, decide_eq_true_eq] at hb
    exact (en_self g).1 b hb
  · rintro f E ⟨s1, s2, s3⟩
    have cl := rd_end (B := 4) s3 (cn_le _ 4) (by omega) (fun e r _ hr _ => sv_full e (hg.2.1 r hr).1 (hg.2.1 r hr).2.1)
    have hE : ∀ b, bt E b = true ↔ en_E g b := fun b => ⟨s2 b, fun hb => hb (fun b => bt E b = true) ⟨s1, fun r hr hi => cl r (by omega) hr hi⟩⟩
    refine br_t (nI_le (Nat.le_refl 90) (by decide)) ?_
    refine loop_0 (fun f n s => wY_findUseful_68 post E h_made h_depth h_length h_tokenCount h_wrong h_letterCount (nI (rg_n g)) h_makingCount h_stateCount h_wideCount h_useCount h_result b_ops b_firsts b_seconds b_sizes b_stack b_roots b_text b_ends b_tokenKinds b_tokenSizes b_letters b_begins b_closes b_empties b_nexts b_sets b_leads b_classes b_newClasses b_lefts b_rights b_counts b_making b_firstSets b_followSets b_states b_looks b_wides b_work b_met b_tasks b_held b_uses b_reach f s.1 (nI n) s.2) (fun n s => yr_I g n s) 90 ((8 : Int32), (0 : Int32)) ?_ ?_ ?_
    · refine ⟨fun b hb => ?_, fun r hr => ?_, by show bt 8 3 = true; rw [b_8b]; rfl, rd_i, fun n' _ h => absurd h (Nat.not_lt_zero _)⟩
      · have hb : bt 8 b = true := hb
        rw [b_8b, decide_eq_true_eq] at hb
        subst hb
        exact (co_self g).1
      · have hr : bt 0 r = true := hr
        rw [b_0] at hr; cases hr
    · rintro f ⟨s, u⟩ hs
      exact br_t (nI_le (Nat.le_refl 90) (by decide)) (h u (yr_end hg hs))
    · rintro f n ⟨s, u⟩ hn hs hk
      have skip : yr_I g (n + 1) (s, u) → wY_findUseful_118 post (wY_findUseful_68 post E h_made h_depth h_length h_tokenCount h_wrong h_letterCount (nI (rg_n g)) h_makingCount h_stateCount h_wideCount h_useCount h_result b_ops b_firsts b_seconds b_sizes b_stack b_roots b_text b_ends b_tokenKinds b_tokenSizes b_letters b_begins b_closes b_empties b_nexts b_sets b_leads b_classes b_newClasses b_lefts b_rights b_counts b_making b_firstSets b_followSets b_states b_looks b_wides b_work b_met b_tasks b_held b_uses b_reach f) E s (nI n) (nI (n % 9)) h_made h_depth h_length h_tokenCount h_wrong h_letterCount (nI (rg_n g)) h_makingCount u h_stateCount h_wideCount h_useCount h_result b_ops b_firsts b_seconds b_sizes b_stack b_roots b_text b_ends b_tokenKinds b_tokenSizes b_letters b_begins b_closes b_empties b_nexts b_sets b_leads b_classes b_newClasses b_lefts b_rights b_counts b_making b_firstSets b_followSets b_states b_looks b_wides b_work b_met b_tasks b_held b_uses b_reach := by
        intro z
        exact br_t rfl (br_t rfl (nm_r (nI_1 n) (hk (s, u) z)))
      refine br_f (nI_ge hn (by decide)) ⟨by decide, nm_r (rem n hn) (pk_le (rg_n g) (n % 9) (fun z => ?_) (fun z => ?_))⟩
      · exact skip (yr_skip hs fun y => by omega)
      · obtain ⟨g1, g2, g3⟩ := hG (n % 9) (Or.inl z)
        have l := hg.2.1 _ z
        have hen : (∀ k, k < rg_c g (n % 9) → bt E (rg_h g (n % 9) k) = true) ↔ ∀ k, k < rg_c g (n % 9) → en_E g (rg_h g (n % 9) k) := ⟨fun y k hk => (hE _).mp (y k hk), fun y k hk => (hE _).mpr (y k hk)⟩
        refine yw_isWithin hg hG (Or.inl z) (fun y => ?_) (fun y => ?_)
        · refine br_f (by decide) ⟨vp_in_nI (by omega) (by decide), ?_⟩
          rw [nI_clamp (by omega : n % 9 < 2 ^ 31), g1]
          refine br_c (fun w => ?_) (fun w => ?_)
          · have w := (b_test s (n := rg_l g (n % 9)) (by omega)).mp w
            refine br_f (by decide) (yw_symbolsOf hg hG (Or.inl z) (fun x hx => br_f (by decide) (nm_e (nm_r (nI_1 n) (hk _ (yr_use hg hs z hx (hen.mp y) w))))))
          · exact skip (yr_skip hs fun _ _ k => w ((b_test s (by omega)).mpr k))
        · exact br_t rfl (skip (yr_skip hs fun _ k => absurd (hen.mpr k) y))
  · rintro f n s hn ⟨s1, s2, s3⟩ hk
    refine br_f (nI_ge hn (by decide)) ⟨by decide, nm_r (rem n hn) (pk_le (rg_n g) (n % 9) (fun z => ?_) (fun z => ?_))⟩
    · exact nm_r (nI_1 n) (hk s ⟨s1, s2, rd_keep (by omega) s3 (fun y => by omega)⟩)
    · obtain ⟨g1, g2, g3⟩ := hG (n % 9) (Or.inl z)
      have l := hg.2.1 _ z
      refine yw_isWithin hg hG (Or.inl z) (fun hin => ?_) (fun y => ?_)
      · refine br_f (by decide) ⟨vp_in_nI (by omega) (by decide), nm_e (nm_r (nI_1 n) (hk _ ?_))⟩
        rw [nI_clamp (by omega : n % 9 < 2 ^ 31), g1]
        have e : ∀ b, bt (s ||| (1 : Int32) <<< (nI (rg_l g (n % 9)) &&& 31)) b = true ↔ bt s b = true ∨ b = rg_l g (n % 9) := by
          intro b
          rw [b_or, Bool.or_eq_true, b_one _ (by omega), decide_eq_true_eq]
        refine ⟨fun b hb => (e b).mpr (Or.inl (s1 b hb)), fun b hb => ?_, ?_⟩
        · rcases (e b).mp hb with y | rfl
          · exact s2 b y
          · exact (en_self g).2 _ z (fun i hi => s2 _ (hin i hi))
        · by_cases y : bt s (rg_l g (n % 9)) = true
          · have es : s ||| (1 : Int32) <<< (nI (rg_l g (n % 9)) &&& 31) = s := by
              apply b_ext
              intro i _
              cases w : bt s i
              · cases w2 : bt (s ||| (1 : Int32) <<< (nI (rg_l g (n % 9)) &&& 31)) i
                · rfl
                · rcases (e i).mp w2 with k | rfl
                  · rw [w] at k; cases k
                  · rw [w] at y; cases y
              · exact (e i).mpr (Or.inl w)
            rw [es]
            exact rd_keep (by omega) s3 (fun _ _ => y)
          · exact rd_grow (by omega) s3 (fun k => y (k z hin)) (sv_lt l.1 l.2.1 y ((e _).mpr (Or.inr rfl)) (fun b hb => (e b).mpr (Or.inl hb)))
      · refine br_t rfl (nm_r (nI_1 n) (hk s ⟨s1, s2, rd_keep (by omega) s3 (fun _ k => absurd k y)⟩))
end
end
section
/-! the reference's begins and follows -/
variable {h_made h_depth h_length h_tokenCount h_wrong h_letterCount h_ruleCount h_makingCount h_usefulRules h_stateCount h_wideCount h_useCount h_result : Int32} {b_ops b_firsts b_seconds b_sizes b_stack b_roots b_text b_ends b_tokenKinds b_tokenSizes b_letters b_begins b_closes b_empties b_nexts b_sets b_leads b_classes b_newClasses b_lefts b_rights b_counts b_making b_firstSets b_followSets b_tasks b_held b_uses b_reach : Nat → Int32} {b_states b_looks b_wides b_work b_met : Nat → Int64}
section
variable {g : rg_T}
theorem dn_lt {p : Nat} (hp : p < 2 ^ 31) : nI p + (-1) < nI p := by
  cases p with
  | zero => decide
  | succ q => rw [pk_m1]; exact nI_lt (by omega) hp
theorem yw_firstFrom (hg : rg_ok g) (hG : xg_G g b_lefts b_rights b_counts) (h4 : xb_4 b_firstSets) {r p : Nat} (hr : r < rg_n g ∨ r = 9) (hp : p ≤ rg_c g r) {post : Int32 → Prop} (h : ∀ x, (∀ b, bt x b = true ↔ fs_b (xb_F b_firstSets) (rg_h g r) (rg_c g r - p) p b) → post x) : wpY_firstFrom post (h_made, h_depth, h_length, h_tokenCount, h_wrong, h_letterCount, h_ruleCount, h_makingCount, h_usefulRules, h_stateCount, h_wideCount, h_useCount, h_result, b_ops, b_firsts, b_seconds, b_sizes, b_stack, b_roots, b_text, b_ends, b_tokenKinds, b_tokenSizes, b_letters, b_begins, b_closes, b_empties, b_nexts, b_sets, b_leads, b_classes, b_newClasses, b_lefts, b_rights, b_counts, b_making, b_firstSets, b_followSets, b_states, b_looks, b_wides, b_work, b_met, b_tasks, b_held, b_uses, b_reach) (nI r) (nI p) := by
  obtain ⟨b1, b2, b3, b4, b5⟩ := rg_b hg hr
  obtain ⟨g1, g2, g3⟩ := hG r hr
  have cr : (nI r).toNatClampNeg = r := nI_clamp (by omega)
  have key : ∀ j (s : Int32), p + j ≤ rg_c g r → (∀ b, bt s b = true ↔ fs_b (xb_F b_firstSets) (rg_h g r) (rg_c g r - (p + j)) (p + j) b) → wY_firstFrom_13 post (nI r) (nI p) h_made h_depth h_length h_tokenCount h_wrong h_letterCount h_ruleCount h_makingCount h_usefulRules h_stateCount h_wideCount h_useCount h_result b_ops b_firsts b_seconds b_sizes b_stack b_roots b_text b_ends b_tokenKinds b_tokenSizes b_letters b_begins b_closes b_empties b_nexts b_sets b_leads b_classes b_newClasses b_lefts b_rights b_counts b_making b_firstSets b_followSets b_states b_looks b_wides b_work b_met b_tasks b_held b_uses b_reach (j + 1) s (nI (p + j) + (-1)) := by
    intro j
    induction j with
    | zero => intro s hj hs; exact br_t (dn_lt (by omega)) (h s hs)
    | succ j ih =>
      intro s hj hs
      have hc : rg_c g r - (p + j) = (rg_c g r - (p + (j + 1))) + 1 := by omega
      have hh := b5 (p + j) (by omega)
      have ch : (nI (rg_h g r (p + j))).toNatClampNeg = rg_h g r (p + j) := nI_clamp (by omega)
      rw [show nI (p + (j + 1)) + (-1) = nI (p + j) from pk_m1 _]
      refine br_f (nI_nlt (by omega) (by omega)) ⟨pk_in (r * 4 + (p + j)) 40 (by omega) (ix_l4 r (p + j)), ?_⟩
      rw [pk_cl (r * 4 + (p + j)) (ix_l4 r (p + j)), g3 (p + j) (by omega)]
      refine ⟨vp_in_nI hh (by decide), nm_r (e' := b_firstSets (rg_h g r (p + j))) (by rw [ch]) (br_c (fun z => ?_) (fun z => ?_))⟩
      · have z := (b_and8 _).mp z
        refine nm_e (ih _ (by omega) fun b => ?_)
        rw [hc]
        constructor
        · intro y
          have := h4 _ b hh y
          refine Or.inl ⟨?_, y⟩
          have : b ≠ 3 := fun e => by rw [e, z] at y; cases y
          omega
        · rintro (⟨_, y⟩ | ⟨y, _⟩)
          · exact y
          · have y : bt (b_firstSets (rg_h g r (p + j))) 3 = true := y
            rw [z] at y; cases y
      · have z : xb_F b_firstSets (rg_h g r (p + j)) 3 := ts_nf fun y => z ((b_and8 _).mpr y)
        refine nm_e (nm_e (ih _ (by omega) fun b => ?_))
        rw [hc, b_or, Bool.or_eq_true, b_and, Bool.and_eq_true, b_7b, decide_eq_true_eq, hs b]
        constructor
        · rintro (⟨y1, y2⟩ | y)
          · exact Or.inl ⟨y2, y1⟩
          · exact Or.inr ⟨z, y⟩
        · rintro (⟨y1, y2⟩ | ⟨_, y⟩)
          · exact Or.inl ⟨y2, y1⟩
          · exact Or.inr y
  refine ⟨vp_in_nI (by omega) (by decide), nm_r (e' := nI (p + (rg_c g r - p)) + (-1)) ?_ ⟨rg_c g r - p + 1, key _ 8 (by omega) fun b => ?_⟩⟩
  · rw [cr, g2, show p + (rg_c g r - p) = rg_c g r by omega]; exact Int32.sub_eq_add_neg _ _
  · rw [show p + (rg_c g r - p) = rg_c g r by omega, Nat.sub_self, b_8b, decide_eq_true_eq]
    exact Iff.rfl
noncomputable def sx_c (a : Nat → Int32) : Nat := cn_c (fun x => bt (a (x / 4)) (x % 4) = true) 28
theorem sx_lt {a a' : Nat → Int32} {v b : Nat} (h7 : v < 7) (hb : b < 4) (h1 : ¬ bt (a v) b = true) (h2 : bt (a' v) b = true) (h : ∀ s b, s < 7 → bt (a s) b = true → bt (a' s) b = true) : sx_c a < sx_c a' := by
  have e1 : (v * 4 + b) / 4 = v := by omega
  have e2 : (v * 4 + b) % 4 = b := by omega
  exact cn_lt (a := v * 4 + b) (by rw [e1, e2]; exact h1) (by rw [e1, e2]; exact h2) (fun k hk z => h _ _ (by omega) z) (by omega)
theorem sx_full {a : Nat → Int32} (h : sx_c a = 28) {v b : Nat} (h7 : v < 7) (hb : b < 4) : bt (a v) b = true := by
  have := cn_full h (v * 4 + b) (by omega)
  rwa [show (v * 4 + b) / 4 = v by omega, show (v * 4 + b) % 4 = b by omega] at this
/-- place k % 4 of rule k / 4 adds nothing to the follows -/
def yf_s (g : rg_T) (F : Nat → Nat → Prop) (k : Nat) (a : Nat → Int32) : Prop := us_U g (k / 4) → k % 4 < rg_c g (k / 4) → (∀ b, b < 3 → xf_R g F (k / 4) (k % 4) b → bt (a (rg_h g (k / 4) (k % 4))) b = true) ∧ (xf_R g F (k / 4) (k % 4) 3 → ∀ b, bt (a (rg_l g (k / 4))) b = true → bt (a (rg_h g (k / 4) (k % 4))) b = true)
def yf_S (g : rg_T) (a : Nat → Int32) : Prop := (∀ s b, s < 7 → bt (a s) b = true → fo_W g s b) ∧ bt (a 3) 3 = true
def yf_ok (g : rg_T) (a : Nat → Int32) : Prop := ∀ v b, v < 7 → (bt (a v) b = true ↔ fo_W g v b)
theorem yf_end (hg : rg_ok g) {F : Nat → Nat → Prop} (hF : ∀ s b, s < 7 → (F s b ↔ fi_F g s b)) {n : Nat} {a : Nat → Int32} (hS : yf_S g a) (hJ : rd_J 36 (yf_s g F) sx_c n a) (hn : 1008 ≤ n) : yf_ok g a := by
  have cl := rd_end hJ (cn_le _ 28) hn (fun e k hk hU hi => by
    have l := hg.2.1 _ hU.1
    have h7 := l.2.2.2 _ hi
    exact ⟨fun b hb _ => sx_full e h7 (by omega), fun _ b hb => sx_full e h7 (by have := fo_rng (hS.1 _ _ l.2.1 hb); omega)⟩)
  intro v b v7
  refine ⟨hS.1 v b v7, fun z => ?_⟩
  have := z (fun v b => v < 7 → bt (a v) b = true) ⟨fun _ => hS.2, fun r i hU hi => ?_⟩
  · exact this v7
  · have l := hg.2.1 r hU.1
    have h9 := hg.1
    have hr := hU.1
    have e : ∀ b, xf_R g F r i b ↔ fs_b (fi_F g) (rg_h g r) (rg_c g r - (i + 1)) (i + 1) b := fun b => fs_iff7 l.2.2.2 hF _ _ _ (by omega)
    have h4 : (r * 4 + i) / 4 = r := by omega
    have h5 : (r * 4 + i) % 4 = i := by omega
    have := cl (r * 4 + i) (by omega)
    unfold yf_s at this
    rw [h4, h5] at this
    have := this hU hi
    exact ⟨fun b hb hR _ => this.1 b hb ((e b).mpr hR), fun hR b hb _ => this.2 ((e 3).mpr hR) b (hb l.2.1)⟩
theorem yw_findSets (hg : rg_ok g) (hG : xg_G g b_lefts b_rights b_counts) {post : SY → Prop} (h : ∀ u a w, yg_U g u → xb_ok g a → xb_4 a → yf_ok g w → post (h_made, h_depth, h_length, h_tokenCount, h_wrong, h_letterCount, (nI (rg_n g)), h_makingCount, u, h_stateCount, h_wideCount, h_useCount, h_result, b_ops, b_firsts, b_seconds, b_sizes, b_stack, b_roots, b_text, b_ends, b_tokenKinds, b_tokenSizes, b_letters, b_begins, b_closes, b_empties, b_nexts, b_sets, b_leads, b_classes, b_newClasses, b_lefts, b_rights, b_counts, b_making, a, w, b_states, b_looks, b_wides, b_work, b_met, b_tasks, b_held, b_uses, b_reach)) : wpY_findSets post (h_made, h_depth, h_length, h_tokenCount, h_wrong, h_letterCount, (nI (rg_n g)), h_makingCount, h_usefulRules, h_stateCount, h_wideCount, h_useCount, h_result, b_ops, b_firsts, b_seconds, b_sizes, b_stack, b_roots, b_text, b_ends, b_tokenKinds, b_tokenSizes, b_letters, b_begins, b_closes, b_empties, b_nexts, b_sets, b_leads, b_classes, b_newClasses, b_lefts, b_rights, b_counts, b_making, b_firstSets, b_followSets, b_states, b_looks, b_wides, b_work, b_met, b_tasks, b_held, b_uses, b_reach) := by
  have h9 := hg.1
  refine yw_findUseful (h_usefulRules := h_usefulRules) hg hG (fun u hU => ?_)
  refine loop_0 (fun f i s => wY_findSets_6 post h_made h_depth h_length h_tokenCount h_wrong h_letterCount (nI (rg_n g)) h_makingCount u h_stateCount h_wideCount h_useCount h_result f (nI i) b_ops b_firsts b_seconds b_sizes b_stack b_roots b_text b_ends b_tokenKinds b_tokenSizes b_letters b_begins b_closes b_empties b_nexts b_sets b_leads b_classes b_newClasses b_lefts b_rights b_counts b_making s.1 s.2 b_states b_looks b_wides b_work b_met b_tasks b_held b_uses b_reach) (fun i s => (∀ s', s' < i → ∀ b, bt (s.1 s') b = true ↔ s' < 3 ∧ b = s') ∧ (∀ s', s' < i → ∀ b, bt (s.2 s') b = true ↔ s' = 3 ∧ b = 3)) 7 (b_firstSets, b_followSets) ⟨fun s' hs => absurd hs (Nat.not_lt_zero s'), fun s' hs => absurd hs (Nat.not_lt_zero s')⟩ ?_ ?_
  · rintro f ⟨s, w⟩ ⟨hs, hw⟩
    have hs : ∀ s', s' < 7 → ∀ b, bt (s s') b = true ↔ s' < 3 ∧ b = s' := hs
    have hw : ∀ s', s' < 7 → ∀ b, bt (w s') b = true ↔ s' = 3 ∧ b = 3 := hw
    refine br_t (nI_le (Nat.le_refl 7) (by decide)) ?_
    refine loop_0 (fun f n s => wY_findSets_55 post h_made h_depth h_length h_tokenCount h_wrong h_letterCount (nI (rg_n g)) h_makingCount u h_stateCount h_wideCount h_useCount h_result f (nI n) b_ops b_firsts b_seconds b_sizes b_stack b_roots b_text b_ends b_tokenKinds b_tokenSizes b_letters b_begins b_closes b_empties b_nexts b_sets b_leads b_classes b_newClasses b_lefts b_rights b_counts b_making s w b_states b_looks b_wides b_work b_met b_tasks b_held b_uses b_reach) (fun n s => xb_I g 9 n s) 360 s ?_ ?_ ?_
    · refine ⟨fun s' b h7 hb => ?_, fun s' b h3 => ?_, fun s' b h7 hb => ?_, rd_i⟩
      · obtain ⟨_, rfl⟩ := (hs s' h7 b).mp hb; omega
      · rw [hs s' (by omega) b]; exact ⟨fun z => z.2, fun z => ⟨h3, z⟩⟩
      · obtain ⟨z, rfl⟩ := (hs s' h7 b).mp hb
        exact (fi_ok g).1 _ z
    · intro f a ha
      have hF := xb_end hg ha h9 (by omega)
      have h4 := ha.1
      refine br_t (nI_le (Nat.le_refl 360) (by decide)) ?_
      refine loop_0 (fun f n w => wY_findSets_112 post h_made h_depth h_length h_tokenCount h_wrong h_letterCount (nI (rg_n g)) h_makingCount u h_stateCount h_wideCount h_useCount h_result f (nI n) b_ops b_firsts b_seconds b_sizes b_stack b_roots b_text b_ends b_tokenKinds b_tokenSizes b_letters b_begins b_closes b_empties b_nexts b_sets b_leads b_classes b_newClasses b_lefts b_rights b_counts b_making a w b_states b_looks b_wides b_work b_met b_tasks b_held b_uses b_reach) (fun n w => yf_S g w ∧ rd_J 36 (yf_s g (xb_F a)) sx_c n w) 1440 w ?_ ?_ ?_
      · refine ⟨⟨fun s' b h7 hb => ?_, (hw 3 (by omega) 3).mpr ⟨rfl, rfl⟩⟩, rd_i⟩
        obtain ⟨rfl, rfl⟩ := (hw s' h7 b).mp hb
        exact (fo_self g).1
      · rintro f w ⟨w1, w2⟩
        exact br_t (nI_le (Nat.le_refl 1440) (by decide)) (h u a w hU hF h4 (yf_end hg hF w1 w2 (by omega)))
      · rintro f n w hn ⟨w1, w2⟩ hk
        have e1 : nI n / 4 - nI n / 4 / 9 * 9 = nI (n / 4 % 9) := by
          rw [show nI n / 4 = nI (n / 4) from pk_div (d := 4) (by omega) (by decide) (by decide)]
          exact pk_rem (d := 9) (by omega) (by decide) (by decide)
        have e2 : nI n - nI n / 4 * 4 = nI (n % 4) := pk_rem (d := 4) (by omega) (by decide) (by decide)
        have k1 : n % 36 / 4 = n / 4 % 9 := by omega
        have k2 : n % 36 % 4 = n % 4 := by omega
        have skip : (us_U g (n / 4 % 9) → n % 4 < rg_c g (n / 4 % 9) → False) → yf_S g w ∧ rd_J 36 (yf_s g (xb_F a)) sx_c (n + 1) w := by
          intro z
          refine ⟨w1, rd_keep (by omega) w2 ?_⟩
          unfold yf_s
          rw [k1, k2]
          exact fun a b => (z a b).elim
        refine br_f (nI_ge hn (by decide)) ⟨by decide, by decide, nm_r e1 ⟨by decide, nm_r e2 (br_c (fun z => ?_) (fun z => ?_))⟩⟩
        · have z := (hU _).mp ((b_test u (n := n / 4 % 9) (by omega)).mp z)
          obtain ⟨g1, g2, g3⟩ := hG (n / 4 % 9) (Or.inl z.1)
          have l := hg.2.1 _ z.1
          have cr : (nI (n / 4 % 9)).toNatClampNeg = n / 4 % 9 := nI_clamp (by omega)
          have cl : (nI (rg_l g (n / 4 % 9))).toNatClampNeg = rg_l g (n / 4 % 9) := nI_clamp (by omega)
          refine br_f (by decide) ⟨vp_in_nI (by omega) (by decide), ?_⟩
          rw [cr, g2, g1]
          refine pk_le (rg_c g (n / 4 % 9)) (n % 4) (fun y => ?_) (fun y => ?_)
          · exact nm_r (nI_1 n) (hk w (skip fun _ y' => by omega))
          · have hh := l.2.2.2 _ y
            have ch : (nI (rg_h g (n / 4 % 9) (n % 4))).toNatClampNeg = rg_h g (n / 4 % 9) (n % 4) := nI_clamp (by omega)
            have fin : ∀ x : Int32, (∀ b, bt x b = true ↔ (b < 3 ∧ xf_R g (xb_F a) (n / 4 % 9) (n % 4) b) ∨ (xf_R g (xb_F a) (n / 4 % 9) (n % 4) 3 ∧ bt (w (rg_l g (n / 4 % 9))) b = true)) → wY_findSets_188 post (wY_findSets_112 post h_made h_depth h_length h_tokenCount h_wrong h_letterCount (nI (rg_n g)) h_makingCount u h_stateCount h_wideCount h_useCount h_result f) (nI n) (nI (n / 4 % 9)) (nI (n % 4)) x h_made h_depth h_length h_tokenCount h_wrong h_letterCount (nI (rg_n g)) h_makingCount u h_stateCount h_wideCount h_useCount h_result b_ops b_firsts b_seconds b_sizes b_stack b_roots b_text b_ends b_tokenKinds b_tokenSizes b_letters b_begins b_closes b_empties b_nexts b_sets b_leads b_classes b_newClasses b_lefts b_rights b_counts b_making a w b_states b_looks b_wides b_work b_met b_tasks b_held b_uses b_reach := by
              intro x hx
              have ixx := ix_l4 (n / 4 % 9) (n % 4)
              refine ⟨pk_in _ 40 (by omega) ixx, pk_in _ 40 (by omega) ixx, ?_⟩
              rw [pk_cl _ ixx, g3 _ y]
              refine ⟨vp_in_nI hh (by decide), vp_in_nI hh (by decide), nm_r (by rw [ch]) (nm_r (nI_1 n) (hk _ ?_))⟩
              have e : ∀ v b, bt (upd w (rg_h g (n / 4 % 9) (n % 4)) (w (rg_h g (n / 4 % 9) (n % 4)) ||| x) v) b = true ↔ bt (w v) b = true ∨ (v = rg_h g (n / 4 % 9) (n % 4) ∧ bt x b = true) := by
                intro v b
                by_cases q : v = rg_h g (n / 4 % 9) (n % 4)
                · subst q
                  rw [pk_us, b_or, Bool.or_eq_true]
                  exact ⟨fun y => y.imp id (fun y => ⟨rfl, y⟩), fun y => y.imp id (fun y => y.2)⟩
                · rw [pk_un q]
                  exact ⟨Or.inl, fun y => by
                    rcases y with y | y
                    · exact y
                    · exact absurd y.1 q⟩
              have snd : ∀ b, bt x b = true → fo_W g (rg_h g (n / 4 % 9) (n % 4)) b := by
                intro b hb
                have W := fo_self g
                have ee : ∀ b, xf_R g (xb_F a) (n / 4 % 9) (n % 4) b ↔ fs_b (fi_F g) (rg_h g (n / 4 % 9)) (rg_c g (n / 4 % 9) - (n % 4 + 1)) (n % 4 + 1) b := fun b => fs_iff7 l.2.2.2 hF _ _ _ (by omega)
                rcases (hx b).mp hb with ⟨q1, q2⟩ | ⟨q1, q2⟩
                · exact (W.2 _ _ z y).1 b q1 ((ee b).mp q2)
                · exact (W.2 _ _ z y).2 ((ee 3).mp q1) b (w1.1 _ _ l.2.1 q2)
              refine ⟨⟨fun v b hv hb => ?_, (e 3 3).mpr (Or.inl w1.2)⟩, ?_⟩
              · rcases (e v b).mp hb with q | ⟨rfl, q⟩
                · exact w1.1 v b hv q
                · exact snd b q
              · by_cases q : ∀ b, bt x b = true → bt (w (rg_h g (n / 4 % 9) (n % 4))) b = true
                · have es : upd w (rg_h g (n / 4 % 9) (n % 4)) (w (rg_h g (n / 4 % 9) (n % 4)) ||| x) = w := by
                    funext v
                    apply b_ext
                    intro b _
                    cases c1 : bt (w v) b
                    · cases c2 : bt (upd w (rg_h g (n / 4 % 9) (n % 4)) (w (rg_h g (n / 4 % 9) (n % 4)) ||| x) v) b
                      · rfl
                      · rcases (e v b).mp c2 with k | ⟨rfl, k⟩
                        · rw [c1] at k; cases k
                        · rw [q b k] at c1; cases c1
                    · exact (e v b).mpr (Or.inl c1)
                  rw [es]
                  refine rd_keep (by omega) w2 ?_
                  unfold yf_s
                  rw [k1, k2]
                  exact fun _ _ => ⟨fun b b3 hR => q b ((hx b).mpr (Or.inl ⟨b3, hR⟩)), fun hR b hb => q b ((hx b).mpr (Or.inr ⟨hR, hb⟩))⟩
                · refine rd_grow (by omega) w2 (fun hs => q fun b hb => ?_) ?_
                  · unfold yf_s at hs
                    rw [k1, k2] at hs
                    have hs := hs z y
                    rcases (hx b).mp hb with ⟨q1, q2⟩ | ⟨q1, q2⟩
                    · exact hs.1 b q1 q2
                    · exact hs.2 q1 b q2
                  · have : ∃ b, bt x b = true ∧ ¬ bt (w (rg_h g (n / 4 % 9) (n % 4))) b = true := by
                      refine Classical.byContradiction fun k => q fun b hb => ?_
                      exact Classical.byContradiction fun k2 => k ⟨b, hb, k2⟩
                    obtain ⟨b, q1, q2⟩ := this
                    exact sx_lt hh (by have := fo_rng (snd b q1); omega) q2 ((e _ _).mpr (Or.inr ⟨rfl, q1⟩)) (fun s b _ hb => (e s b).mpr (Or.inl hb))
            rw [nI_1]
            refine yw_firstFrom hg hG h4 (Or.inl z.1) (by omega) (fun x hx => br_c (fun q => ?_) (fun q => ?_))
            · have q := (b_and8 _).mp q
              refine fin _ fun b => ?_
              rw [hx b]
              constructor
              · intro k
                refine Or.inl ⟨?_, k⟩
                have k3 := fs_le _ _ _ k
                have : b ≠ 3 := fun e => by rw [e] at k; rw [(hx 3).mpr k] at q; cases q
                omega
              · rintro (⟨_, k⟩ | ⟨k, _⟩)
                · exact k
                · rw [(hx 3).mpr k] at q; cases q
            · have q : bt x 3 = true := ts_nf fun k => q ((b_and8 _).mpr k)
              refine ⟨vp_in_nI (by omega) (by decide), vp_in_nI l.2.1 (by decide), ?_⟩
              refine fin _ fun b => ?_
              rw [cl, b_or, Bool.or_eq_true, b_and, Bool.and_eq_true, b_7b, decide_eq_true_eq, hx b]
              constructor
              · rintro (⟨k1, k2⟩ | k)
                · exact Or.inl ⟨k2, k1⟩
                · exact Or.inr ⟨(hx 3).mp q, k⟩
              · rintro (⟨k1, k2⟩ | ⟨_, k⟩)
                · exact Or.inl ⟨k2, k1⟩
                · exact Or.inr k
        · have z : ¬ us_U g (n / 4 % 9) := fun y => z ((b_test u (by omega)).mpr ((hU _).mpr y))
          exact br_t rfl (nm_r (nI_1 n) (hk w (skip fun y => absurd y z)))
    · intro f n s hn hs hk
      have e1 : nI n - nI n / 9 * 9 = nI (n % 9) := pk_rem (d := 9) (by omega) (by decide) (by decide)
      refine br_f (nI_ge hn (by decide)) ⟨by decide, nm_r e1 (br_c (fun z => ?_) (fun z => ?_))⟩
      · have z := (hU _).mp ((b_test u (n := n % 9) (by omega)).mp z)
        obtain ⟨g1, g2, g3⟩ := hG (n % 9) (Or.inl z.1)
        have l := hg.2.1 _ z.1
        have cr : (nI (n % 9)).toNatClampNeg = n % 9 := nI_clamp (by omega)
        have cl : (nI (rg_l g (n % 9))).toNatClampNeg = rg_l g (n % 9) := nI_clamp (by omega)
        refine br_f (by decide) ⟨vp_in_nI (by omega) (by decide), vp_in_nI (by omega) (by decide), ?_⟩
        rw [cr, g1]
        refine ⟨vp_in_nI l.2.1 (by decide), yw_firstFrom (p := 0) hg hG hs.1 (Or.inl z.1) (Nat.zero_le _) (fun x hx => ⟨vp_in_nI l.2.1 (by decide), nm_r (by rw [cl]) (nm_r (nI_1 n) (hk _ ?_))⟩)⟩
        exact xb_step hg hs (by omega) rfl z hx
      · have z : ¬ us_U g (n % 9) := fun y => z ((b_test u (by omega)).mpr ((hU _).mpr y))
        exact br_t rfl (nm_r (nI_1 n) (hk _ ⟨hs.1, hs.2.1, hs.2.2.1, rd_keep (by omega) hs.2.2.2 (fun y => absurd y z)⟩))
  · rintro f i ⟨s, w⟩ hi ⟨hs, hw⟩ hk
    have hs : ∀ s', s' < i → ∀ b, bt (s s') b = true ↔ s' < 3 ∧ b = s' := hs
    have hw : ∀ s', s' < i → ∀ b, bt (w s') b = true ↔ s' = 3 ∧ b = 3 := hw
    have ci : (nI i).toNatClampNeg = i := nI_clamp (by omega)
    have fin : ∀ x : Int32, (∀ b, bt x b = true ↔ i < 3 ∧ b = i) → wY_findSets_29 post (wY_findSets_6 post h_made h_depth h_length h_tokenCount h_wrong h_letterCount (nI (rg_n g)) h_makingCount u h_stateCount h_wideCount h_useCount h_result f) (nI i) x (nI i) h_made h_depth h_length h_tokenCount h_wrong h_letterCount (nI (rg_n g)) h_makingCount u h_stateCount h_wideCount h_useCount h_result b_ops b_firsts b_seconds b_sizes b_stack b_roots b_text b_ends b_tokenKinds b_tokenSizes b_letters b_begins b_closes b_empties b_nexts b_sets b_leads b_classes b_newClasses b_lefts b_rights b_counts b_making s w b_states b_looks b_wides b_work b_met b_tasks b_held b_uses b_reach := by
      intro x hx
      have h1 : ∀ s', s' < i + 1 → ∀ b, bt (upd s i x s') b = true ↔ s' < 3 ∧ b = s' := by
        intro s' h1 b
        by_cases e : s' = i
        · subst e; rw [pk_us]; exact hx b
        · rw [pk_un e]; exact hs s' (by omega) b
      refine ⟨vp_in_nI hi (by decide), nm_r (e' := upd s i x) (by rw [ci]) (pk_eq i 3 (fun z => ⟨vp_in_nI hi (by decide), nm_r (e' := upd w i 8) (by rw [ci]) (nm_r (nI_1 i) (hk (upd s i x, upd w i 8) ⟨h1, fun s' h2 b => ?_⟩))⟩) (fun z => ⟨vp_in_nI hi (by decide), nm_r (e' := upd w i 0) (by rw [ci]) (nm_r (nI_1 i) (hk (upd s i x, upd w i 0) ⟨h1, fun s' h2 b => ?_⟩))⟩))⟩
      · by_cases e : s' = i
        · subst e
          show bt (upd w s' 8 s') b = true ↔ _
          rw [pk_us, b_8b, decide_eq_true_eq]
          exact ⟨fun y => ⟨z, y⟩, fun y => y.2⟩
        · show bt (upd w i 8 s') b = true ↔ _
          rw [pk_un e]; exact hw s' (by omega) b
      · by_cases e : s' = i
        · subst e
          show bt (upd w s' 0 s') b = true ↔ _
          rw [pk_us, b_0]
          exact ⟨(fun y => by cases y), fun y => absurd y.1 z⟩
        · show bt (upd w i 0 s') b = true ↔ _
          rw [pk_un e]; exact hw s' (by omega) b
    refine br_f (nI_ge hi (by decide)) (pk_le 3 i (fun z => fin 0 fun b => ?_) (fun z => fin _ fun b => ?_))
    · rw [b_0]; exact ⟨(fun y => by cases y), fun y => by omega⟩
    · rw [b_one _ (by omega), decide_eq_true_eq]; exact ⟨fun y => ⟨z, y⟩, fun y => y.2⟩
end
end
section
/-! the component's sets of items -/
variable {f_depth f_made f_textLength f_tokenCount f_wrongPlace f_ruleCount f_prepared f_rulesInUse f_stateCount f_wideCount f_gradeFound f_readHeight f_tokensTaken f_usedCount : Int32} {a_spotCounts a_ends a_arrows a_takers a_groups a_marks a_text a_tokenKinds a_tokenLengths a_lefts a_rights a_rightSizes a_beginSets a_followSets a_stateSteps a_wideSteps a_readStates a_readValues a_usedRules : Nat → Int32} {a_nextItems a_openItems a_restItems a_stateItems a_stateLooks a_wideLooks : Nat → Int64}
section
variable {g : rg_T}
def xu_U (g : rg_T) (r : Nat) : Prop := us_U g r ∨ r = 9
/-- the looks behind the next symbol of item k -/
def xi_f (g : rg_T) (k t : Nat) : Prop := k % 5 < rg_c g (k / 5) ∧ fs_b (fi_F g) (rg_h g (k / 5)) (rg_c g (k / 5) - (k % 5 + 1)) (k % 5 + 1) t
/-- the sets, with the rules below R -/
def xi_I (g : rg_T) (R : Nat) (an ao ar : Nat → Int64) : Prop :=
  (∀ x k, x < 7 → (bl (an x) k = true ↔ (xu_U g (k / 5) ∧ k / 5 < R) ∧ im_nx g k x)) ∧
  (∀ k, bl (an 7) k = true ↔ (xu_U g (k / 5) ∧ k / 5 < R) ∧ k % 5 = rg_c g (k / 5)) ∧
  (∀ v k, v < 7 → (bl (ao v) k = true ↔ ∃ r, us_U g r ∧ r < R ∧ rg_l g r = v ∧ k = 5 * r)) ∧
  (∀ t k, t < 4 → (bl (ar t) k = true ↔ (xu_U g (k / 5) ∧ k / 5 < R) ∧ xi_f g k t))
def xi_D (g : rg_T) (r p k : Nat) : Prop := (xu_U g (k / 5) ∧ k / 5 < r) ∨ (k / 5 = r ∧ k % 5 < p)
/-- the rest loop's store -/
def xi_r (a : Nat → Int64) (x : Int32) (m : Int64) (t : Nat) : Nat → Int64 := fun j => if j < t ∧ bt x j = true then a j ||| m else a j
theorem xi_rs {a : Nat → Int64} {x : Int32} {m : Int64} {t : Nat} (h : bt x t = true) : vp_updL (xi_r a x m t) t (xi_r a x m t t ||| m) = xi_r a x m (t + 1) := by
  funext j
  unfold vp_updL xi_r
  by_cases e : j = t
  · subst e
    rw [if_pos rfl, if_neg (by omega), if_pos ⟨by omega, h⟩]
  · rw [if_neg e]
    by_cases z : j < t ∧ bt x j = true
    · rw [if_pos z, if_pos ⟨by omega, z.2⟩]
    · rw [if_neg z, if_neg (fun y => z ⟨by omega, y.2⟩)]
theorem xi_rn {a : Nat → Int64} {x : Int32} {m : Int64} {t : Nat} (h : ¬ bt x t = true) : xi_r a x m (t + 1) = xi_r a x m t := by
  funext j
  unfold xi_r
  by_cases z : j < t ∧ bt x j = true
  · rw [if_pos z, if_pos ⟨by omega, z.2⟩]
  · rw [if_neg z, if_neg (fun y => z ⟨by
      have : j ≠ t := fun e => h (by rw [← e]; exact y.2)
      omega, y.2⟩)]
theorem ix_r5 {r p k : Nat} (hp : p < 5) : k = r * 5 + p ↔ k / 5 = r ∧ k % 5 = p := by omega
theorem xw_addItems (hg : rg_ok g) (hG : xg_G g a_lefts a_rights a_rightSizes) (h4 : xb_4 a_beginSets) (hF : xb_ok g a_beginSets) {r : Nat} (hr : xu_U g r) (hI : xi_I g r a_nextItems a_openItems a_restItems) {post : SX → Prop}
    (h : ∀ an ao ar, xi_I g (r + 1) an ao ar → post (f_depth, f_made, f_textLength, f_tokenCount, f_wrongPlace, f_ruleCount, f_prepared, f_rulesInUse, f_stateCount, f_wideCount, f_gradeFound, f_readHeight, f_tokensTaken, f_usedCount, a_spotCounts, a_ends, a_arrows, a_takers, a_groups, a_marks, a_text, a_tokenKinds, a_tokenLengths, a_lefts, a_rights, a_rightSizes, a_beginSets, a_followSets, an, ao, ar, a_stateItems, a_stateSteps, a_stateLooks, a_wideSteps, a_wideLooks, a_readStates, a_readValues, a_usedRules)) : wpX_addItems post (f_depth, f_made, f_textLength, f_tokenCount, f_wrongPlace, f_ruleCount, f_prepared, f_rulesInUse, f_stateCount, f_wideCount, f_gradeFound, f_readHeight, f_tokensTaken, f_usedCount, a_spotCounts, a_ends, a_arrows, a_takers, a_groups, a_marks, a_text, a_tokenKinds, a_tokenLengths, a_lefts, a_rights, a_rightSizes, a_beginSets, a_followSets, a_nextItems, a_openItems, a_restItems, a_stateItems, a_stateSteps, a_stateLooks, a_wideSteps, a_wideLooks, a_readStates, a_readValues, a_usedRules) (nI r) := by
  have hr' : r < rg_n g ∨ r = 9 := hr.imp (fun z => z.1) id
  obtain ⟨b1, b2, b3, b4, b5⟩ := rg_b hg hr'
  obtain ⟨g1, g2, g3⟩ := hG r hr'
  have cr : (nI r).toNatClampNeg = r := nI_clamp (by omega)
  have cl : (nI (rg_l g r)).toNatClampNeg = rg_l g r := nI_clamp (by omega)
  obtain ⟨i1, i2, i3, i4⟩ := hI
  have one : ∀ p, p < 5 → ∀ k, bl ((1 : Int64) <<< ((nI (r * 5 + p)).toInt64 &&& 63)) k = true ↔ k / 5 = r ∧ k % 5 = p := by
    intro p hp k
    rw [bl_one _ (by omega), decide_eq_true_eq]
    exact ix_r5 hp
  -- behind the opened items
  have rest : ∀ ao : Nat → Int64, (∀ v k, v < 7 → (bl (ao v) k = true ↔ ∃ r', us_U g r' ∧ r' < r + 1 ∧ rg_l g r' = v ∧ k = 5 * r')) → ∃ f, wX_addItems_27 post (nI r) f_depth f_made f_textLength f_tokenCount f_wrongPlace f_ruleCount f_prepared f_rulesInUse f_stateCount f_wideCount f_gradeFound f_readHeight f_tokensTaken f_usedCount f 0 a_spotCounts a_ends a_arrows a_takers a_groups a_marks a_text a_tokenKinds a_tokenLengths a_lefts a_rights a_rightSizes a_beginSets a_followSets a_nextItems ao a_restItems a_stateItems a_stateSteps a_stateLooks a_wideSteps a_wideLooks a_readStates a_readValues a_usedRules := by
    intro ao hao
    refine loop_0 (fun f p s => wX_addItems_27 post (nI r) f_depth f_made f_textLength f_tokenCount f_wrongPlace f_ruleCount f_prepared f_rulesInUse f_stateCount f_wideCount f_gradeFound f_readHeight f_tokensTaken f_usedCount f (nI p) a_spotCounts a_ends a_arrows a_takers a_groups a_marks a_text a_tokenKinds a_tokenLengths a_lefts a_rights a_rightSizes a_beginSets a_followSets s.1 ao s.2 a_stateItems a_stateSteps a_stateLooks a_wideSteps a_wideLooks a_readStates a_readValues a_usedRules) (fun p s => (∀ x k, x < 7 → (bl (s.1 x) k = true ↔ xi_D g r p k ∧ im_nx g k x)) ∧ (∀ k, bl (s.1 7) k = true ↔ (xu_U g (k / 5) ∧ k / 5 < r) ∧ k % 5 = rg_c g (k / 5)) ∧ (∀ t k, t < 4 → (bl (s.2 t) k = true ↔ xi_D g r p k ∧ xi_f g k t))) (rg_c g r) (a_nextItems, a_restItems) ?_ ?_ ?_
    · refine ⟨fun x k hx => ?_, i2, fun t k ht => ?_⟩
      · show bl (a_nextItems x) k = true ↔ _
        rw [i1 x k hx]
        exact ⟨fun z => ⟨Or.inl z.1, z.2⟩, fun z => ⟨by
          rcases z.1 with y | y
          · exact y
          · omega, z.2⟩⟩
      · show bl (a_restItems t) k = true ↔ _
        rw [i4 t k ht]
        exact ⟨fun z => ⟨Or.inl z.1, z.2⟩, fun z => ⟨by
          rcases z.1 with y | y
          · exact y
          · omega, z.2⟩⟩
    · rintro f ⟨an, ar⟩ ⟨s1, s2, s3⟩
      have s1 : ∀ x k, x < 7 → (bl (an x) k = true ↔ xi_D g r (rg_c g r) k ∧ im_nx g k x) := s1
      have s2 : ∀ k, bl (an 7) k = true ↔ (xu_U g (k / 5) ∧ k / 5 < r) ∧ k % 5 = rg_c g (k / 5) := s2
      have s3 : ∀ t k, t < 4 → (bl (ar t) k = true ↔ xi_D g r (rg_c g r) k ∧ xi_f g k t) := s3
      refine ⟨vp_in_nI (by omega) (by decide), ?_⟩
      rw [cr, g2]
      refine br_t (nI_le (Nat.le_refl _) (by omega)) ⟨vp_in_nI (by omega) (by decide), ?_⟩
      rw [ix_5]
      refine nm_e (h _ ao ar ⟨fun x k hx => ?_, fun k => ?_, hao, fun t k ht => ?_⟩)
      · rw [pk_uLn (by omega), s1 x k hx]
        constructor
        · rintro ⟨z | z, y⟩
          · exact ⟨⟨z.1, by omega⟩, y⟩
          · exact ⟨⟨by rw [z.1]; exact hr, by omega⟩, y⟩
        · rintro ⟨⟨z1, z2⟩, y⟩
          refine ⟨?_, y⟩
          by_cases e : k / 5 = r
          · refine Or.inr ⟨e, ?_⟩
            have := y.1
            rwa [e] at this
          · exact Or.inl ⟨z1, by omega⟩
      · rw [pk_uLs, bl_or, Bool.or_eq_true, s2 k, one _ (by omega) k]
        constructor
        · rintro (⟨⟨z1, z2⟩, z3⟩ | ⟨z1, z2⟩)
          · exact ⟨⟨z1, by omega⟩, z3⟩
          · rw [z1]
            exact ⟨⟨hr, by omega⟩, z2⟩
        · rintro ⟨⟨z1, z2⟩, z3⟩
          by_cases e : k / 5 = r
          · rw [e] at z3
            exact Or.inr ⟨e, z3⟩
          · exact Or.inl ⟨⟨z1, by omega⟩, z3⟩
      · rw [s3 t k ht]
        constructor
        · rintro ⟨z | z, y⟩
          · exact ⟨⟨z.1, by omega⟩, y⟩
          · exact ⟨⟨by rw [z.1]; exact hr, by omega⟩, y⟩
        · rintro ⟨⟨z1, z2⟩, y⟩
          refine ⟨?_, y⟩
          by_cases e : k / 5 = r
          · refine Or.inr ⟨e, ?_⟩
            have := y.1
            rwa [e] at this
          · exact Or.inl ⟨z1, by omega⟩
    · rintro f p ⟨an, ar⟩ hp ⟨s1, s2, s3⟩ hk
      have s1 : ∀ x k, x < 7 → (bl (an x) k = true ↔ xi_D g r p k ∧ im_nx g k x) := s1
      have s2 : ∀ k, bl (an 7) k = true ↔ (xu_U g (k / 5) ∧ k / 5 < r) ∧ k % 5 = rg_c g (k / 5) := s2
      have s3 : ∀ t k, t < 4 → (bl (ar t) k = true ↔ xi_D g r p k ∧ xi_f g k t) := s3
      have hh := b5 p hp
      have ch : (nI (rg_h g r p)).toNatClampNeg = rg_h g r p := nI_clamp (by omega)
      have Dp : ∀ k, xi_D g r (p + 1) k ↔ xi_D g r p k ∨ (k / 5 = r ∧ k % 5 = p) := by
        intro k
        unfold xi_D
        constructor
        · rintro (z | z)
          · exact Or.inl (Or.inl z)
          · by_cases e : k % 5 = p
            · exact Or.inr ⟨z.1, e⟩
            · exact Or.inl (Or.inr ⟨z.1, by omega⟩)
        · rintro ((z | z) | z)
          · exact Or.inl z
          · exact Or.inr ⟨z.1, by omega⟩
          · exact Or.inr ⟨z.1, by omega⟩
      refine ⟨vp_in_nI (by omega) (by decide), ?_⟩
      rw [cr, g2]
      refine br_f (nI_ge hp (by omega)) ?_
      rw [ix_5]
      refine nm_e ⟨pk_in (r * 4 + p) 44 (by omega) (ix_4 r p), ?_⟩
      rw [pk_cl (r * 4 + p) (ix_4 r p), g3 p hp]
      refine ⟨vp_in_nI (by omega) (by decide), vp_in_nI (by omega) (by decide), nm_r (by rw [ch]) ?_⟩
      rw [nI_1]
      refine xw_beginsFrom hg hG h4 hr' (by omega) (fun x hx => ?_)
      have hx : ∀ b, bt x b = true ↔ fs_b (fi_F g) (rg_h g r) (rg_c g r - (p + 1)) (p + 1) b := fun b => by rw [hx b]; exact fs_iff7 b5 hF _ _ _ (by omega)
      refine loop_0 (fun f' t s => wX_addItems_77 post (wX_addItems_27 post (nI r) f_depth f_made f_textLength f_tokenCount f_wrongPlace f_ruleCount f_prepared f_rulesInUse f_stateCount f_wideCount f_gradeFound f_readHeight f_tokensTaken f_usedCount f) (nI r) (nI p) ((1 : Int64) <<< ((nI (r * 5 + p)).toInt64 &&& 63)) x f_depth f_made f_textLength f_tokenCount f_wrongPlace f_ruleCount f_prepared f_rulesInUse f_stateCount f_wideCount f_gradeFound f_readHeight f_tokensTaken f_usedCount f' (nI t) a_spotCounts a_ends a_arrows a_takers a_groups a_marks a_text a_tokenKinds a_tokenLengths a_lefts a_rights a_rightSizes a_beginSets a_followSets (vp_updL an (rg_h g r p) (an (rg_h g r p) ||| (1 : Int64) <<< ((nI (r * 5 + p)).toInt64 &&& 63))) ao s a_stateItems a_stateSteps a_stateLooks a_wideSteps a_wideLooks a_readStates a_readValues a_usedRules) (fun t s => s = xi_r ar x ((1 : Int64) <<< ((nI (r * 5 + p)).toInt64 &&& 63)) t) 4 ar ?_ ?_ ?_
      · funext j
        unfold xi_r
        rw [if_neg (by omega)]
      · rintro f' s rfl
        refine br_t (nI_le (Nat.le_refl 4) (by decide)) (nm_r (nI_1 p) (hk (_, _) ⟨fun y k hy => ?_, fun k => ?_, fun t k ht => ?_⟩))
        · show bl (vp_updL an (rg_h g r p) (an (rg_h g r p) ||| (1 : Int64) <<< ((nI (r * 5 + p)).toInt64 &&& 63)) y) k = true ↔ _
          rw [Dp k]
          by_cases e : y = rg_h g r p
          · subst e
            rw [pk_uLs, bl_or, Bool.or_eq_true, s1 _ k hy, one p (by omega) k]
            constructor
            · rintro (z | z)
              · exact ⟨Or.inl z.1, z.2⟩
              · exact ⟨Or.inr z, by rw [z.1, z.2]; exact hp, by rw [z.1, z.2]⟩
            · rintro ⟨z | z, y⟩
              · exact Or.inl ⟨z, y⟩
              · exact Or.inr z
          · rw [pk_uLn e, s1 _ k hy]
            constructor
            · rintro ⟨z, y⟩; exact ⟨Or.inl z, y⟩
            · rintro ⟨z | z, y⟩
              · exact ⟨z, y⟩
              · have := y.2
                rw [z.1, z.2] at this
                exact absurd this.symm e
        · show bl (vp_updL an (rg_h g r p) (an (rg_h g r p) ||| (1 : Int64) <<< ((nI (r * 5 + p)).toInt64 &&& 63)) 7) k = true ↔ _
          rw [pk_uLn (by omega)]; exact s2 k
        · show bl (xi_r ar x ((1 : Int64) <<< ((nI (r * 5 + p)).toInt64 &&& 63)) 4 t) k = true ↔ _
          rw [Dp k]
          unfold xi_r
          by_cases e : bt x t = true
          · rw [if_pos ⟨ht, e⟩, bl_or, Bool.or_eq_true, s3 t k ht, one p (by omega) k]
            constructor
            · rintro (z | z)
              · exact ⟨Or.inl z.1, z.2⟩
              · refine ⟨Or.inr z, ?_⟩
                unfold xi_f
                rw [z.1, z.2]
                exact ⟨hp, (hx t).mp e⟩
            · rintro ⟨z | z, y⟩
              · exact Or.inl ⟨z, y⟩
              · exact Or.inr z
          · rw [if_neg (fun z => e z.2), s3 t k ht]
            constructor
            · rintro ⟨z, y⟩; exact ⟨Or.inl z, y⟩
            · rintro ⟨z | z, y⟩
              · exact ⟨z, y⟩
              · have := y.2
                rw [z.1, z.2] at this
                exact absurd ((hx t).mpr this) e
      · rintro f' t s ht rfl hk2
        have ct : (nI t).toNatClampNeg = t := nI_clamp (by omega)
        refine br_f (nI_ge ht (by decide)) (br_c (fun z => ?_) (fun z => ?_))
        · have z := (b_test x (n := t) (by omega)).mp z
          exact ⟨vp_in_nI ht (by decide), vp_in_nI ht (by decide), nm_r (by rw [ct, xi_rs z]) (nm_r (nI_1 t) (hk2 _ rfl))⟩
        · have z : ¬ bt x t = true := fun y => z ((b_test x (by omega)).mpr y)
          exact nm_r (nI_1 t) (hk2 _ (xi_rn z).symm)
  refine pk_eq r 9 (fun z => ?_) (fun z => ⟨vp_in_nI (by omega) (by decide), ?_⟩)
  · refine rest a_openItems fun v k hv => ?_
    rw [i3 v k hv]
    constructor
    · rintro ⟨r', y1, y2, y3⟩; exact ⟨r', y1, by omega, y3⟩
    · rintro ⟨r', y1, y2, y3⟩
      have := y1.1
      have := hg.1
      exact ⟨r', y1, by omega, y3⟩
  · have hU : us_U g r := by
      rcases hr with y | y
      · exact y
      · exact absurd y z
    have hl7 := (hg.2.1 r hU.1).2.1
    rw [cr, g1]
    have e5 : nI r * 5 = nI (r * 5 + 0) := pk_mul r 5
    refine ⟨vp_in_nI hl7 (by decide), vp_in_nI hl7 (by decide), nm_r (by rw [cl, e5]) (rest _ fun v k hv => ?_)⟩
    by_cases e : v = rg_l g r
    · subst e
      rw [pk_uLs, bl_or, Bool.or_eq_true, i3 _ k hv, one 0 (by omega) k]
      constructor
      · rintro (⟨r', y1, y2, y3⟩ | y)
        · exact ⟨r', y1, by omega, y3⟩
        · exact ⟨r, hU, by omega, rfl, by omega⟩
      · rintro ⟨r', y1, y2, y3, y4⟩
        by_cases e : r' = r
        · subst e; exact Or.inr (by omega)
        · exact Or.inl ⟨r', y1, by omega, y3, y4⟩
    · rw [pk_uLn e, i3 v k hv]
      constructor
      · rintro ⟨r', y1, y2, y3⟩; exact ⟨r', y1, by omega, y3⟩
      · rintro ⟨r', y1, y2, y3, y4⟩
        refine ⟨r', y1, ?_, y3, y4⟩
        have : r' ≠ r := fun q => e (by rw [← q]; exact y3.symm)
        omega
theorem xw_findItems (hg : rg_ok g) (hG : xg_G g a_lefts a_rights a_rightSizes) (hU : xg_U g f_rulesInUse) (h4 : xb_4 a_beginSets) (hF : xb_ok g a_beginSets) {post : SX → Prop}
    (h : ∀ an ao ar, xi_I g 10 an ao ar → post (f_depth, f_made, f_textLength, f_tokenCount, f_wrongPlace, f_ruleCount, f_prepared, f_rulesInUse, f_stateCount, f_wideCount, f_gradeFound, f_readHeight, f_tokensTaken, f_usedCount, a_spotCounts, a_ends, a_arrows, a_takers, a_groups, a_marks, a_text, a_tokenKinds, a_tokenLengths, a_lefts, a_rights, a_rightSizes, a_beginSets, a_followSets, an, ao, ar, a_stateItems, a_stateSteps, a_stateLooks, a_wideSteps, a_wideLooks, a_readStates, a_readValues, a_usedRules)) : wpX_findItems post (f_depth, f_made, f_textLength, f_tokenCount, f_wrongPlace, f_ruleCount, f_prepared, f_rulesInUse, f_stateCount, f_wideCount, f_gradeFound, f_readHeight, f_tokensTaken, f_usedCount, a_spotCounts, a_ends, a_arrows, a_takers, a_groups, a_marks, a_text, a_tokenKinds, a_tokenLengths, a_lefts, a_rights, a_rightSizes, a_beginSets, a_followSets, a_nextItems, a_openItems, a_restItems, a_stateItems, a_stateSteps, a_stateLooks, a_wideSteps, a_wideLooks, a_readStates, a_readValues, a_usedRules) := by
  refine loop_0 (fun f i s => wX_findItems_2 post f_depth f_made f_textLength f_tokenCount f_wrongPlace f_ruleCount f_prepared f_rulesInUse f_stateCount f_wideCount f_gradeFound f_readHeight f_tokensTaken f_usedCount f (nI i) a_spotCounts a_ends a_arrows a_takers a_groups a_marks a_text a_tokenKinds a_tokenLengths a_lefts a_rights a_rightSizes a_beginSets a_followSets s a_openItems a_restItems a_stateItems a_stateSteps a_stateLooks a_wideSteps a_wideLooks a_readStates a_readValues a_usedRules) (fun i s => ∀ j, j < i → s j = 0) 8 a_nextItems (fun j hj => absurd hj (Nat.not_lt_zero j)) ?_ ?_
  · intro f an han
    refine br_t (nI_le (Nat.le_refl 8) (by decide)) ?_
    refine loop_0 (fun f i s => wX_findItems_23 post f_depth f_made f_textLength f_tokenCount f_wrongPlace f_ruleCount f_prepared f_rulesInUse f_stateCount f_wideCount f_gradeFound f_readHeight f_tokensTaken f_usedCount f (nI i) a_spotCounts a_ends a_arrows a_takers a_groups a_marks a_text a_tokenKinds a_tokenLengths a_lefts a_rights a_rightSizes a_beginSets a_followSets an s a_restItems a_stateItems a_stateSteps a_stateLooks a_wideSteps a_wideLooks a_readStates a_readValues a_usedRules) (fun i s => ∀ j, j < i → s j = 0) 7 a_openItems (fun j hj => absurd hj (Nat.not_lt_zero j)) ?_ ?_
    · intro f ao hao
      refine br_t (nI_le (Nat.le_refl 7) (by decide)) ?_
      refine loop_0 (fun f i s => wX_findItems_44 post f_depth f_made f_textLength f_tokenCount f_wrongPlace f_ruleCount f_prepared f_rulesInUse f_stateCount f_wideCount f_gradeFound f_readHeight f_tokensTaken f_usedCount f (nI i) a_spotCounts a_ends a_arrows a_takers a_groups a_marks a_text a_tokenKinds a_tokenLengths a_lefts a_rights a_rightSizes a_beginSets a_followSets an ao s a_stateItems a_stateSteps a_stateLooks a_wideSteps a_wideLooks a_readStates a_readValues a_usedRules) (fun i s => ∀ j, j < i → s j = 0) 4 a_restItems (fun j hj => absurd hj (Nat.not_lt_zero j)) ?_ ?_
      · intro f ar har
        refine br_t (nI_le (Nat.le_refl 4) (by decide)) ?_
        refine loop_0 (fun f r s => wX_findItems_64 post f (nI r) f_depth f_made f_textLength f_tokenCount f_wrongPlace f_ruleCount f_prepared f_rulesInUse f_stateCount f_wideCount f_gradeFound f_readHeight f_tokensTaken f_usedCount a_spotCounts a_ends a_arrows a_takers a_groups a_marks a_text a_tokenKinds a_tokenLengths a_lefts a_rights a_rightSizes a_beginSets a_followSets s.1 s.2.1 s.2.2 a_stateItems a_stateSteps a_stateLooks a_wideSteps a_wideLooks a_readStates a_readValues a_usedRules) (fun r s => xi_I g r s.1 s.2.1 s.2.2) 10 (an, ao, ar) ?_ ?_ ?_
        · refine ⟨fun x k hx => ?_, fun k => ?_, fun v k hv => ?_, fun t k ht => ?_⟩
          · show bl (an x) k = true ↔ _
            rw [han x (by omega), bl_0]; exact ⟨(fun z => by cases z), fun z => by omega⟩
          · show bl (an 7) k = true ↔ _
            rw [han 7 (by omega), bl_0]; exact ⟨(fun z => by cases z), fun z => by omega⟩
          · show bl (ao v) k = true ↔ _
            rw [hao v (by omega), bl_0]; exact ⟨(fun z => by cases z), fun ⟨r, _, z, _⟩ => by omega⟩
          · show bl (ar t) k = true ↔ _
            rw [har t (by omega), bl_0]; exact ⟨(fun z => by cases z), fun z => by omega⟩
        · rintro f ⟨n, o, r⟩ hs
          exact br_t (nI_lt (a := 9) (by decide) (by decide)) (h n o r hs)
        · rintro f r ⟨n, o, rs⟩ hr hs hk
          refine br_f (nI_nlt (a := 9) (by omega) (by omega)) (br_c (fun z => ?_) (fun z => ?_))
          · have z := (hU r).mp ((b_test f_rulesInUse (n := r) (by omega)).mp z)
            exact br_f (by decide) (xw_addItems hg hG h4 hF z hs (fun n' o' r' hI => nm_r (nI_1 r) (hk (n', o', r') hI)))
          · have z : ¬ xu_U g r := fun y => z ((b_test f_rulesInUse (by omega)).mpr ((hU r).mpr y))
            refine br_t rfl (nm_r (nI_1 r) (hk (n, o, rs) ?_))
            obtain ⟨i1, i2, i3, i4⟩ := hs
            have e : ∀ k, (xu_U g (k / 5) ∧ k / 5 < r + 1) ↔ (xu_U g (k / 5) ∧ k / 5 < r) := by
              intro k
              refine ⟨fun y => ⟨y.1, ?_⟩, fun y => ⟨y.1, by omega⟩⟩
              have : k / 5 ≠ r := fun q => z (by rw [← q]; exact y.1)
              omega
            refine ⟨fun x k hx => ?_, fun k => ?_, fun v k hv => ?_, fun t k ht => ?_⟩
            · rw [i1 x k hx, e k]
            · rw [i2 k, e k]
            · rw [i3 v k hv]
              constructor
              · rintro ⟨r', y1, y2, y3⟩; exact ⟨r', y1, by omega, y3⟩
              · rintro ⟨r', y1, y2, y3⟩
                refine ⟨r', y1, ?_, y3⟩
                have : r' ≠ r := fun q => z (by rw [← q]; exact Or.inl y1)
                omega
            · rw [i4 t k ht, e k]
      · intro f i s hi hs hk
        refine br_f (nI_ge hi (by decide)) ⟨vp_in_nI hi (by decide), nm_r (by rw [nI_clamp (by omega)]) (nm_r (nI_1 i) (hk _ fun v hv => ?_))⟩
        by_cases e : v = i
        · subst e; exact pk_uLs
        · rw [pk_uLn e]; exact hs v (by omega)
    · intro f i s hi hs hk
      refine br_f (nI_ge hi (by decide)) ⟨vp_in_nI hi (by decide), nm_r (by rw [nI_clamp (by omega)]) (nm_r (nI_1 i) (hk _ fun v hv => ?_))⟩
      by_cases e : v = i
      · subst e; exact pk_uLs
      · rw [pk_uLn e]; exact hs v (by omega)
  · intro f i s hi hs hk
    refine br_f (nI_ge hi (by decide)) ⟨vp_in_nI hi (by decide), nm_r (by rw [nI_clamp (by omega)]) (nm_r (nI_1 i) (hk _ fun v hv => ?_))⟩
    by_cases e : v = i
    · subst e; exact pk_uLs
    · rw [pk_uLn e]; exact hs v (by omega)
end
end
section
/-! the component's closures and states -/
variable {f_depth f_made f_textLength f_tokenCount f_wrongPlace f_ruleCount f_prepared f_rulesInUse f_stateCount f_wideCount f_gradeFound f_readHeight f_tokensTaken f_usedCount : Int32} {a_spotCounts a_ends a_arrows a_takers a_groups a_marks a_text a_tokenKinds a_tokenLengths a_lefts a_rights a_rightSizes a_beginSets a_followSets a_stateSteps a_wideSteps a_readStates a_readValues a_usedRules : Nat → Int32} {a_nextItems a_openItems a_restItems a_stateItems a_stateLooks a_wideLooks : Nat → Int64}
theorem bl_sh1 (x : Int64) {i : Nat} (hi : i < 64) : bl (x <<< ((1 : Int32).toInt64 &&& 63)) i = (decide (1 ≤ i) && bl x (i - 1)) := bl_shl 1 (by omega) x hi
theorem bl_45 (i : Nat) : bl 35184372088832 i = decide (i = 45) := by
  rcases Nat.lt_or_ge i 64 with h | h
  · exact (by decide +kernel : ∀ i, i < 64 → bl 35184372088832 i = decide (i = 45)) i h
  · rw [bl_big h, decide_eq_false (by omega)]
theorem bl_ne {x : Int64} (h : ¬ x = 0) : ∃ i, bl x i = true := by
  refine Classical.byContradiction fun z => h (bl_zero.mpr fun i _ => ?_)
  cases e : bl x i
  · rfl
  · exact absurd ⟨i, e⟩ z
theorem bl_no {x : Int64} (h : x = 0) (i : Nat) : ¬ bl x i = true := by
  rw [h, bl_0]; intro z; cases z
section
variable {g : rg_T}
theorem xu_10 (hg : rg_ok g) {r : Nat} (h : xu_U g r) : r < 10 := by
  rcases h with h | h
  · have := h.1; have := hg.1; omega
  · omega
noncomputable def xc_c (ao : Nat → Int64) (S : Int64) : Nat := cn_c (fun x => ∀ k, bl (ao (x + 3)) k = true → bl S k = true) 4
def xc_s (an ao : Nat → Int64) (x : Nat) (S : Int64) : Prop := (∃ k, bl S k = true ∧ bl (an (x + 3)) k = true) → ∀ k, bl (ao (x + 3)) k = true → bl S k = true
theorem xw_closureOf (hg : rg_ok g) (hI : xi_I g 10 a_nextItems a_openItems a_restItems) {S : Int64} (hS : tb_io g S) {post : Int64 → Prop} (h : post (mk_l (cl_0 g (fun i => bl S i = true)))) : wpX_closureOf post (f_depth, f_made, f_textLength, f_tokenCount, f_wrongPlace, f_ruleCount, f_prepared, f_rulesInUse, f_stateCount, f_wideCount, f_gradeFound, f_readHeight, f_tokensTaken, f_usedCount, a_spotCounts, a_ends, a_arrows, a_takers, a_groups, a_marks, a_text, a_tokenKinds, a_tokenLengths, a_lefts, a_rights, a_rightSizes, a_beginSets, a_followSets, a_nextItems, a_openItems, a_restItems, a_stateItems, a_stateSteps, a_stateLooks, a_wideSteps, a_wideLooks, a_readStates, a_readValues, a_usedRules) S := by
  obtain ⟨i1, i2, i3, i4⟩ := hI
  have snd : ∀ T : Int64, (∀ k, bl T k = true → cl_0 g (fun i => bl S i = true) k) → ∀ v, 3 ≤ v → v < 7 → (∃ k, bl T k = true ∧ bl (a_nextItems v) k = true) → ∀ k, bl (a_openItems v) k = true → cl_0 g (fun i => bl S i = true) k := by
    intro T hT v v3 v7 ⟨k, k1, k2⟩ j hj
    obtain ⟨r, r1, r2, r3, rfl⟩ := (i3 v j v7).mp hj
    have k3 := ((i1 v k v7).mp k2).2
    rw [← r3] at k3
    exact cl_self g _ k r (hT k k1) r1 k3
  refine loop_0 (fun f q s => wX_closureOf_5 post f_depth f_made f_textLength f_tokenCount f_wrongPlace f_ruleCount f_prepared f_rulesInUse f_stateCount f_wideCount f_gradeFound f_readHeight f_tokensTaken f_usedCount a_spotCounts a_ends a_arrows a_takers a_groups a_marks a_text a_tokenKinds a_tokenLengths a_lefts a_rights a_rightSizes a_beginSets a_followSets a_nextItems a_openItems a_restItems a_stateItems a_stateSteps a_stateLooks a_wideSteps a_wideLooks a_readStates a_readValues a_usedRules f s (nI q)) (fun q T => (∀ k, bl S k = true → bl T k = true) ∧ (∀ k, bl T k = true → cl_0 g (fun i => bl S i = true) k) ∧ rd_J 4 (xc_s a_nextItems a_openItems) (xc_c a_openItems) (q * 4) T) 4 S ⟨fun _ z => z, fun _ z => cl_sub z, rd_i⟩ ?_ ?_
  · rintro f T ⟨s1, s2, s3⟩
    have cl := rd_end s3 (cn_le _ 4) (by omega) (fun e x hx _ => cn_full e x hx)
    have e : T = mk_l (cl_0 g (fun i => bl S i = true)) := by
      apply bl_ext
      intro i _
      have h1 := tb_mk hg (S := fun i => bl S i = true) hS i
      have h2 : bl T i = true ↔ cl_0 g (fun i => bl S i = true) i := by
        refine ⟨s2 i, fun z => z (fun i => bl T i = true) s1 fun k r hk hU hn => ?_⟩
        have l := hg.2.1 r hU.1
        have io := cl_ok hS (s2 k hk)
        have c := cl (rg_l g r - 3) (by omega)
        unfold xc_s at c
        rw [show rg_l g r - 3 + 3 = rg_l g r by omega] at c
        refine c ⟨k, hk, (i1 _ k l.2.1).mpr ⟨⟨io.1, xu_10 hg io.1⟩, hn⟩⟩ _ ((i3 _ _ l.2.1).mpr ⟨r, hU, by have := hU.1; have := hg.1; omega, rfl, rfl⟩)
      rw [← h1] at h2
      cases c1 : bl T i <;> cases c2 : bl (mk_l (cl_0 g (fun i => bl S i = true))) i
      · rfl
      · rw [c1, c2] at h2; exact absurd (h2.mpr rfl) (by decide)
      · rw [c1, c2] at h2; exact absurd (h2.mp rfl) (by decide)
      · rfl
    rw [← e] at h
    exact br_t (nI_le (Nat.le_refl 4) (by decide)) h
  · rintro f q T hq ⟨s1, s2, s3⟩ hk
    refine br_f (nI_ge hq (by decide)) ?_
    refine loop_0 (fun f' x T => wX_closureOf_14 post (wX_closureOf_5 post f_depth f_made f_textLength f_tokenCount f_wrongPlace f_ruleCount f_prepared f_rulesInUse f_stateCount f_wideCount f_gradeFound f_readHeight f_tokensTaken f_usedCount a_spotCounts a_ends a_arrows a_takers a_groups a_marks a_text a_tokenKinds a_tokenLengths a_lefts a_rights a_rightSizes a_beginSets a_followSets a_nextItems a_openItems a_restItems a_stateItems a_stateSteps a_stateLooks a_wideSteps a_wideLooks a_readStates a_readValues a_usedRules f) (nI q) f_depth f_made f_textLength f_tokenCount f_wrongPlace f_ruleCount f_prepared f_rulesInUse f_stateCount f_wideCount f_gradeFound f_readHeight f_tokensTaken f_usedCount a_spotCounts a_ends a_arrows a_takers a_groups a_marks a_text a_tokenKinds a_tokenLengths a_lefts a_rights a_rightSizes a_beginSets a_followSets a_nextItems a_openItems a_restItems a_stateItems a_stateSteps a_stateLooks a_wideSteps a_wideLooks a_readStates a_readValues a_usedRules f' T (nI (3 + x))) (fun x T => (∀ k, bl S k = true → bl T k = true) ∧ (∀ k, bl T k = true → cl_0 g (fun i => bl S i = true) k) ∧ rd_J 4 (xc_s a_nextItems a_openItems) (xc_c a_openItems) (q * 4 + x) T) 4 T ⟨s1, s2, s3⟩ ?_ ?_
    · rintro f' T hT
      refine br_t (nI_le (Nat.le_refl 7) (by decide)) (nm_r (nI_1 q) (hk T ?_))
      rw [Nat.succ_mul]; exact hT
    · rintro f' x T hx ⟨s1, s2, s3⟩ hk2
      have cv : (nI (3 + x)).toNatClampNeg = 3 + x := nI_clamp (by omega)
      refine br_f (nI_ge (a := 3 + x) (b := 7) (by omega) (by decide)) ⟨vp_in_nI (by omega) (by decide), ?_⟩
      rw [cv]
      refine br_c (fun z => ?_) (fun z => ⟨vp_in_nI (by omega) (by decide), nm_e (nm_r (nI_1 (3 + x)) (hk2 _ ?_))⟩)
      · refine nm_r (nI_1 (3 + x)) (hk2 T ⟨s1, s2, rd_kr hx s3 ?_⟩)
        rintro ⟨k, k1, k2⟩
        rw [Nat.add_comm x 3] at k2
        exact absurd (show bl (T &&& a_nextItems (3 + x)) k = true by rw [bl_and, k1, k2]; rfl) (bl_no z k)
      · obtain ⟨k, hk3⟩ := bl_ne z
        rw [bl_and, Bool.and_eq_true] at hk3
        have e : ∀ j, bl (T ||| a_openItems (3 + x)) j = true ↔ bl T j = true ∨ bl (a_openItems (3 + x)) j = true := fun j => by rw [bl_or, Bool.or_eq_true]
        refine ⟨fun j hj => (e j).mpr (Or.inl (s1 j hj)), fun j hj => ?_, ?_⟩
        · rcases (e j).mp hj with y | y
          · exact s2 j y
          · exact snd T s2 (3 + x) (by omega) (by omega) ⟨k, hk3⟩ j y
        · by_cases y : ∀ j, bl (a_openItems (x + 3)) j = true → bl T j = true
          · have es : T ||| a_openItems (3 + x) = T := by
              apply bl_ext
              intro j _
              cases c1 : bl T j
              · cases c2 : bl (T ||| a_openItems (3 + x)) j
                · rfl
                · rcases (e j).mp c2 with w | w
                  · rw [c1] at w; cases w
                  · rw [Nat.add_comm 3 x] at w
                    rw [y j w] at c1; cases c1
              · exact (e j).mpr (Or.inl c1)
            rw [es]
            exact rd_kr hx s3 (fun _ => y)
          · refine rd_gr hx s3 (fun w => y (w ⟨k, hk3.1, by rw [Nat.add_comm x 3]; exact hk3.2⟩)) ?_
            exact cn_lt (a := x) y (fun j hj => (e j).mpr (Or.inr (by rw [Nat.add_comm 3 x]; exact hj))) (fun v _ w j hj => (e j).mpr (Or.inl (w j hj))) hx
/-- what moves over x, as the component reckons it -/
theorem xm_mv (hI : xi_I g 10 a_nextItems a_openItems a_restItems) (hg : rg_ok g) {S : Int64} (hS : tb_io g S) {x : Nat} (hx : x < 7) (k : Nat) : bl ((S &&& a_nextItems x) <<< ((1 : Int32).toInt64 &&& 63)) k = true ↔ tb_mv g S x k := by
  have key : ∀ i, bl (S &&& a_nextItems x) i = true ↔ bl S i = true ∧ im_nx g i x := by
    intro i
    rw [bl_and, Bool.and_eq_true, hI.1 x i hx]
    exact ⟨fun z => ⟨z.1, z.2.2⟩, fun z => ⟨z.1, ⟨(hS i z.1).1, xu_10 hg (hS i z.1).1⟩, z.2⟩⟩
  rcases Nat.lt_or_ge k 64 with h | h
  · rw [bl_sh1 _ h, Bool.and_eq_true, decide_eq_true_eq, key]
    constructor
    · rintro ⟨z1, z2⟩; exact ⟨k - 1, by omega, z2⟩
    · rintro ⟨i, rfl, z⟩; exact ⟨by omega, by rw [Nat.add_sub_cancel]; exact z⟩
  · rw [bl_big h]
    refine ⟨(fun z => by cases z), fun z => ?_⟩
    have := im_lt hg (tb_mv_ok hg hS z)
    omega
/-- the lists of states -/
noncomputable def sb_B (g : rg_T) (k : Nat) : (Nat → Int64) × Nat := bf_at (tb_a0 g) (tb_to g) k
theorem sb_io (hg : rg_ok g) (k s : Nat) (hs : s < (sb_B g k).2) : tb_io g ((sb_B g k).1 s) := bf_gen (tb_io g) (tb_io0 hg) (fun _ _ _ _ h1 h2 => tb_io1 hg h1 h2) k s hs
/-- one step, as an array holds it: -1, or the number of the state it leads to -/
def xt_1 {α : Type} (to : α → Nat → Option α) (f : Nat → α) (n : Nat) (e : Int32) (s x : Nat) : Prop := (to (f s) x = none ∧ e = -1) ∨ ∃ s', s' < n ∧ to (f s) x = some (f s') ∧ e = nI s'
def xt_k (g : rg_T) (k n : Nat) (items : Nat → Int64) (steps : Nat → Int32) : Prop := (sb_B g k).2 = n ∧ (∀ i, i < n → items i = (sb_B g k).1 i) ∧ ∀ j, j < k → j / 7 < n → xt_1 (tb_to g) (sb_B g k).1 n (steps j) (j / 7) (j % 7)
/-- the states found: too many, or all -/
def xt_ok (g : rg_T) (cnt : Int32) (items : Nat → Int64) (steps : Nat → Int32) : Prop := (cnt = -5 ∧ ∃ k, 60 < (sb_B g k).2) ∨ ∃ k n, xt_k g k n items steps ∧ n ≤ 60 ∧ n * 7 ≤ k ∧ cnt = nI n
theorem xw_stateOf (hg : rg_ok g) (hI : xi_I g 10 a_nextItems a_openItems a_restItems) {S : Int64} (hS : tb_io g S) {n : Nat} (hn : n ≤ 60) {post : Int32 → SX → Prop}
    (h1 : ∀ s, s < n → a_stateItems s = mk_l (cl_0 g (fun i => bl S i = true)) → post (nI s) (f_depth, f_made, f_textLength, f_tokenCount, f_wrongPlace, f_ruleCount, f_prepared, f_rulesInUse, (nI n), f_wideCount, f_gradeFound, f_readHeight, f_tokensTaken, f_usedCount, a_spotCounts, a_ends, a_arrows, a_takers, a_groups, a_marks, a_text, a_tokenKinds, a_tokenLengths, a_lefts, a_rights, a_rightSizes, a_beginSets, a_followSets, a_nextItems, a_openItems, a_restItems, a_stateItems, a_stateSteps, a_stateLooks, a_wideSteps, a_wideLooks, a_readStates, a_readValues, a_usedRules))
    (h2 : (∀ s, s < n → a_stateItems s ≠ mk_l (cl_0 g (fun i => bl S i = true))) → n < 60 → post (nI n) (f_depth, f_made, f_textLength, f_tokenCount, f_wrongPlace, f_ruleCount, f_prepared, f_rulesInUse, (nI (n + 1)), f_wideCount, f_gradeFound, f_readHeight, f_tokensTaken, f_usedCount, a_spotCounts, a_ends, a_arrows, a_takers, a_groups, a_marks, a_text, a_tokenKinds, a_tokenLengths, a_lefts, a_rights, a_rightSizes, a_beginSets, a_followSets, a_nextItems, a_openItems, a_restItems, (vp_updL a_stateItems n (mk_l (cl_0 g (fun i => bl S i = true)))), a_stateSteps, a_stateLooks, a_wideSteps, a_wideLooks, a_readStates, a_readValues, a_usedRules))
    (h3 : (∀ s, s < n → a_stateItems s ≠ mk_l (cl_0 g (fun i => bl S i = true))) → n = 60 → post 60 (f_depth, f_made, f_textLength, f_tokenCount, f_wrongPlace, f_ruleCount, f_prepared, f_rulesInUse, (nI n), f_wideCount, f_gradeFound, f_readHeight, f_tokensTaken, f_usedCount, a_spotCounts, a_ends, a_arrows, a_takers, a_groups, a_marks, a_text, a_tokenKinds, a_tokenLengths, a_lefts, a_rights, a_rightSizes, a_beginSets, a_followSets, a_nextItems, a_openItems, a_restItems, a_stateItems, a_stateSteps, a_stateLooks, a_wideSteps, a_wideLooks, a_readStates, a_readValues, a_usedRules)) : wpX_stateOf post (f_depth, f_made, f_textLength, f_tokenCount, f_wrongPlace, f_ruleCount, f_prepared, f_rulesInUse, (nI n), f_wideCount, f_gradeFound, f_readHeight, f_tokensTaken, f_usedCount, a_spotCounts, a_ends, a_arrows, a_takers, a_groups, a_marks, a_text, a_tokenKinds, a_tokenLengths, a_lefts, a_rights, a_rightSizes, a_beginSets, a_followSets, a_nextItems, a_openItems, a_restItems, a_stateItems, a_stateSteps, a_stateLooks, a_wideSteps, a_wideLooks, a_readStates, a_readValues, a_usedRules) S := by
  refine xw_closureOf (f_stateCount := nI n) hg hI hS ?_
  refine loop_0 (fun f i (_ : Unit) => wX_stateOf_9 post (mk_l (cl_0 g (fun i => bl S i = true))) f_depth f_made f_textLength f_tokenCount f_wrongPlace f_ruleCount f_prepared f_rulesInUse (nI n) f_wideCount f_gradeFound f_readHeight f_tokensTaken f_usedCount a_spotCounts a_ends a_arrows a_takers a_groups a_marks a_text a_tokenKinds a_tokenLengths a_lefts a_rights a_rightSizes a_beginSets a_followSets a_nextItems a_openItems a_restItems a_stateItems a_stateSteps a_stateLooks a_wideSteps a_wideLooks a_readStates a_readValues a_usedRules f (nI i)) (fun i _ => ∀ s, s < i → a_stateItems s ≠ mk_l (cl_0 g (fun i => bl S i = true))) n () (fun s hs => absurd hs (Nat.not_lt_zero s)) ?_ ?_
  · intro f _ hs
    refine br_t (nI_le (Nat.le_refl _) (by omega)) (pk_lt n 60 (fun z => ?_) (fun z => h3 hs (by omega)))
    refine ⟨vp_in_nI z (by decide), nm_r (by rw [nI_clamp (by omega)]) (nm_r (nI_1 n) ?_)⟩
    rw [show nI (n + 1) - 1 = nI n from nI_pred n]
    exact h2 hs z
  · intro f i _ hi hs hk
    refine br_f (nI_ge hi (by omega)) ⟨vp_in_nI (by omega) (by decide), ?_⟩
    rw [nI_clamp (by omega : i < 2 ^ 31)]
    refine br_c (fun z => h1 i hi z) (fun z => nm_r (nI_1 i) (hk () fun s hs' => ?_))
    rcases Nat.lt_or_ge s i with y | y
    · exact hs s y
    · have y : s = i := by omega
      subst y; exact z
theorem xt_keep {g : rg_T} {k n : Nat} {items : Nat → Int64} {steps : Nat → Int32} (h : xt_k g k n items steps) (e : sb_B g (k + 1) = sb_B g k) {x : Int32} (hx : k / 7 < n → xt_1 (tb_to g) (sb_B g k).1 n x (k / 7) (k % 7)) : xt_k g (k + 1) n items (upd steps k x) := by
  obtain ⟨a, b, c⟩ := h
  unfold xt_k
  rw [e]
  refine ⟨a, b, fun j hj hl => ?_⟩
  by_cases z : j = k
  · subst z; rw [pk_us]; exact hx hl
  · rw [pk_un z]; exact c j (by omega) hl
theorem xw_findStates (hg : rg_ok g) (hI : xi_I g 10 a_nextItems a_openItems a_restItems) {post : SX → Prop} (h : ∀ cnt items steps, xt_ok g cnt items steps → post (f_depth, f_made, f_textLength, f_tokenCount, f_wrongPlace, f_ruleCount, f_prepared, f_rulesInUse, cnt, f_wideCount, f_gradeFound, f_readHeight, f_tokensTaken, f_usedCount, a_spotCounts, a_ends, a_arrows, a_takers, a_groups, a_marks, a_text, a_tokenKinds, a_tokenLengths, a_lefts, a_rights, a_rightSizes, a_beginSets, a_followSets, a_nextItems, a_openItems, a_restItems, items, steps, a_stateLooks, a_wideSteps, a_wideLooks, a_readStates, a_readValues, a_usedRules)) : wpX_findStates post (f_depth, f_made, f_textLength, f_tokenCount, f_wrongPlace, f_ruleCount, f_prepared, f_rulesInUse, f_stateCount, f_wideCount, f_gradeFound, f_readHeight, f_tokensTaken, f_usedCount, a_spotCounts, a_ends, a_arrows, a_takers, a_groups, a_marks, a_text, a_tokenKinds, a_tokenLengths, a_lefts, a_rights, a_rightSizes, a_beginSets, a_followSets, a_nextItems, a_openItems, a_restItems, a_stateItems, a_stateSteps, a_stateLooks, a_wideSteps, a_wideLooks, a_readStates, a_readValues, a_usedRules) := by
  have io45 : tb_io g 35184372088832 := by
    intro i hi
    rw [bl_45, decide_eq_true_eq] at hi
    subst hi
    exact im_45 g
  have e45 : (fun i => bl 35184372088832 i = true) = fun k => k = 45 := by
    funext k
    rw [bl_45, decide_eq_true_eq]
  refine xw_closureOf hg hI io45 (nm_e ?_)
  rw [e45]
  have key : ∀ d s, s + d = 60 → ∀ n items steps, s ≤ n → n ≤ 60 → xt_k g (s * 7) n items steps → wX_findStates_20 post (d + 1) (nI s) f_depth f_made f_textLength f_tokenCount f_wrongPlace f_ruleCount f_prepared f_rulesInUse (nI n) f_wideCount f_gradeFound f_readHeight f_tokensTaken f_usedCount a_spotCounts a_ends a_arrows a_takers a_groups a_marks a_text a_tokenKinds a_tokenLengths a_lefts a_rights a_rightSizes a_beginSets a_followSets a_nextItems a_openItems a_restItems items steps a_stateLooks a_wideSteps a_wideLooks a_readStates a_readValues a_usedRules := by
    intro d
    induction d with
    | zero =>
      intro s hs n items steps h1 h2 h3
      refine br_t (nI_le (by omega) (by omega)) (h _ _ _ (Or.inr ⟨s * 7, n, h3, h2, by omega, rfl⟩))
    | succ d ih =>
      intro s hs n items steps h1 h2 h3
      refine pk_le n s (fun z => h _ _ _ (Or.inr ⟨s * 7, n, h3, h2, by omega, rfl⟩)) (fun z => br_f (nI_ge (b := 60) (by omega) (by decide)) ?_)
      refine loop_0 (fun f x σ => wX_findStates_36 post (wX_findStates_20 post (d + 1)) (nI s) f (nI x) f_depth f_made f_textLength f_tokenCount f_wrongPlace f_ruleCount f_prepared f_rulesInUse (nI σ.1) f_wideCount f_gradeFound f_readHeight f_tokensTaken f_usedCount a_spotCounts a_ends a_arrows a_takers a_groups a_marks a_text a_tokenKinds a_tokenLengths a_lefts a_rights a_rightSizes a_beginSets a_followSets a_nextItems a_openItems a_restItems σ.2.1 σ.2.2 a_stateLooks a_wideSteps a_wideLooks a_readStates a_readValues a_usedRules) (fun x σ => s < σ.1 ∧ σ.1 ≤ 60 ∧ xt_k g (s * 7 + x) σ.1 σ.2.1 σ.2.2) 7 (n, items, steps) ⟨z, h2, h3⟩ ?_ ?_
      · rintro f ⟨n, items, steps⟩ ⟨a1, a2, a3⟩
        refine br_t (nI_le (Nat.le_refl 7) (by decide)) (nm_r (nI_1 s) (ih (s + 1) (by omega) n items steps a1 a2 ?_))
        rw [Nat.succ_mul]; exact a3
      · rintro f x ⟨n, items, steps⟩ hx ⟨a1, a2, a3⟩ hk
        have a1 : s < n := a1
        have a2 : n ≤ 60 := a2
        have a3 : xt_k g (s * 7 + x) n items steps := a3
        have cs : (nI s).toNatClampNeg = s := nI_clamp (by omega)
        have cx : (nI x).toNatClampNeg = x := nI_clamp (by omega)
        have q1 : (s * 7 + x) / 7 = s := by omega
        have q2 : (s * 7 + x) % 7 = x := by omega
        have hn := a3.1
        have his := a3.2.1 s a1
        have hio : tb_io g (items s) := by rw [his]; exact sb_io hg _ s (by omega)
        have eB : sb_B g (s * 7 + x + 1) = bf_st (tb_to g) (s * 7 + x) (sb_B g (s * 7 + x)) := rfl
        have st : ∀ (n' : Nat) (items' : Nat → Int64) (e : Int32), s < n' → n' ≤ 60 → xt_k g (s * 7 + x + 1) n' items' (upd steps (s * 7 + x) e) → wX_findStates_88 post (wX_findStates_20 post (d + 1)) (wX_findStates_36 post (wX_findStates_20 post (d + 1)) (nI s) f) (nI s) (nI x) e f_depth f_made f_textLength f_tokenCount f_wrongPlace f_ruleCount f_prepared f_rulesInUse (nI n') f_wideCount f_gradeFound f_readHeight f_tokensTaken f_usedCount a_spotCounts a_ends a_arrows a_takers a_groups a_marks a_text a_tokenKinds a_tokenLengths a_lefts a_rights a_rightSizes a_beginSets a_followSets a_nextItems a_openItems a_restItems items' steps a_stateLooks a_wideSteps a_wideLooks a_readStates a_readValues a_usedRules := by
          intro n' items' e b1 b2 b3
          exact ⟨pk_in (s * 7 + x) 420 (by omega) (ix_7 s x), nm_r (by rw [pk_cl (s * 7 + x) (ix_7 s x)]) (nm_r (nI_1 x) (hk (n', items', upd steps (s * 7 + x) e) ⟨b1, b2, b3⟩))⟩
        refine br_f (nI_ge hx (by decide)) ⟨vp_in_nI (by omega) (by decide), vp_in_nI (by omega) (by decide), nm_r (e' := (items s &&& a_nextItems x) <<< ((1 : Int32).toInt64 &&& 63)) (by rw [cs, cx]) ?_⟩
        have mv := fun k => xm_mv hI hg hio hx k
        refine br_c (fun y => ?_) (fun y => ?_)
        · have no : tb_to g ((sb_B g (s * 7 + x)).1 s) x = none := by
            rw [← his]
            exact if_neg fun ⟨k, hk⟩ => bl_no y k ((mv k).mpr hk)
          refine st n items (-1) a1 a2 (xt_keep a3 (eB.trans (bf_none (by rw [q1, q2]; exact no))) fun _ => ?_)
          rw [q1, q2]
          exact Or.inl ⟨no, rfl⟩
        · obtain ⟨k0, hk0⟩ := bl_ne y
          have ioM : tb_io g ((items s &&& a_nextItems x) <<< ((1 : Int32).toInt64 &&& 63)) := fun i hi => tb_mv_ok hg hio ((mv i).mp hi)
          have eM : (fun i => bl ((items s &&& a_nextItems x) <<< ((1 : Int32).toInt64 &&& 63)) i = true) = tb_mv g (items s) x := by
            funext k
            exact propext (mv k)
          have sm : tb_to g ((sb_B g (s * 7 + x)).1 s) x = some (mk_l (cl_0 g (tb_mv g (items s) x))) := by
            rw [← his]
            exact tb_ex ((mv k0).mp hk0)
          refine xw_stateOf (a_stateItems := items) hg hI ioM a2 (fun s' hs' e' => ?_) (fun hno hlt => ?_) (fun hno h60 => ?_)
          · rw [eM] at e'
            refine br_f (fun w => ?_) (st n items (nI s') a1 a2 (xt_keep a3 (eB.trans (bf_old (by rw [q1, q2]; exact sm) ⟨s', by omega, ?_⟩)) fun _ => ?_))
            · have := (nI_eq (a := s') (b := 60) (by omega) (by decide)).mp w; omega
            · rw [← a3.2.1 s' hs']; exact e'
            · rw [q1, q2]
              refine Or.inr ⟨s', hs', ?_, rfl⟩
              rw [← a3.2.1 s' hs', e']; exact sm
          · rw [eM] at hno ⊢
            have new : ¬ ∃ s', s' < (sb_B g (s * 7 + x)).2 ∧ (sb_B g (s * 7 + x)).1 s' = mk_l (cl_0 g (tb_mv g (items s) x)) := by
              rintro ⟨s', z1, z2⟩
              exact hno s' (by omega) (by rw [a3.2.1 s' (by omega)]; exact z2)
            have eN := eB.trans (bf_new (by rw [q1]; omega) (by rw [q1, q2]; exact sm) new)
            refine br_f (fun w => ?_) (st (n + 1) _ (nI n) (by omega) (by omega) ?_)
            · have := (nI_eq (a := n) (b := 60) (by omega) (by decide)).mp w; omega
            · unfold xt_k
              rw [eN, hn]
              refine ⟨rfl, fun i hi => ?_, fun j hj hl => ?_⟩
              · show vp_updL items n _ i = if i = n then _ else _
                by_cases w : i = n
                · subst w; rw [pk_uLs, if_pos rfl]
                · rw [pk_uLn w, if_neg w]; exact a3.2.1 i (by omega)
              · by_cases w : j = s * 7 + x
                · subst w
                  rw [pk_us, q1, q2]
                  refine Or.inr ⟨n, by omega, ?_, rfl⟩
                  show tb_to g (if s = n then _ else (sb_B g (s * 7 + x)).1 s) x = some (if n = n then _ else _)
                  rw [if_neg (by omega), if_pos rfl]
                  exact sm
                · rw [pk_un w]
                  have hj7 : j / 7 < n := by omega
                  have := a3.2.2 j (by omega) hj7
                  have ej : (if j / 7 = n then mk_l (cl_0 g (tb_mv g (items s) x)) else (sb_B g (s * 7 + x)).1 (j / 7)) = (sb_B g (s * 7 + x)).1 (j / 7) := if_neg (by omega)
                  rcases this with ⟨w1, w2⟩ | ⟨s', w1, w2, w3⟩
                  · refine Or.inl ⟨?_, w2⟩
                    show tb_to g (if j / 7 = n then _ else (sb_B g (s * 7 + x)).1 (j / 7)) (j % 7) = none
                    rw [ej]; exact w1
                  · refine Or.inr ⟨s', by omega, ?_, w3⟩
                    show tb_to g (if j / 7 = n then _ else (sb_B g (s * 7 + x)).1 (j / 7)) (j % 7) = some (if s' = n then _ else (sb_B g (s * 7 + x)).1 s')
                    rw [ej, if_neg (by omega)]; exact w2
          · rw [eM] at hno
            have new : ¬ ∃ s', s' < (sb_B g (s * 7 + x)).2 ∧ (sb_B g (s * 7 + x)).1 s' = mk_l (cl_0 g (tb_mv g (items s) x)) := by
              rintro ⟨s', z1, z2⟩
              exact hno s' (by omega) (by rw [a3.2.1 s' (by omega)]; exact z2)
            have eN := eB.trans (bf_new (by rw [q1]; omega) (by rw [q1, q2]; exact sm) new)
            refine br_t rfl (h _ _ _ (Or.inl ⟨rfl, s * 7 + x + 1, ?_⟩))
            rw [eN]
            show 60 < (sb_B g (s * 7 + x)).2 + 1
            omega
  refine ⟨61, key 60 0 rfl 1 _ a_stateSteps (by omega) (by omega) ⟨rfl, fun i hi => ?_, fun j hj => by omega⟩⟩
  have : i = 0 := by omega
  subst this
  exact pk_uLs
end
end
section
/-! the reference's closures and states -/
variable {h_made h_depth h_length h_tokenCount h_wrong h_letterCount h_ruleCount h_makingCount h_usefulRules h_stateCount h_wideCount h_useCount h_result : Int32} {b_ops b_firsts b_seconds b_sizes b_stack b_roots b_text b_ends b_tokenKinds b_tokenSizes b_letters b_begins b_closes b_empties b_nexts b_sets b_leads b_classes b_newClasses b_lefts b_rights b_counts b_making b_firstSets b_followSets b_tasks b_held b_uses b_reach : Nat → Int32} {b_states b_looks b_wides b_work b_met : Nat → Int64}
section
variable {g : rg_T}
theorem yw_nextOf (hg : rg_ok g) (hG : xg_G g b_lefts b_rights b_counts) {k : Nat} (hk : im_ok g k) {post : Int32 → Prop} (h1 : ∀ x, im_nx g k x → x < 7 → post (nI x)) (h2 : k % 5 = rg_c g (k / 5) → post (-1)) : wpY_nextOf post (h_made, h_depth, h_length, h_tokenCount, h_wrong, h_letterCount, h_ruleCount, h_makingCount, h_usefulRules, h_stateCount, h_wideCount, h_useCount, h_result, b_ops, b_firsts, b_seconds, b_sizes, b_stack, b_roots, b_text, b_ends, b_tokenKinds, b_tokenSizes, b_letters, b_begins, b_closes, b_empties, b_nexts, b_sets, b_leads, b_classes, b_newClasses, b_lefts, b_rights, b_counts, b_making, b_firstSets, b_followSets, b_states, b_looks, b_wides, b_work, b_met, b_tasks, b_held, b_uses, b_reach) (nI k) := by
  have hr' : k / 5 < rg_n g ∨ k / 5 = 9 := hk.1.imp (fun z => z.1) id
  obtain ⟨b1, b2, b3, b4, b5⟩ := rg_b hg hr'
  obtain ⟨g1, g2, g3⟩ := hG _ hr'
  have h47 := im_lt hg hk
  have cr : (nI (k / 5)).toNatClampNeg = k / 5 := nI_clamp (by omega)
  have e1 : nI k / 5 = nI (k / 5) := pk_div (d := 5) (by omega) (by decide) (by decide)
  have e2 : nI k - nI k / 5 * 5 = nI (k % 5) := pk_rem (d := 5) (by omega) (by decide) (by decide)
  refine ⟨by decide, nm_r e1 ⟨by decide, vp_in_nI b1 (by decide), ?_⟩⟩
  rw [cr, g2, e2]
  refine pk_le (rg_c g (k / 5)) (k % 5) (fun z => h2 (by have := hk.2; omega)) (fun z => ⟨by decide, pk_in (k / 5 * 4 + k % 5) 40 (by omega) (ix_l4 _ _), ?_⟩)
  rw [pk_cl (k / 5 * 4 + k % 5) (ix_l4 _ _), g3 _ z]
  exact h1 _ ⟨z, rfl⟩ (b5 _ z)
theorem yw_moved (hg : rg_ok g) (hG : xg_G g b_lefts b_rights b_counts) {S : Int64} (hS : tb_io g S) {x : Nat} (hx : x < 7) {post : Int64 → Prop} (h : ∀ T, (∀ k, bl T k = true ↔ tb_mv g S x k) → post T) : wpY_moved post (h_made, h_depth, h_length, h_tokenCount, h_wrong, h_letterCount, h_ruleCount, h_makingCount, h_usefulRules, h_stateCount, h_wideCount, h_useCount, h_result, b_ops, b_firsts, b_seconds, b_sizes, b_stack, b_roots, b_text, b_ends, b_tokenKinds, b_tokenSizes, b_letters, b_begins, b_closes, b_empties, b_nexts, b_sets, b_leads, b_classes, b_newClasses, b_lefts, b_rights, b_counts, b_making, b_firstSets, b_followSets, b_states, b_looks, b_wides, b_work, b_met, b_tasks, b_held, b_uses, b_reach) S (nI x) := by
  refine loop_0 (fun f i T => wY_moved_6 post S (nI x) h_made h_depth h_length h_tokenCount h_wrong h_letterCount h_ruleCount h_makingCount h_usefulRules h_stateCount h_wideCount h_useCount h_result b_ops b_firsts b_seconds b_sizes b_stack b_roots b_text b_ends b_tokenKinds b_tokenSizes b_letters b_begins b_closes b_empties b_nexts b_sets b_leads b_classes b_newClasses b_lefts b_rights b_counts b_making b_firstSets b_followSets b_states b_looks b_wides b_work b_met b_tasks b_held b_uses b_reach f T (nI i)) (fun i T => ∀ k, bl T k = true ↔ ∃ j, j < i ∧ k = j + 1 ∧ bl S j = true ∧ im_nx g j x) 50 0 ?_ ?_ ?_
  · intro k
    rw [bl_0]
    exact ⟨(fun z => by cases z), fun ⟨j, hj, _⟩ => absurd hj (Nat.not_lt_zero j)⟩
  · intro f T hT
    refine br_t (nI_le (Nat.le_refl 50) (by decide)) (h T fun k => ?_)
    rw [hT k]
    constructor
    · rintro ⟨j, _, z⟩; exact ⟨j, z⟩
    · rintro ⟨j, z⟩
      have := im_lt hg (hS j z.2.1)
      exact ⟨j, by omega, z⟩
  · intro f i T hi hT hk
    have skip : ¬ (bl S i = true ∧ im_nx g i x) → wY_moved_38 post (wY_moved_6 post S (nI x) h_made h_depth h_length h_tokenCount h_wrong h_letterCount h_ruleCount h_makingCount h_usefulRules h_stateCount h_wideCount h_useCount h_result b_ops b_firsts b_seconds b_sizes b_stack b_roots b_text b_ends b_tokenKinds b_tokenSizes b_letters b_begins b_closes b_empties b_nexts b_sets b_leads b_classes b_newClasses b_lefts b_rights b_counts b_making b_firstSets b_followSets b_states b_looks b_wides b_work b_met b_tasks b_held b_uses b_reach f) S (nI x) T (nI i) h_made h_depth h_length h_tokenCount h_wrong h_letterCount h_ruleCount h_makingCount h_usefulRules h_stateCount h_wideCount h_useCount h_result b_ops b_firsts b_seconds b_sizes b_stack b_roots b_text b_ends b_tokenKinds b_tokenSizes b_letters b_begins b_closes b_empties b_nexts b_sets b_leads b_classes b_newClasses b_lefts b_rights b_counts b_making b_firstSets b_followSets b_states b_looks b_wides b_work b_met b_tasks b_held b_uses b_reach := by
      intro z
      refine br_t rfl (nm_r (nI_1 i) (hk T fun k => ?_))
      rw [hT k]
      constructor
      · rintro ⟨j, y1, y2⟩; exact ⟨j, by omega, y2⟩
      · rintro ⟨j, y1, y2, y3⟩
        have : j ≠ i := fun e => z (by rw [← e]; exact y3)
        exact ⟨j, by omega, y2, y3⟩
    refine br_f (nI_ge hi (by decide)) (br_c (fun z => ?_) (fun z => ?_))
    · have z := (bl_test S (n := i) (by omega)).mp z
      refine yw_nextOf hg hG (hS i z) (fun y hy y7 => pk_eq y x (fun e => ?_) (fun e => ?_)) (fun hc => ?_)
      · subst e
        refine br_f (by decide) (nm_e (nm_r (nI_1 i) (hk _ fun k => ?_)))
        rw [bl_or, Bool.or_eq_true, hT k, bl_two _ (by omega), decide_eq_true_eq]
        constructor
        · rintro (⟨j, y1, y2⟩ | rfl)
          · exact ⟨j, by omega, y2⟩
          · exact ⟨i, by omega, rfl, z, hy⟩
        · rintro ⟨j, y1, y2, y3⟩
          by_cases e : j = i
          · subst e; exact Or.inr y2
          · exact Or.inl ⟨j, by omega, y2, y3⟩
      · exact skip fun w => e (hy.2.symm.trans w.2.2)
      · refine br_f (fun w => ?_) (skip fun w => ?_)
        · exact ne_neg (a := x) (by omega) (by decide) w.symm
        · have := w.2.1; omega
    · have z : ¬ bl S i = true := fun y => z ((bl_test S (by omega)).mpr y)
      exact skip fun w => z w.1
/-- item i opens nothing that is not there -/
def yc_s (g : rg_T) (i : Nat) (T : Int64) : Prop := bl T i = true → ∀ r, us_U g r → im_nx g i (rg_l g r) → bl T (5 * r) = true
noncomputable def yc_c (T : Int64) : Nat := cn_c (fun r => bl T (5 * r) = true) 9
theorem yw_clIn (hg : rg_ok g) (hG : xg_G g b_lefts b_rights b_counts) {u : Int32} (hU : yg_U g u) {v n : Nat} (v3 : 3 ≤ v) (v7 : v < 7) {T : Int64} {post : Int64 → Prop} {J : Int64 → Int32 → Prop} (h : ∀ T', (∀ k, bl T' k = true ↔ bl T k = true ∨ ∃ r, us_U g r ∧ rg_l g r = v ∧ k = 5 * r) → J T' (nI (n + 1))) : ∃ f, wY_closure_46 post J (nI n) (nI v) h_made h_depth h_length h_tokenCount h_wrong h_letterCount h_ruleCount h_makingCount u h_stateCount h_wideCount h_useCount h_result b_ops b_firsts b_seconds b_sizes b_stack b_roots b_text b_ends b_tokenKinds b_tokenSizes b_letters b_begins b_closes b_empties b_nexts b_sets b_leads b_classes b_newClasses b_lefts b_rights b_counts b_making b_firstSets b_followSets b_states b_looks b_wides b_work b_met b_tasks b_held b_uses b_reach f T 0 := by
  have h9 := hg.1
  refine loop_0 (fun f r T => wY_closure_46 post J (nI n) (nI v) h_made h_depth h_length h_tokenCount h_wrong h_letterCount h_ruleCount h_makingCount u h_stateCount h_wideCount h_useCount h_result b_ops b_firsts b_seconds b_sizes b_stack b_roots b_text b_ends b_tokenKinds b_tokenSizes b_letters b_begins b_closes b_empties b_nexts b_sets b_leads b_classes b_newClasses b_lefts b_rights b_counts b_making b_firstSets b_followSets b_states b_looks b_wides b_work b_met b_tasks b_held b_uses b_reach f T (nI r)) (fun r T' => ∀ k, bl T' k = true ↔ bl T k = true ∨ ∃ r', r' < r ∧ us_U g r' ∧ rg_l g r' = v ∧ k = 5 * r') 9 T ?_ ?_ ?_
  · intro k
    exact ⟨Or.inl, fun z => by
      rcases z with z | ⟨r', z, _⟩
      · exact z
      · omega⟩
  · intro f T' hT
    refine br_t (nI_le (Nat.le_refl 9) (by decide)) (nm_r (nI_1 n) (h T' fun k => ?_))
    rw [hT k]
    constructor
    · rintro (z | ⟨r', _, z⟩)
      · exact Or.inl z
      · exact Or.inr ⟨r', z⟩
    · rintro (z | ⟨r', z⟩)
      · exact Or.inl z
      · exact Or.inr ⟨r', by have := z.1.1; omega, z⟩
  · intro f r T' hr hT hk
    have skip : ¬ (us_U g r ∧ rg_l g r = v) → ∀ k, bl T' k = true ↔ bl T k = true ∨ ∃ r', r' < r + 1 ∧ us_U g r' ∧ rg_l g r' = v ∧ k = 5 * r' := by
      intro z k
      rw [hT k]
      constructor
      · rintro (y | ⟨r', y1, y2⟩)
        · exact Or.inl y
        · exact Or.inr ⟨r', by omega, y2⟩
      · rintro (y | ⟨r', y1, y2, y3, y4⟩)
        · exact Or.inl y
        · have : r' ≠ r := fun e => z (by rw [← e]; exact ⟨y2, y3⟩)
          exact Or.inr ⟨r', by omega, y2, y3, y4⟩
    refine br_f (nI_ge hr (by decide)) (br_f (nI_ge (a := 2) (by omega) (by omega)) (br_c (fun z => ?_) (fun z => ?_)))
    · have z := (hU r).mp ((b_test u (n := r) (by omega)).mp z)
      obtain ⟨g1, g2, g3⟩ := hG r (Or.inl z.1)
      have l := hg.2.1 r z.1
      refine br_f (by decide) ⟨vp_in_nI (by omega) (by decide), ?_⟩
      rw [nI_clamp (by omega : r < 2 ^ 31), g1]
      refine pk_eq (rg_l g r) v (fun e => ?_) (fun e => nm_r (nI_1 r) (hk T' (skip fun w => e w.2)))
      refine nm_e (nm_r (nI_1 r) (hk _ fun k => ?_))
      rw [show (5 : Int32) * nI r = nI (5 * r) from pk_mul 5 r, bl_or, Bool.or_eq_true, hT k, bl_one _ (by omega), decide_eq_true_eq]
      constructor
      · rintro ((y | ⟨r', y1, y2⟩) | y)
        · exact Or.inl y
        · exact Or.inr ⟨r', by omega, y2⟩
        · exact Or.inr ⟨r, by omega, z, e, y⟩
      · rintro (y | ⟨r', y1, y2, y3, y4⟩)
        · exact Or.inl (Or.inl y)
        · by_cases er : r' = r
          · subst er; exact Or.inr y4
          · exact Or.inl (Or.inr ⟨r', by omega, y2, y3, y4⟩)
    · have z : ¬ us_U g r := fun y => z ((b_test u (by omega)).mpr ((hU r).mpr y))
      exact br_t rfl (nm_r (nI_1 r) (hk T' (skip fun w => z w.1)))
theorem yw_closure (hg : rg_ok g) (hG : xg_G g b_lefts b_rights b_counts) {u : Int32} (hU : yg_U g u) {S : Int64} (hS : tb_io g S) {post : Int64 → Prop} (h : post (mk_l (cl_0 g (fun i => bl S i = true)))) : wpY_closure post (h_made, h_depth, h_length, h_tokenCount, h_wrong, h_letterCount, h_ruleCount, h_makingCount, u, h_stateCount, h_wideCount, h_useCount, h_result, b_ops, b_firsts, b_seconds, b_sizes, b_stack, b_roots, b_text, b_ends, b_tokenKinds, b_tokenSizes, b_letters, b_begins, b_closes, b_empties, b_nexts, b_sets, b_leads, b_classes, b_newClasses, b_lefts, b_rights, b_counts, b_making, b_firstSets, b_followSets, b_states, b_looks, b_wides, b_work, b_met, b_tasks, b_held, b_uses, b_reach) S := by
  have h9 := hg.1
  refine loop_0 (fun f n T => wY_closure_5 post h_made h_depth h_length h_tokenCount h_wrong h_letterCount h_ruleCount h_makingCount u h_stateCount h_wideCount h_useCount h_result b_ops b_firsts b_seconds b_sizes b_stack b_roots b_text b_ends b_tokenKinds b_tokenSizes b_letters b_begins b_closes b_empties b_nexts b_sets b_leads b_classes b_newClasses b_lefts b_rights b_counts b_making b_firstSets b_followSets b_states b_looks b_wides b_work b_met b_tasks b_held b_uses b_reach f T (nI n)) (fun n T => (∀ k, bl S k = true → bl T k = true) ∧ (∀ k, bl T k = true → cl_0 g (fun i => bl S i = true) k) ∧ rd_J 50 (yc_s g) yc_c n T) 500 S ⟨fun _ z => z, fun _ z => cl_sub z, rd_i⟩ ?_ ?_
  · rintro f T ⟨s1, s2, s3⟩
    have cl := rd_end s3 (cn_le _ 9) (by omega) (fun e i _ _ r hr _ => cn_full e r (by have := hr.1; omega))
    have e : T = mk_l (cl_0 g (fun i => bl S i = true)) := by
      apply bl_ext
      intro i _
      have h1 := tb_mk hg (S := fun i => bl S i = true) hS i
      have h2 : bl T i = true ↔ cl_0 g (fun i => bl S i = true) i := by
        refine ⟨s2 i, fun z => z (fun i => bl T i = true) s1 fun k r hk hU hn => ?_⟩
        have := im_lt hg (cl_ok hS (s2 k hk))
        exact cl k (by omega) hk r hU hn
      rw [← h1] at h2
      cases c1 : bl T i <;> cases c2 : bl (mk_l (cl_0 g (fun i => bl S i = true))) i
      · rfl
      · rw [c1, c2] at h2; exact absurd (h2.mpr rfl) (by decide)
      · rw [c1, c2] at h2; exact absurd (h2.mp rfl) (by decide)
      · rfl
    rw [← e] at h
    exact br_t (nI_le (Nat.le_refl 500) (by decide)) h
  · rintro f n T hn ⟨s1, s2, s3⟩ hk
    have e1 : nI n - nI n / 50 * 50 = nI (n % 50) := pk_rem (d := 50) (by omega) (by decide) (by decide)
    have skip : yc_s g (n % 50) T → ∀ y : Int32, y ≤ 2 → ∃ f', wY_closure_46 post (wY_closure_5 post h_made h_depth h_length h_tokenCount h_wrong h_letterCount h_ruleCount h_makingCount u h_stateCount h_wideCount h_useCount h_result b_ops b_firsts b_seconds b_sizes b_stack b_roots b_text b_ends b_tokenKinds b_tokenSizes b_letters b_begins b_closes b_empties b_nexts b_sets b_leads b_classes b_newClasses b_lefts b_rights b_counts b_making b_firstSets b_followSets b_states b_looks b_wides b_work b_met b_tasks b_held b_uses b_reach f) (nI n) y h_made h_depth h_length h_tokenCount h_wrong h_letterCount h_ruleCount h_makingCount u h_stateCount h_wideCount h_useCount h_result b_ops b_firsts b_seconds b_sizes b_stack b_roots b_text b_ends b_tokenKinds b_tokenSizes b_letters b_begins b_closes b_empties b_nexts b_sets b_leads b_classes b_newClasses b_lefts b_rights b_counts b_making b_firstSets b_followSets b_states b_looks b_wides b_work b_met b_tasks b_held b_uses b_reach f' T 0 := by
      intro z y hy
      exact ⟨1, br_f (by decide) (br_t hy (nm_r (nI_1 n) (hk T ⟨s1, s2, rd_keep (by omega) s3 z⟩)))⟩
    refine br_f (nI_ge hn (by decide)) ⟨by decide, nm_r e1 (br_c (fun z => ?_) (fun z => ?_))⟩
    · have z := (bl_test T (n := n % 50) (by omega)).mp z
      have io := cl_ok hS (s2 _ z)
      refine yw_nextOf hg hG io (fun v hv v7 => ?_) (fun hc => skip (fun _ r _ hn' => by have := hn'.1; omega) _ (by decide))
      rcases Nat.lt_or_ge v 3 with y | y
      · refine skip (fun _ r hr hn' => ?_) _ (nI_le (b := 2) (by omega) (by decide))
        have := (hg.2.1 r hr.1).1
        have := hv.2.symm.trans hn'.2
        omega
      · refine yw_clIn hg hG hU y v7 (fun T' hT' => hk T' ⟨fun k hk' => (hT' k).mpr (Or.inl (s1 k hk')), fun k hk' => ?_, ?_⟩)
        · rcases (hT' k).mp hk' with w | ⟨r, w1, w2, rfl⟩
          · exact s2 k w
          · exact cl_self g _ _ r (s2 _ z) w1 (by rw [w2]; exact hv)
        · by_cases w : yc_s g (n % 50) T
          · have es : T' = T := by
              apply bl_ext
              intro k _
              cases c1 : bl T k
              · cases c2 : bl T' k
                · rfl
                · rcases (hT' k).mp c2 with q | ⟨r, w1, w2, rfl⟩
                  · rw [c1] at q; cases q
                  · rw [w z r w1 (by rw [w2]; exact hv)] at c1; cases c1
              · exact (hT' k).mpr (Or.inl c1)
            rw [es]
            exact rd_keep (by omega) s3 w
          · refine rd_grow (by omega) s3 w ?_
            have : ∃ r, us_U g r ∧ rg_l g r = v ∧ ¬ bl T (5 * r) = true := by
              refine Classical.byContradiction fun q => w fun _ r hr hn' => ?_
              exact Classical.byContradiction fun q2 => q ⟨r, hr, hn'.2.symm.trans hv.2, q2⟩
            obtain ⟨r, w1, w2, w3⟩ := this
            exact cn_lt (a := r) w3 ((hT' _).mpr (Or.inr ⟨r, w1, w2, rfl⟩)) (fun k _ q => (hT' _).mpr (Or.inl q)) (by have := w1.1; omega)
    · have z : ¬ bl T (n % 50) = true := fun y => z ((bl_test T (by omega)).mpr y)
      exact skip (fun y => absurd y z) _ (by decide)
/-- the states listed: n of the list's first -/
def yt_k (g : rg_T) (k n : Nat) (items : Nat → Int64) : Prop := (sb_B g k).2 = n ∧ ∀ i, i < n → items i = (sb_B g k).1 i
def yt_ok (g : rg_T) (cnt : Int32) (items : Nat → Int64) : Prop := ∃ k n, yt_k g k n items ∧ n ≤ 61 ∧ (n * 7 ≤ k ∨ n = 61) ∧ cnt = nI n
theorem yw_findState {n : Nat} (hn : n ≤ 61) {T : Int64} {post : Int32 → Prop} (h1 : ∀ s, s < n → b_states s = T → post (nI s)) (h2 : (∀ s, s < n → b_states s ≠ T) → post (nI n)) : wpY_findState post (h_made, h_depth, h_length, h_tokenCount, h_wrong, h_letterCount, h_ruleCount, h_makingCount, h_usefulRules, (nI n), h_wideCount, h_useCount, h_result, b_ops, b_firsts, b_seconds, b_sizes, b_stack, b_roots, b_text, b_ends, b_tokenKinds, b_tokenSizes, b_letters, b_begins, b_closes, b_empties, b_nexts, b_sets, b_leads, b_classes, b_newClasses, b_lefts, b_rights, b_counts, b_making, b_firstSets, b_followSets, b_states, b_looks, b_wides, b_work, b_met, b_tasks, b_held, b_uses, b_reach) T := by
  refine loop_0 (fun f i (_ : Unit) => wY_findState_2 post T h_made h_depth h_length h_tokenCount h_wrong h_letterCount h_ruleCount h_makingCount h_usefulRules (nI n) h_wideCount h_useCount h_result b_ops b_firsts b_seconds b_sizes b_stack b_roots b_text b_ends b_tokenKinds b_tokenSizes b_letters b_begins b_closes b_empties b_nexts b_sets b_leads b_classes b_newClasses b_lefts b_rights b_counts b_making b_firstSets b_followSets b_states b_looks b_wides b_work b_met b_tasks b_held b_uses b_reach f (nI i)) (fun i _ => ∀ s, s < i → b_states s ≠ T) n () (fun s hs => absurd hs (Nat.not_lt_zero s)) ?_ ?_
  · intro f _ hs
    exact br_t (nI_le (Nat.le_refl _) (by omega)) (h2 hs)
  · intro f i _ hi hs hk
    refine br_f (nI_ge hi (by omega)) ⟨vp_in_nI (by omega) (by decide), ?_⟩
    rw [nI_clamp (by omega : i < 2 ^ 31)]
    refine br_c (fun z => h1 i hi z) (fun z => nm_r (nI_1 i) (hk () fun s hs' => ?_))
    rcases Nat.lt_or_ge s i with y | y
    · exact hs s y
    · have y : s = i := by omega
      subst y; exact z
theorem cl_emp {S : Nat → Prop} (h : ∀ k, ¬ S k) (k : Nat) : ¬ cl_0 g S k := fun z => z (fun _ => False) (fun i hi => h i hi) (fun _ _ z _ _ => z)
theorem yw_makeStates (hg : rg_ok g) (hG : xg_G g b_lefts b_rights b_counts) {post : SY → Prop} (h : ∀ u a w cnt items, yg_U g u → xb_ok g a → xb_4 a → yf_ok g w → yt_ok g cnt items → post (h_made, h_depth, h_length, h_tokenCount, h_wrong, h_letterCount, (nI (rg_n g)), h_makingCount, u, cnt, h_wideCount, h_useCount, h_result, b_ops, b_firsts, b_seconds, b_sizes, b_stack, b_roots, b_text, b_ends, b_tokenKinds, b_tokenSizes, b_letters, b_begins, b_closes, b_empties, b_nexts, b_sets, b_leads, b_classes, b_newClasses, b_lefts, b_rights, b_counts, b_making, a, w, items, b_looks, b_wides, b_work, b_met, b_tasks, b_held, b_uses, b_reach)) : wpY_makeStates post (h_made, h_depth, h_length, h_tokenCount, h_wrong, h_letterCount, (nI (rg_n g)), h_makingCount, h_usefulRules, h_stateCount, h_wideCount, h_useCount, h_result, b_ops, b_firsts, b_seconds, b_sizes, b_stack, b_roots, b_text, b_ends, b_tokenKinds, b_tokenSizes, b_letters, b_begins, b_closes, b_empties, b_nexts, b_sets, b_leads, b_classes, b_newClasses, b_lefts, b_rights, b_counts, b_making, b_firstSets, b_followSets, b_states, b_looks, b_wides, b_work, b_met, b_tasks, b_held, b_uses, b_reach) := by
  refine yw_findSets (h_usefulRules := h_usefulRules) (b_firstSets := b_firstSets) (b_followSets := b_followSets) hg hG (fun u a w hU hF h4 hW => ?_)
  have io45 : tb_io g 35184372088832 := by
    intro i hi
    rw [bl_45, decide_eq_true_eq] at hi
    subst hi
    exact im_45 g
  have e45 : (fun i => bl 35184372088832 i = true) = fun k => k = 45 := by
    funext k
    rw [bl_45, decide_eq_true_eq]
  refine yw_closure hg hG hU io45 (nm_e ?_)
  rw [e45]
  have fin : ∀ k n items, yt_k g k n items → n ≤ 61 → (n * 7 ≤ k ∨ n = 61) → post (h_made, h_depth, h_length, h_tokenCount, h_wrong, h_letterCount, (nI (rg_n g)), h_makingCount, u, (nI n), h_wideCount, h_useCount, h_result, b_ops, b_firsts, b_seconds, b_sizes, b_stack, b_roots, b_text, b_ends, b_tokenKinds, b_tokenSizes, b_letters, b_begins, b_closes, b_empties, b_nexts, b_sets, b_leads, b_classes, b_newClasses, b_lefts, b_rights, b_counts, b_making, a, w, items, b_looks, b_wides, b_work, b_met, b_tasks, b_held, b_uses, b_reach) := fun k n items h1 h2 h3 => h u a w _ items hU hF h4 hW ⟨k, n, h1, h2, h3, rfl⟩
  have key : ∀ d s, s + d = 61 → ∀ k n items, s ≤ n → n ≤ 61 → yt_k g k n items → (k = s * 7 ∨ n = 61) → wY_makeStates_24 post h_made h_depth h_length h_tokenCount h_wrong h_letterCount (nI (rg_n g)) h_makingCount u h_wideCount h_useCount h_result (d + 1) (nI s) (nI n) b_ops b_firsts b_seconds b_sizes b_stack b_roots b_text b_ends b_tokenKinds b_tokenSizes b_letters b_begins b_closes b_empties b_nexts b_sets b_leads b_classes b_newClasses b_lefts b_rights b_counts b_making a w items b_looks b_wides b_work b_met b_tasks b_held b_uses b_reach := by
    intro d
    induction d with
    | zero =>
      intro s hs k n items h1 h2 h3 h5
      exact br_t (nI_le (by omega) (by omega)) (fin k n items h3 h2 (by omega))
    | succ d ih =>
      intro s hs k n items h1 h2 h3 h5
      refine pk_le n s (fun z => fin k n items h3 h2 (by omega)) (fun z => pk_le 61 n (fun y => fin k n items h3 h2 (by omega)) (fun y => ?_))
      have h5 : k = s * 7 := by omega
      subst h5
      refine loop_0 (fun f x σ => wY_makeStates_43 post (wY_makeStates_24 post h_made h_depth h_length h_tokenCount h_wrong h_letterCount (nI (rg_n g)) h_makingCount u h_wideCount h_useCount h_result (d + 1)) (nI s) h_made h_depth h_length h_tokenCount h_wrong h_letterCount (nI (rg_n g)) h_makingCount u h_wideCount h_useCount h_result f (nI x) (nI σ.1) b_ops b_firsts b_seconds b_sizes b_stack b_roots b_text b_ends b_tokenKinds b_tokenSizes b_letters b_begins b_closes b_empties b_nexts b_sets b_leads b_classes b_newClasses b_lefts b_rights b_counts b_making a w σ.2 b_looks b_wides b_work b_met b_tasks b_held b_uses b_reach) (fun x σ => s < σ.1 ∧ σ.1 ≤ 61 ∧ ∃ k, yt_k g k σ.1 σ.2 ∧ (k = s * 7 + x ∨ σ.1 = 61)) 7 (n, items) ⟨z, h2, s * 7, h3, Or.inl rfl⟩ ?_ ?_
      · rintro f ⟨n, items⟩ ⟨a1, a2, k, a3, a4⟩
        have a4 : k = s * 7 + 7 ∨ n = 61 := a4
        exact br_t (nI_le (Nat.le_refl 7) (by decide)) (nm_r (nI_1 s) (ih (s + 1) (by omega) k n items a1 a2 a3 (by omega)))
      · rintro f x ⟨n, items⟩ hx ⟨a1, a2, k, a3, a4⟩ hk
        have a1 : s < n := a1
        have a2 : n ≤ 61 := a2
        have a3 : yt_k g k n items := a3
        have a4 : k = s * 7 + x ∨ n = 61 := a4
        refine br_f (nI_ge hx (by decide)) (pk_le 61 n (fun y => ?_) (fun y => ?_))
        · exact nm_r (nI_1 s) (ih (s + 1) (by omega) k n items a1 a2 a3 (by omega))
        · have a4 : k = s * 7 + x := by omega
          subst a4
          have cs : (nI s).toNatClampNeg = s := nI_clamp (by omega)
          have q1 : (s * 7 + x) / 7 = s := by omega
          have q2 : (s * 7 + x) % 7 = x := by omega
          have hn := a3.1
          have his := a3.2 s a1
          have hio : tb_io g (items s) := by rw [his]; exact sb_io hg _ s (by omega)
          have eB : sb_B g (s * 7 + x + 1) = bf_st (tb_to g) (s * 7 + x) (sb_B g (s * 7 + x)) := rfl
          refine ⟨vp_in_nI (by omega) (by decide), ?_⟩
          rw [cs]
          refine yw_moved hg hG hio hx (fun M hM => ?_)
          have ioM : tb_io g M := fun i hi => tb_mv_ok hg hio ((hM i).mp hi)
          have eM : (fun i => bl M i = true) = tb_mv g (items s) x := by
            funext i
            exact propext (hM i)
          refine yw_closure hg hG hU ioM ?_
          rw [eM]
          have keep : sb_B g (s * 7 + x + 1) = sb_B g (s * 7 + x) → s < n ∧ n ≤ 61 ∧ ∃ k, yt_k g k n items ∧ (k = s * 7 + (x + 1) ∨ n = 61) := by
            intro e
            refine ⟨a1, a2, s * 7 + x + 1, ?_, Or.inl rfl⟩
            unfold yt_k
            rw [e]; exact a3
          by_cases ne : ∃ j, tb_mv g (items s) x j
          · obtain ⟨j0, hj0⟩ := ne
            have sm : tb_to g ((sb_B g (s * 7 + x)).1 s) x = some (mk_l (cl_0 g (tb_mv g (items s) x))) := by
              rw [← his]; exact tb_ex hj0
            have nz : ¬ mk_l (cl_0 g (tb_mv g (items s) x)) = 0 := fun z0 => bl_no z0 j0 ((tb_mk hg (fun i hi => tb_mv_ok hg hio hi) j0).mpr (cl_sub hj0))
            refine yw_findState (b_states := items) (by omega) (fun s' hs' e' => br_f nz (br_f (fun e => ?_) (nm_r (nI_1 x) (hk (n, items) (keep (eB.trans (bf_old (by rw [q1, q2]; exact sm) ⟨s', by omega, ?_⟩))))))) (fun hno => ?_)
            · have := (nI_eq (a := s') (b := n) (by omega) (by omega)).mp e; omega
            · rw [← a3.2 s' hs']; exact e'
            · have new : ¬ ∃ s', s' < (sb_B g (s * 7 + x)).2 ∧ (sb_B g (s * 7 + x)).1 s' = mk_l (cl_0 g (tb_mv g (items s) x)) := by
                rintro ⟨s', z1, z2⟩
                exact hno s' (by omega) (by rw [a3.2 s' (by omega)]; exact z2)
              have eN := eB.trans (bf_new (by rw [q1]; omega) (by rw [q1, q2]; exact sm) new)
              refine br_f nz (br_t rfl ⟨vp_in_nI (by omega) (by decide), nm_r (by rw [nI_clamp (by omega)]) (nm_r (nI_1 n) (nm_r (nI_1 x) (hk (n + 1, vp_updL items n (mk_l (cl_0 g (tb_mv g (items s) x)))) ⟨by show s < n + 1; omega, by show n + 1 ≤ 61; omega, s * 7 + x + 1, ?_, Or.inl rfl⟩)))⟩)
              unfold yt_k
              rw [eN, hn]
              refine ⟨rfl, fun i hi => ?_⟩
              have hi : i < n + 1 := hi
              show vp_updL items n _ i = if i = n then _ else _
              by_cases e : i = n
              · subst e; rw [pk_uLs, if_pos rfl]
              · rw [pk_uLn e, if_neg e]; exact a3.2 i (by omega)
          · have no : tb_to g ((sb_B g (s * 7 + x)).1 s) x = none := by
              rw [← his]; exact if_neg ne
            have z0 : mk_l (cl_0 g (tb_mv g (items s) x)) = 0 := by
              rw [bl_zero]
              intro i _
              cases e : bl (mk_l (cl_0 g (tb_mv g (items s) x))) i
              · rfl
              · exact absurd ((tb_mk hg (fun i hi => tb_mv_ok hg hio hi) i).mp e) (cl_emp (fun k hk => ne ⟨k, hk⟩) i)
            have go := hk (n, items) (keep (eB.trans (bf_none (by rw [q1, q2]; exact no))))
            exact yw_findState (b_states := items) (by omega) (fun s' hs' e' => br_t z0 (nm_r (nI_1 x) go)) (fun hno => br_t z0 (nm_r (nI_1 x) go))
  refine ⟨62, key 61 0 rfl 0 1 _ (by omega) (by omega) ⟨rfl, fun i hi => ?_⟩ (Or.inl rfl)⟩
  have : i = 0 := by omega
  subst this
  exact pk_uLs
end
end
section
/-! the component closes four sets of items -/
variable {f_depth f_made f_textLength f_tokenCount f_wrongPlace f_ruleCount f_prepared f_rulesInUse f_stateCount f_wideCount f_gradeFound f_readHeight f_tokensTaken f_usedCount : Int32} {a_spotCounts a_ends a_arrows a_takers a_groups a_marks a_text a_tokenKinds a_tokenLengths a_lefts a_rights a_rightSizes a_beginSets a_followSets a_stateSteps a_wideSteps a_readStates a_readValues a_usedRules : Nat → Int32} {a_nextItems a_openItems a_restItems a_stateItems a_stateLooks a_wideLooks : Nat → Int64}
theorem ax_uL {a : Nat → Int64} {b n t : Nat} {L : Nat → Int64} {x : Int64} (ht : t < n) : vp_updL (ax_set a b n L) (b + t) x = ax_set a b n (vp_updL L t x) := by
  funext j
  unfold vp_updL ax_set
  by_cases h : j = b + t
  · subst h
    rw [if_pos rfl, if_pos (by omega)]
    exact (if_pos (by omega)).symm
  · rw [if_neg h]
    by_cases h2 : b ≤ j ∧ j < b + n
    · rw [if_pos h2, if_pos h2]
      exact (if_neg (by omega)).symm
    · rw [if_neg h2, if_neg h2]
section
variable {g : rg_T}
/-- the looks that variable v is opened with -/
def xo_O (g : rg_T) (L : Nat → Int64) (v t : Nat) : Prop := ∃ t0 k, t0 < 4 ∧ bl (L t0) k = true ∧ im_nx g k v ∧ fs_t (fi_F g) (rg_h g (k / 5)) (rg_c g (k / 5) - (k % 5 + 1)) (k % 5 + 1) t0 t
def xo_s (g : rg_T) (ao L : Nat → Int64) (v : Nat) : Prop := ∀ t, t < 4 → xo_O g L v t → ∀ k, bl (ao v) k = true → bl (L t) k = true
noncomputable def xo_c (ao L : Nat → Int64) : Nat := cn_c (fun x => ∀ k, bl (ao (x / 4 + 3)) k = true → bl (L (x % 4)) k = true) 16
/-- the sets' items are in use, and their looks -/
def xo_io (g : rg_T) (L : Nat → Int64) : Prop := ∀ t k, t < 4 → bl (L t) k = true → tw_in g t k
def xo_S (L : Nat → Int64) (t k : Nat) : Prop := t < 4 ∧ bl (L t) k = true
theorem xo_lt (hg : rg_ok g) {ao L L' : Nat → Int64} {v t : Nat} (v3 : 3 ≤ v) (v7 : v < 7) (ht : t < 4) (h1 : ¬ ∀ k, bl (ao v) k = true → bl (L t) k = true) (h2 : ∀ k, bl (ao v) k = true → bl (L' t) k = true) (h : ∀ t k, t < 4 → bl (L t) k = true → bl (L' t) k = true) : xo_c ao L < xo_c ao L' := by
  have e1 : ((v - 3) * 4 + t) / 4 + 3 = v := by omega
  have e2 : ((v - 3) * 4 + t) % 4 = t := by omega
  exact cn_lt (a := (v - 3) * 4 + t) (by rw [e1, e2]; exact h1) (by rw [e1, e2]; exact h2) (fun x _ z k hk => h _ k (by omega) (z k hk)) (by omega)
/-- closed sets above S and below the least are the least -/
theorem xo_end (hg : rg_ok g) {ao L S : Nat → Int64} (hO : ∀ v k, v < 7 → (bl (ao v) k = true ↔ ∃ r, us_U g r ∧ r < 10 ∧ rg_l g r = v ∧ k = 5 * r)) (hS : xo_io g S) (h1 : ∀ t k, t < 4 → bl (S t) k = true → bl (L t) k = true) (h2 : ∀ t k, t < 4 → bl (L t) k = true → cw_0 g (xo_S S) t k) (h3 : ∀ v, 3 ≤ v → v < 7 → xo_s g ao L v) {t : Nat} (ht : t < 4) : L t = mk_l (cw_0 g (xo_S S) t) := by
  apply bl_ext
  intro i _
  have hin : ∀ t k, xo_S S t k → tw_in g t k := fun t k z => hS t k z.1 z.2
  have e1 := tw_mk hg hin ht i
  rw [w4_tm ht] at e1
  have e2 : bl (L t) i = true ↔ cw_0 g (xo_S S) t i := by
    refine ⟨h2 t i ht, fun z => (z (fun t k => t < 4 ∧ bl (L t) k = true) (fun t k w => ⟨w.1, h1 t k w.1 w.2⟩) fun t k r t' hk hU hn hf => ?_).2⟩
    have ht' : t' < 4 := by have := fs_t_le (t := t) (by omega) hf; omega
    have l := hg.2.1 r hU.1
    exact ⟨ht', h3 (rg_l g r) l.1 l.2.1 t' ht' ⟨t, k, hk.1, hk.2, hn, hf⟩ _ ((hO _ _ l.2.1).mpr ⟨r, hU, by have := hU.1; have := hg.1; omega, rfl, rfl⟩)⟩
  rw [← e1] at e2
  cases c1 : bl (L t) i <;> cases c2 : bl (mk_l (cw_0 g (xo_S S) t)) i
  · rfl
  · rw [c1, c2] at e2; exact absurd (e2.mpr rfl) (by decide)
  · rw [c1, c2] at e2; exact absurd (e2.mp rfl) (by decide)
  · rfl
/-- what is opened is in the least closed sets -/
theorem xo_snd {ao L S : Nat → Int64} (hO : ∀ v k, v < 7 → (bl (ao v) k = true ↔ ∃ r, us_U g r ∧ r < 10 ∧ rg_l g r = v ∧ k = 5 * r)) (h2 : ∀ t k, t < 4 → bl (L t) k = true → cw_0 g (xo_S S) t k) {v t : Nat} (v7 : v < 7) (h : xo_O g L v t) {k : Nat} (hk : bl (ao v) k = true) : cw_0 g (xo_S S) t k := by
  obtain ⟨t0, j, z1, z2, z3, z4⟩ := h
  obtain ⟨r, y1, _, y3, rfl⟩ := (hO v k v7).mp hk
  rw [← y3] at z3
  exact cw_self g _ t0 j r t (h2 t0 j z1 z2) y1 z3 z4
theorem xw_looksOpened_wideLooks (hg : rg_ok g) (hI : xi_I g 10 a_nextItems a_openItems a_restItems) {b v : Nat} (hb : b + 4 ≤ 324) (v3 : 3 ≤ v) (v7 : v < 7) {L : Nat → Int64} (hL : xo_io g L) {post : Int32 → Prop} (h : ∀ x, (∀ t, bt x t = true ↔ xo_O g L v t) → post x) : wpX_looksOpened__wideLooks post (f_depth, f_made, f_textLength, f_tokenCount, f_wrongPlace, f_ruleCount, f_prepared, f_rulesInUse, f_stateCount, f_wideCount, f_gradeFound, f_readHeight, f_tokensTaken, f_usedCount, a_spotCounts, a_ends, a_arrows, a_takers, a_groups, a_marks, a_text, a_tokenKinds, a_tokenLengths, a_lefts, a_rights, a_rightSizes, a_beginSets, a_followSets, a_nextItems, a_openItems, a_restItems, a_stateItems, a_stateSteps, a_stateLooks, a_wideSteps, (ax_set a_wideLooks b 4 L), a_readStates, a_readValues, a_usedRules) (nI b) (nI v) := by
  obtain ⟨i1, i2, i3, i4⟩ := hI
  have cv : (nI v).toNatClampNeg = v := nI_clamp (by omega)
  have here : ∀ t, t < 4 → ∀ k, bl (L t &&& a_nextItems v) k = true ↔ bl (L t) k = true ∧ im_nx g k v := by
    intro t ht k
    rw [bl_and, Bool.and_eq_true, i1 v k v7]
    exact ⟨fun z => ⟨z.1, z.2.2⟩, fun z => ⟨z.1, ⟨(hL t k ht z.1).1.1, xu_10 hg (hL t k ht z.1).1.1⟩, z.2⟩⟩
  refine loop_0 (fun f t s => wX_looksOpened__wideLooks_9 post (nI b) (nI v) f_depth f_made f_textLength f_tokenCount f_wrongPlace f_ruleCount f_prepared f_rulesInUse f_stateCount f_wideCount f_gradeFound f_readHeight f_tokensTaken f_usedCount a_spotCounts a_ends a_arrows a_takers a_groups a_marks a_text a_tokenKinds a_tokenLengths a_lefts a_rights a_rightSizes a_beginSets a_followSets a_nextItems a_openItems a_restItems a_stateItems a_stateSteps a_stateLooks a_wideSteps (ax_set a_wideLooks b 4 L) a_readStates a_readValues a_usedRules f s.1 s.2 (nI t)) (fun t s => (∀ j, bt s.1 j = true ↔ j < t ∧ ∃ k, bl (L j) k = true ∧ im_nx g k v ∧ xi_f g k 3) ∧ ∀ k, bl s.2 k = true ↔ ∃ j, j < t ∧ bl (L j) k = true ∧ im_nx g k v) 4 ((0 : Int32), (0 : Int64)) ?_ ?_ ?_
  · refine ⟨fun j => ?_, fun k => ?_⟩
    · show bt 0 j = true ↔ _
      rw [b_0]; exact ⟨(fun z => by cases z), fun z => absurd z.1 (Nat.not_lt_zero _)⟩
    · show bl 0 k = true ↔ _
      rw [bl_0]; exact ⟨(fun z => by cases z), fun ⟨j, hj, _⟩ => absurd hj (Nat.not_lt_zero j)⟩
  · rintro f ⟨x, A⟩ ⟨s1, s2⟩
    have s1 : ∀ j, bt x j = true ↔ j < 4 ∧ ∃ k, bl (L j) k = true ∧ im_nx g k v ∧ xi_f g k 3 := s1
    have s2 : ∀ k, bl A k = true ↔ ∃ j, j < 4 ∧ bl (L j) k = true ∧ im_nx g k v := s2
    refine br_t (nI_le (Nat.le_refl 4) (by decide)) ?_
    refine loop_0 (fun f i y => wX_looksOpened__wideLooks_69 post A f_depth f_made f_textLength f_tokenCount f_wrongPlace f_ruleCount f_prepared f_rulesInUse f_stateCount f_wideCount f_gradeFound f_readHeight f_tokensTaken f_usedCount a_spotCounts a_ends a_arrows a_takers a_groups a_marks a_text a_tokenKinds a_tokenLengths a_lefts a_rights a_rightSizes a_beginSets a_followSets a_nextItems a_openItems a_restItems a_stateItems a_stateSteps a_stateLooks a_wideSteps (ax_set a_wideLooks b 4 L) a_readStates a_readValues a_usedRules f y (nI i)) (fun i y => ∀ j, bt y j = true ↔ bt x j = true ∨ (j < i ∧ ∃ k, bl A k = true ∧ xi_f g k j)) 3 x (fun j => ⟨Or.inl, fun z => by
      rcases z with z | z
      · exact z
      · omega⟩) ?_ ?_
    · intro f y hy
      refine br_t (nI_le (Nat.le_refl 3) (by decide)) (h y fun t => ?_)
      rw [hy t, s1 t]
      constructor
      · rintro (⟨z1, k, z2, z3, z4⟩ | ⟨z1, k, z2, z4⟩)
        · exact ⟨t, k, z1, z2, z3, Or.inr ⟨z4.2, rfl⟩⟩
        · obtain ⟨j, j1, j2, j3⟩ := (s2 k).mp z2
          exact ⟨j, k, j1, j2, j3, Or.inl ⟨z1, z4.2⟩⟩
      · rintro ⟨t0, k, z1, z2, z3, ⟨z4, z5⟩ | ⟨z4, rfl⟩⟩
        · exact Or.inr ⟨z4, k, (s2 k).mpr ⟨t0, z1, z2, z3⟩, z3.1, z5⟩
        · exact Or.inl ⟨z1, k, z2, z3, z3.1, z4⟩
    · intro f i y hi hy hk
      have ci : (nI i).toNatClampNeg = i := nI_clamp (by omega)
      refine br_f (nI_ge hi (by decide)) ⟨vp_in_nI (by omega) (by decide), ?_⟩
      rw [ci]
      have hz : ∀ k, bl (A &&& a_restItems i) k = true ↔ bl A k = true ∧ xi_f g k i := by
        intro k
        rw [bl_and, Bool.and_eq_true, i4 i k (by omega)]
        refine ⟨fun z => ⟨z.1, z.2.2⟩, fun z => ⟨z.1, ?_, z.2⟩⟩
        obtain ⟨j, j1, j2, j3⟩ := (s2 k).mp z.1
        exact ⟨(hL j k j1 j2).1.1, xu_10 hg (hL j k j1 j2).1.1⟩
      refine br_c (fun z => nm_r (nI_1 i) (hk y fun j => ?_)) (fun z => nm_e (nm_r (nI_1 i) (hk _ fun j => ?_)))
      · rw [hy j]
        constructor
        · rintro (w | ⟨w1, w2⟩)
          · exact Or.inl w
          · exact Or.inr ⟨by omega, w2⟩
        · rintro (w | ⟨w1, k, w2⟩)
          · exact Or.inl w
          · by_cases e : j = i
            · subst e; exact absurd ((hz k).mpr w2) (bl_no z k)
            · exact Or.inr ⟨by omega, k, w2⟩
      · obtain ⟨k0, hk0⟩ := bl_ne z
        rw [b_or, Bool.or_eq_true, hy j, b_one _ (by omega), decide_eq_true_eq]
        constructor
        · rintro ((w | ⟨w1, w2⟩) | rfl)
          · exact Or.inl w
          · exact Or.inr ⟨by omega, w2⟩
          · exact Or.inr ⟨by omega, k0, (hz k0).mp hk0⟩
        · rintro (w | ⟨w1, k, w2⟩)
          · exact Or.inl (Or.inl w)
          · by_cases e : j = i
            · exact Or.inr e
            · exact Or.inl (Or.inr ⟨by omega, k, w2⟩)
  · rintro f t ⟨x, A⟩ ht ⟨s1, s2⟩ hk
    have s1 : ∀ j, bt x j = true ↔ j < t ∧ ∃ k, bl (L j) k = true ∧ im_nx g k v ∧ xi_f g k 3 := s1
    have s2 : ∀ k, bl A k = true ↔ ∃ j, j < t ∧ bl (L j) k = true ∧ im_nx g k v := s2
    refine br_f (nI_ge ht (by decide)) ⟨pk_in (b + t) 324 (by omega) (nI_add b t), vp_in_nI (by omega) (by decide), ?_⟩
    rw [pk_cl (b + t) (nI_add b t), cv, ax_in ht]
    have A' : ∀ k, bl (A ||| (L t &&& a_nextItems v)) k = true ↔ ∃ j, j < t + 1 ∧ bl (L j) k = true ∧ im_nx g k v := by
      intro k
      rw [bl_or, Bool.or_eq_true, s2 k, here t ht k]
      constructor
      · rintro (⟨j, z⟩ | z)
        · exact ⟨j, by omega, z.2⟩
        · exact ⟨t, by omega, z⟩
      · rintro ⟨j, z1, z2⟩
        by_cases e : j = t
        · subst e; exact Or.inr z2
        · exact Or.inl ⟨j, by omega, z2⟩
    have hz : ∀ k, bl ((L t &&& a_nextItems v) &&& a_restItems 3) k = true ↔ bl (L t) k = true ∧ im_nx g k v ∧ xi_f g k 3 := by
      intro k
      rw [bl_and, Bool.and_eq_true, here t ht k, i4 3 k (by omega)]
      exact ⟨fun z => ⟨z.1.1, z.1.2, z.2.2⟩, fun z => ⟨⟨z.1, z.2.1⟩, ⟨(hL t k ht z.1).1.1, xu_10 hg (hL t k ht z.1).1.1⟩, z.2.2⟩⟩
    refine nm_e (nm_e (br_c (fun z => nm_r (nI_1 t) (hk (x, _) ⟨fun j => ?_, A'⟩)) (fun z => nm_e (nm_r (nI_1 t) (hk (_, _) ⟨fun j => ?_, A'⟩)))))
    · show bt x j = true ↔ _
      rw [s1 j]
      constructor
      · rintro ⟨w1, w2⟩; exact ⟨by omega, w2⟩
      · rintro ⟨w1, k, w2⟩
        by_cases e : j = t
        · subst e; exact absurd ((hz k).mpr w2) (bl_no z k)
        · exact ⟨by omega, k, w2⟩
    · obtain ⟨k0, hk0⟩ := bl_ne z
      show bt (x ||| (1 : Int32) <<< (nI t &&& 31)) j = true ↔ _
      rw [b_or, Bool.or_eq_true, s1 j, b_one _ (by omega), decide_eq_true_eq]
      constructor
      · rintro (⟨w1, w2⟩ | rfl)
        · exact ⟨by omega, w2⟩
        · exact ⟨by omega, k0, (hz k0).mp hk0⟩
      · rintro ⟨w1, k, w2⟩
        by_cases e : j = t
        · exact Or.inr e
        · exact Or.inl ⟨by omega, k, w2⟩
theorem xw_closeLooks_wideLooks (hg : rg_ok g) (hI : xi_I g 10 a_nextItems a_openItems a_restItems) {b : Nat} (hb : b + 4 ≤ 324) {S : Nat → Int64} (hS : xo_io g S) {post : SX → Prop} (h : post (f_depth, f_made, f_textLength, f_tokenCount, f_wrongPlace, f_ruleCount, f_prepared, f_rulesInUse, f_stateCount, f_wideCount, f_gradeFound, f_readHeight, f_tokensTaken, f_usedCount, a_spotCounts, a_ends, a_arrows, a_takers, a_groups, a_marks, a_text, a_tokenKinds, a_tokenLengths, a_lefts, a_rights, a_rightSizes, a_beginSets, a_followSets, a_nextItems, a_openItems, a_restItems, a_stateItems, a_stateSteps, a_stateLooks, a_wideSteps, (ax_set a_wideLooks b 4 (fun t => mk_l (cw_0 g (xo_S S) t))), a_readStates, a_readValues, a_usedRules)) : wpX_closeLooks__wideLooks post (f_depth, f_made, f_textLength, f_tokenCount, f_wrongPlace, f_ruleCount, f_prepared, f_rulesInUse, f_stateCount, f_wideCount, f_gradeFound, f_readHeight, f_tokensTaken, f_usedCount, a_spotCounts, a_ends, a_arrows, a_takers, a_groups, a_marks, a_text, a_tokenKinds, a_tokenLengths, a_lefts, a_rights, a_rightSizes, a_beginSets, a_followSets, a_nextItems, a_openItems, a_restItems, a_stateItems, a_stateSteps, a_stateLooks, a_wideSteps, (ax_set a_wideLooks b 4 S), a_readStates, a_readValues, a_usedRules) (nI b) := by
  have hO := hI.2.2.1
  have lin : ∀ t k, xo_S S t k → tw_in g t k := fun t k z => hS t k z.1 z.2
  have fin : ∀ L : Nat → Int64, (∀ t k, t < 4 → bl (S t) k = true → bl (L t) k = true) → (∀ t k, t < 4 → bl (L t) k = true → cw_0 g (xo_S S) t k) → (∀ v, 3 ≤ v → v < 7 → xo_s g a_openItems L v) → post (f_depth, f_made, f_textLength, f_tokenCount, f_wrongPlace, f_ruleCount, f_prepared, f_rulesInUse, f_stateCount, f_wideCount, f_gradeFound, f_readHeight, f_tokensTaken, f_usedCount, a_spotCounts, a_ends, a_arrows, a_takers, a_groups, a_marks, a_text, a_tokenKinds, a_tokenLengths, a_lefts, a_rights, a_rightSizes, a_beginSets, a_followSets, a_nextItems, a_openItems, a_restItems, a_stateItems, a_stateSteps, a_stateLooks, a_wideSteps, (ax_set a_wideLooks b 4 L), a_readStates, a_readValues, a_usedRules) := by
    intro L h1 h2 h3
    have e : ax_set a_wideLooks b 4 L = ax_set a_wideLooks b 4 (fun t => mk_l (cw_0 g (xo_S S) t)) := by
      funext j
      unfold ax_set
      split
      · exact xo_end hg hO hS h1 h2 h3 (by omega)
      · rfl
    rw [e]; exact h
  have key : ∀ d q, q + d = 17 → ∀ (c : Int32) (L : Nat → Int64), (∀ t k, t < 4 → bl (S t) k = true → bl (L t) k = true) → (∀ t k, t < 4 → bl (L t) k = true → cw_0 g (xo_S S) t k) → ((c = 0 ∧ ∀ v, 3 ≤ v → v < 7 → xo_s g a_openItems L v) ∨ (¬ c = 0 ∧ q ≤ xo_c a_openItems L)) → wX_closeLooks__wideLooks_5 post (nI b) f_depth f_made f_textLength f_tokenCount f_wrongPlace f_ruleCount f_prepared f_rulesInUse f_stateCount f_wideCount f_gradeFound f_readHeight f_tokensTaken f_usedCount (d + 1) c (nI q) a_spotCounts a_ends a_arrows a_takers a_groups a_marks a_text a_tokenKinds a_tokenLengths a_lefts a_rights a_rightSizes a_beginSets a_followSets a_nextItems a_openItems a_restItems a_stateItems a_stateSteps a_stateLooks a_wideSteps (ax_set a_wideLooks b 4 L) a_readStates a_readValues a_usedRules := by
    intro d
    induction d with
    | zero =>
      intro q hq c L h1 h2 h3
      refine br_t (nI_lt (a := 16) (by omega) (by omega)) ?_
      rcases h3 with ⟨_, h3⟩ | ⟨_, h3⟩
      · exact fin L h1 h2 h3
      · have : xo_c a_openItems L ≤ 16 := cn_le _ 16
        omega
    | succ d ih =>
      intro q hq c L h1 h2 h3
      refine br_f (nI_nlt (a := 16) (by omega) (by decide)) (br_c (fun z => ?_) (fun z => ?_))
      · rcases h3 with ⟨_, h3⟩ | ⟨h3, _⟩
        · exact fin L h1 h2 h3
        · exact absurd z h3
      · have hq' : q ≤ xo_c a_openItems L := by
          rcases h3 with ⟨h3, _⟩ | ⟨_, h3⟩
          · exact absurd h3 z
          · exact h3
        refine loop_0 (fun f i s => wX_closeLooks__wideLooks_21 post (wX_closeLooks__wideLooks_5 post (nI b) f_depth f_made f_textLength f_tokenCount f_wrongPlace f_ruleCount f_prepared f_rulesInUse f_stateCount f_wideCount f_gradeFound f_readHeight f_tokensTaken f_usedCount (d + 1)) (nI b) (nI q) f_depth f_made f_textLength f_tokenCount f_wrongPlace f_ruleCount f_prepared f_rulesInUse f_stateCount f_wideCount f_gradeFound f_readHeight f_tokensTaken f_usedCount f s.1 (nI (3 + i)) a_spotCounts a_ends a_arrows a_takers a_groups a_marks a_text a_tokenKinds a_tokenLengths a_lefts a_rights a_rightSizes a_beginSets a_followSets a_nextItems a_openItems a_restItems a_stateItems a_stateSteps a_stateLooks a_wideSteps (ax_set a_wideLooks b 4 s.2) a_readStates a_readValues a_usedRules) (fun i s => (∀ t k, t < 4 → bl (S t) k = true → bl (s.2 t) k = true) ∧ (∀ t k, t < 4 → bl (s.2 t) k = true → cw_0 g (xo_S S) t k) ∧ ((s.1 = 0 ∧ s.2 = L ∧ ∀ v, 3 ≤ v → v < 3 + i → xo_s g a_openItems L v) ∨ (s.1 = 1 ∧ xo_c a_openItems L < xo_c a_openItems s.2))) 4 ((0 : Int32), L) ⟨h1, h2, Or.inl ⟨rfl, rfl, fun v v3 v4 => by omega⟩⟩ ?_ ?_
        · rintro f ⟨c', L'⟩ ⟨s1, s2, s3⟩
          refine br_t (nI_le (Nat.le_refl 7) (by decide)) (nm_r (nI_1 q) (ih (q + 1) (by omega) c' L' s1 s2 ?_))
          rcases s3 with ⟨e1, e2, e3⟩ | ⟨e1, e2⟩
          · have e1 : c' = 0 := e1
            have e2 : L' = L := e2
            subst e2
            exact Or.inl ⟨e1, fun v v3 v7 => e3 v v3 (by omega)⟩
          · have e1 : c' = 1 := e1
            have e2 : xo_c a_openItems L < xo_c a_openItems L' := e2
            exact Or.inr ⟨by rw [e1]; decide, by omega⟩
        · rintro f i ⟨c', L'⟩ hi ⟨s1, s2, s3⟩ hk
          have s1 : ∀ t k, t < 4 → bl (S t) k = true → bl (L' t) k = true := s1
          have s2 : ∀ t k, t < 4 → bl (L' t) k = true → cw_0 g (xo_S S) t k := s2
          have hL' : xo_io g L' := fun t k ht hk => cw_ok hg lin (s2 t k ht hk)
          have cv : (nI (3 + i)).toNatClampNeg = 3 + i := nI_clamp (by omega)
          refine br_f (nI_ge (a := 3 + i) (b := 7) (by omega) (by decide)) (xw_looksOpened_wideLooks hg hI hb (by omega) (by omega) hL' (fun x hx => ?_))
          refine loop_0 (fun f' t s => wX_closeLooks__wideLooks_41 post (wX_closeLooks__wideLooks_5 post (nI b) f_depth f_made f_textLength f_tokenCount f_wrongPlace f_ruleCount f_prepared f_rulesInUse f_stateCount f_wideCount f_gradeFound f_readHeight f_tokensTaken f_usedCount (d + 1)) (wX_closeLooks__wideLooks_21 post (wX_closeLooks__wideLooks_5 post (nI b) f_depth f_made f_textLength f_tokenCount f_wrongPlace f_ruleCount f_prepared f_rulesInUse f_stateCount f_wideCount f_gradeFound f_readHeight f_tokensTaken f_usedCount (d + 1)) (nI b) (nI q) f_depth f_made f_textLength f_tokenCount f_wrongPlace f_ruleCount f_prepared f_rulesInUse f_stateCount f_wideCount f_gradeFound f_readHeight f_tokensTaken f_usedCount f) (nI b) (nI q) (nI (3 + i)) x f_depth f_made f_textLength f_tokenCount f_wrongPlace f_ruleCount f_prepared f_rulesInUse f_stateCount f_wideCount f_gradeFound f_readHeight f_tokensTaken f_usedCount f' s.1 (nI t) a_spotCounts a_ends a_arrows a_takers a_groups a_marks a_text a_tokenKinds a_tokenLengths a_lefts a_rights a_rightSizes a_beginSets a_followSets a_nextItems a_openItems a_restItems a_stateItems a_stateSteps a_stateLooks a_wideSteps (ax_set a_wideLooks b 4 s.2) a_readStates a_readValues a_usedRules) (fun t s => (∀ t k, t < 4 → bl (L' t) k = true → bl (s.2 t) k = true) ∧ (∀ t k, t < 4 → bl (s.2 t) k = true → cw_0 g (xo_S S) t k) ∧ ((s.1 = c' ∧ s.2 = L' ∧ ∀ t', t' < t → xo_O g L' (3 + i) t' → ∀ k, bl (a_openItems (3 + i)) k = true → bl (L' t') k = true) ∨ (s.1 = 1 ∧ xo_c a_openItems L' < xo_c a_openItems s.2))) 4 (c', L') ⟨fun _ _ _ z => z, s2, Or.inl ⟨rfl, rfl, fun t' z => absurd z (Nat.not_lt_zero _)⟩⟩ ?_ ?_
          · rintro f' ⟨c2, L2⟩ ⟨w1, w2, w3⟩
            refine br_t (nI_le (Nat.le_refl 4) (by decide)) (nm_r (nI_1 (3 + i)) (hk (c2, L2) ⟨fun t k ht hk => w1 t k ht (s1 t k ht hk), w2, ?_⟩))
            rcases w3 with ⟨e1, e2, e3⟩ | ⟨e1, e2⟩
            · have e1 : c2 = c' := e1
              have e2 : L2 = L' := e2
              subst e1 e2
              rcases s3 with ⟨y1, y2, y3⟩ | y
              · have y2 : L2 = L := y2
                refine Or.inl ⟨y1, y2, fun v v3 v4 => ?_⟩
                by_cases e : v = 3 + i
                · subst e
                  rw [← y2]
                  exact fun t ht => e3 t ht
                · exact y3 v v3 (by omega)
              · exact Or.inr y
            · have e2 : xo_c a_openItems L' < xo_c a_openItems L2 := e2
              refine Or.inr ⟨e1, ?_⟩
              show xo_c a_openItems L < xo_c a_openItems L2
              rcases s3 with ⟨_, y2, _⟩ | ⟨_, y⟩
              · have y2 : L' = L := y2
                rw [← y2]; exact e2
              · have y : xo_c a_openItems L < xo_c a_openItems L' := y
                omega
          · rintro f' t ⟨c2, L2⟩ ht ⟨w1, w2, w3⟩ hk2
            have w1 : ∀ t k, t < 4 → bl (L' t) k = true → bl (L2 t) k = true := w1
            have w2 : ∀ t k, t < 4 → bl (L2 t) k = true → cw_0 g (xo_S S) t k := w2
            have skip : (xo_O g L' (3 + i) t → ∀ k, bl (a_openItems (3 + i)) k = true → bl (L2 t) k = true) → wX_closeLooks__wideLooks_41 post (wX_closeLooks__wideLooks_5 post (nI b) f_depth f_made f_textLength f_tokenCount f_wrongPlace f_ruleCount f_prepared f_rulesInUse f_stateCount f_wideCount f_gradeFound f_readHeight f_tokensTaken f_usedCount (d + 1)) (wX_closeLooks__wideLooks_21 post (wX_closeLooks__wideLooks_5 post (nI b) f_depth f_made f_textLength f_tokenCount f_wrongPlace f_ruleCount f_prepared f_rulesInUse f_stateCount f_wideCount f_gradeFound f_readHeight f_tokensTaken f_usedCount (d + 1)) (nI b) (nI q) f_depth f_made f_textLength f_tokenCount f_wrongPlace f_ruleCount f_prepared f_rulesInUse f_stateCount f_wideCount f_gradeFound f_readHeight f_tokensTaken f_usedCount f) (nI b) (nI q) (nI (3 + i)) x f_depth f_made f_textLength f_tokenCount f_wrongPlace f_ruleCount f_prepared f_rulesInUse f_stateCount f_wideCount f_gradeFound f_readHeight f_tokensTaken f_usedCount f' c2 (nI (t + 1)) a_spotCounts a_ends a_arrows a_takers a_groups a_marks a_text a_tokenKinds a_tokenLengths a_lefts a_rights a_rightSizes a_beginSets a_followSets a_nextItems a_openItems a_restItems a_stateItems a_stateSteps a_stateLooks a_wideSteps (ax_set a_wideLooks b 4 L2) a_readStates a_readValues a_usedRules := by
              intro z
              refine hk2 (c2, L2) ⟨w1, w2, ?_⟩
              rcases w3 with ⟨e1, e2, e3⟩ | e
              · have e2 : L2 = L' := e2
                refine Or.inl ⟨e1, e2, fun t' ht' hO' => ?_⟩
                by_cases e : t' = t
                · subst e; rw [← e2]; exact z hO'
                · exact e3 t' (by omega) hO'
              · exact Or.inr e
            have ib : vp_in (nI b + nI t) 324 := pk_in (b + t) 324 (by omega) (nI_add b t)
            refine br_f (nI_ge ht (by decide)) (br_c (fun z => ?_) (fun z => ?_))
            · have z := (hx t).mp ((b_test x (n := t) (by omega)).mp z)
              refine ⟨vp_in_nI (by omega) (by decide), ib, ?_⟩
              rw [pk_cl (b + t) (nI_add b t), cv, ax_in ht]
              have sub : a_openItems (3 + i) &&& (L2 t ^^^ (-1)) = 0 ↔ ∀ k, bl (a_openItems (3 + i)) k = true → bl (L2 t) k = true := by
                rw [bl_zero]
                constructor
                · intro w k hk'
                  rcases Nat.lt_or_ge k 64 with k64 | k64
                  · have := w k k64
                    rw [bl_and, bl_not _ k64, hk'] at this
                    cases e : bl (L2 t) k
                    · rw [e] at this; cases this
                    · rfl
                  · rw [bl_big k64] at hk'; cases hk'
                · intro w k k64
                  rw [bl_and, bl_not _ k64]
                  cases e : bl (a_openItems (3 + i)) k
                  · rfl
                  · rw [w k e]; rfl
              refine br_c (fun y => nm_r (nI_1 t) (skip fun _ => sub.mp y)) (fun y => ⟨ib, vp_in_nI (by omega) (by decide), ib, nm_r (e' := ax_set a_wideLooks b 4 (vp_updL L2 t (L2 t ||| a_openItems (3 + i)))) (ax_uL ht) (nm_r (nI_1 t) (hk2 (1, vp_updL L2 t (L2 t ||| a_openItems (3 + i))) ?_))⟩)
              have e : ∀ t' k, bl (vp_updL L2 t (L2 t ||| a_openItems (3 + i)) t') k = true ↔ bl (L2 t') k = true ∨ (t' = t ∧ bl (a_openItems (3 + i)) k = true) := by
                intro t' k
                by_cases w : t' = t
                · subst w
                  rw [pk_uLs, bl_or, Bool.or_eq_true]
                  exact ⟨fun q => q.imp id (fun q => ⟨rfl, q⟩), fun q => q.imp id (fun q => q.2)⟩
                · rw [pk_uLn w]
                  exact ⟨Or.inl, fun q => by
                    rcases q with q | q
                    · exact q
                    · exact absurd q.1 w⟩
              refine ⟨fun t' k ht' hk' => (e t' k).mpr (Or.inl (w1 t' k ht' hk')), fun t' k ht' hk' => ?_, Or.inr ⟨rfl, ?_⟩⟩
              · rcases (e t' k).mp hk' with q | ⟨rfl, q⟩
                · exact w2 t' k ht' q
                · exact xo_snd hO (fun t k ht hk => w2 t k ht (w1 t k ht hk)) (by omega) z q
              · have gr : xo_c a_openItems L2 < xo_c a_openItems (vp_updL L2 t (L2 t ||| a_openItems (3 + i))) := xo_lt hg (v := 3 + i) (by omega) (by omega) ht (fun w => y (sub.mpr w)) (fun k hk' => (e t k).mpr (Or.inr ⟨rfl, hk'⟩)) (fun t' k _ hk' => (e t' k).mpr (Or.inl hk'))
                have ge : xo_c a_openItems L' ≤ xo_c a_openItems L2 := cn_mono fun x _ w k hk' => w1 _ k (by omega) (w k hk')
                show xo_c a_openItems L' < xo_c a_openItems (vp_updL L2 t (L2 t ||| a_openItems (3 + i)))
                omega
            · have z : ¬ xo_O g L' (3 + i) t := fun y => z ((b_test x (by omega)).mpr ((hx t).mpr y))
              exact nm_r (nI_1 t) (skip fun y => absurd y z)
  exact ⟨18, key 17 0 rfl 1 S (fun _ _ _ z => z) (fun t k ht hk => cw_sub ⟨ht, hk⟩) (Or.inr ⟨by decide, by omega⟩)⟩
theorem xw_looksOpened_stateLooks (hg : rg_ok g) (hI : xi_I g 10 a_nextItems a_openItems a_restItems) {b v : Nat} (hb : b + 4 ≤ 240) (v3 : 3 ≤ v) (v7 : v < 7) {L : Nat → Int64} (hL : xo_io g L) {post : Int32 → Prop} (h : ∀ x, (∀ t, bt x t = true ↔ xo_O g L v t) → post x) : wpX_looksOpened__stateLooks post (f_depth, f_made, f_textLength, f_tokenCount, f_wrongPlace, f_ruleCount, f_prepared, f_rulesInUse, f_stateCount, f_wideCount, f_gradeFound, f_readHeight, f_tokensTaken, f_usedCount, a_spotCounts, a_ends, a_arrows, a_takers, a_groups, a_marks, a_text, a_tokenKinds, a_tokenLengths, a_lefts, a_rights, a_rightSizes, a_beginSets, a_followSets, a_nextItems, a_openItems, a_restItems, a_stateItems, a_stateSteps, (ax_set a_stateLooks b 4 L), a_wideSteps, a_wideLooks, a_readStates, a_readValues, a_usedRules) (nI b) (nI v) := by
  obtain ⟨i1, i2, i3, i4⟩ := hI
  have cv : (nI v).toNatClampNeg = v := nI_clamp (by omega)
  have here : ∀ t, t < 4 → ∀ k, bl (L t &&& a_nextItems v) k = true ↔ bl (L t) k = true ∧ im_nx g k v := by
    intro t ht k
    rw [bl_and, Bool.and_eq_true, i1 v k v7]
    exact ⟨fun z => ⟨z.1, z.2.2⟩, fun z => ⟨z.1, ⟨(hL t k ht z.1).1.1, xu_10 hg (hL t k ht z.1).1.1⟩, z.2⟩⟩
  refine loop_0 (fun f t s => wX_looksOpened__stateLooks_9 post (nI b) (nI v) f_depth f_made f_textLength f_tokenCount f_wrongPlace f_ruleCount f_prepared f_rulesInUse f_stateCount f_wideCount f_gradeFound f_readHeight f_tokensTaken f_usedCount a_spotCounts a_ends a_arrows a_takers a_groups a_marks a_text a_tokenKinds a_tokenLengths a_lefts a_rights a_rightSizes a_beginSets a_followSets a_nextItems a_openItems a_restItems a_stateItems a_stateSteps (ax_set a_stateLooks b 4 L) a_wideSteps a_wideLooks a_readStates a_readValues a_usedRules f s.1 s.2 (nI t)) (fun t s => (∀ j, bt s.1 j = true ↔ j < t ∧ ∃ k, bl (L j) k = true ∧ im_nx g k v ∧ xi_f g k 3) ∧ ∀ k, bl s.2 k = true ↔ ∃ j, j < t ∧ bl (L j) k = true ∧ im_nx g k v) 4 ((0 : Int32), (0 : Int64)) ?_ ?_ ?_
  · refine ⟨fun j => ?_, fun k => ?_⟩
    · show bt 0 j = true ↔ _
      rw [b_0]; exact ⟨(fun z => by cases z), fun z => absurd z.1 (Nat.not_lt_zero _)⟩
    · show bl 0 k = true ↔ _
      rw [bl_0]; exact ⟨(fun z => by cases z), fun ⟨j, hj, _⟩ => absurd hj (Nat.not_lt_zero j)⟩
  · rintro f ⟨x, A⟩ ⟨s1, s2⟩
    have s1 : ∀ j, bt x j = true ↔ j < 4 ∧ ∃ k, bl (L j) k = true ∧ im_nx g k v ∧ xi_f g k 3 := s1
    have s2 : ∀ k, bl A k = true ↔ ∃ j, j < 4 ∧ bl (L j) k = true ∧ im_nx g k v := s2
    refine br_t (nI_le (Nat.le_refl 4) (by decide)) ?_
    refine loop_0 (fun f i y => wX_looksOpened__stateLooks_69 post A f_depth f_made f_textLength f_tokenCount f_wrongPlace f_ruleCount f_prepared f_rulesInUse f_stateCount f_wideCount f_gradeFound f_readHeight f_tokensTaken f_usedCount a_spotCounts a_ends a_arrows a_takers a_groups a_marks a_text a_tokenKinds a_tokenLengths a_lefts a_rights a_rightSizes a_beginSets a_followSets a_nextItems a_openItems a_restItems a_stateItems a_stateSteps (ax_set a_stateLooks b 4 L) a_wideSteps a_wideLooks a_readStates a_readValues a_usedRules f y (nI i)) (fun i y => ∀ j, bt y j = true ↔ bt x j = true ∨ (j < i ∧ ∃ k, bl A k = true ∧ xi_f g k j)) 3 x (fun j => ⟨Or.inl, fun z => by
      rcases z with z | z
      · exact z
      · omega⟩) ?_ ?_
    · intro f y hy
      refine br_t (nI_le (Nat.le_refl 3) (by decide)) (h y fun t => ?_)
      rw [hy t, s1 t]
      constructor
      · rintro (⟨z1, k, z2, z3, z4⟩ | ⟨z1, k, z2, z4⟩)
        · exact ⟨t, k, z1, z2, z3, Or.inr ⟨z4.2, rfl⟩⟩
        · obtain ⟨j, j1, j2, j3⟩ := (s2 k).mp z2
          exact ⟨j, k, j1, j2, j3, Or.inl ⟨z1, z4.2⟩⟩
      · rintro ⟨t0, k, z1, z2, z3, ⟨z4, z5⟩ | ⟨z4, rfl⟩⟩
        · exact Or.inr ⟨z4, k, (s2 k).mpr ⟨t0, z1, z2, z3⟩, z3.1, z5⟩
        · exact Or.inl ⟨z1, k, z2, z3, z3.1, z4⟩
    · intro f i y hi hy hk
      have ci : (nI i).toNatClampNeg = i := nI_clamp (by omega)
      refine br_f (nI_ge hi (by decide)) ⟨vp_in_nI (by omega) (by decide), ?_⟩
      rw [ci]
      have hz : ∀ k, bl (A &&& a_restItems i) k = true ↔ bl A k = true ∧ xi_f g k i := by
        intro k
        rw [bl_and, Bool.and_eq_true, i4 i k (by omega)]
        refine ⟨fun z => ⟨z.1, z.2.2⟩, fun z => ⟨z.1, ?_, z.2⟩⟩
        obtain ⟨j, j1, j2, j3⟩ := (s2 k).mp z.1
        exact ⟨(hL j k j1 j2).1.1, xu_10 hg (hL j k j1 j2).1.1⟩
      refine br_c (fun z => nm_r (nI_1 i) (hk y fun j => ?_)) (fun z => nm_e (nm_r (nI_1 i) (hk _ fun j => ?_)))
      · rw [hy j]
        constructor
        · rintro (w | ⟨w1, w2⟩)
          · exact Or.inl w
          · exact Or.inr ⟨by omega, w2⟩
        · rintro (w | ⟨w1, k, w2⟩)
          · exact Or.inl w
          · by_cases e : j = i
            · subst e; exact absurd ((hz k).mpr w2) (bl_no z k)
            · exact Or.inr ⟨by omega, k, w2⟩
      · obtain ⟨k0, hk0⟩ := bl_ne z
        rw [b_or, Bool.or_eq_true, hy j, b_one _ (by omega), decide_eq_true_eq]
        constructor
        · rintro ((w | ⟨w1, w2⟩) | rfl)
          · exact Or.inl w
          · exact Or.inr ⟨by omega, w2⟩
          · exact Or.inr ⟨by omega, k0, (hz k0).mp hk0⟩
        · rintro (w | ⟨w1, k, w2⟩)
          · exact Or.inl (Or.inl w)
          · by_cases e : j = i
            · exact Or.inr e
            · exact Or.inl (Or.inr ⟨by omega, k, w2⟩)
  · rintro f t ⟨x, A⟩ ht ⟨s1, s2⟩ hk
    have s1 : ∀ j, bt x j = true ↔ j < t ∧ ∃ k, bl (L j) k = true ∧ im_nx g k v ∧ xi_f g k 3 := s1
    have s2 : ∀ k, bl A k = true ↔ ∃ j, j < t ∧ bl (L j) k = true ∧ im_nx g k v := s2
    refine br_f (nI_ge ht (by decide)) ⟨pk_in (b + t) 240 (by omega) (nI_add b t), vp_in_nI (by omega) (by decide), ?_⟩
    rw [pk_cl (b + t) (nI_add b t), cv, ax_in ht]
    have A' : ∀ k, bl (A ||| (L t &&& a_nextItems v)) k = true ↔ ∃ j, j < t + 1 ∧ bl (L j) k = true ∧ im_nx g k v := by
      intro k
      rw [bl_or, Bool.or_eq_true, s2 k, here t ht k]
      constructor
      · rintro (⟨j, z⟩ | z)
        · exact ⟨j, by omega, z.2⟩
        · exact ⟨t, by omega, z⟩
      · rintro ⟨j, z1, z2⟩
        by_cases e : j = t
        · subst e; exact Or.inr z2
        · exact Or.inl ⟨j, by omega, z2⟩
    have hz : ∀ k, bl ((L t &&& a_nextItems v) &&& a_restItems 3) k = true ↔ bl (L t) k = true ∧ im_nx g k v ∧ xi_f g k 3 := by
      intro k
      rw [bl_and, Bool.and_eq_true, here t ht k, i4 3 k (by omega)]
      exact ⟨fun z => ⟨z.1.1, z.1.2, z.2.2⟩, fun z => ⟨⟨z.1, z.2.1⟩, ⟨(hL t k ht z.1).1.1, xu_10 hg (hL t k ht z.1).1.1⟩, z.2.2⟩⟩
    refine nm_e (nm_e (br_c (fun z => nm_r (nI_1 t) (hk (x, _) ⟨fun j => ?_, A'⟩)) (fun z => nm_e (nm_r (nI_1 t) (hk (_, _) ⟨fun j => ?_, A'⟩)))))
    · show bt x j = true ↔ _
      rw [s1 j]
      constructor
      · rintro ⟨w1, w2⟩; exact ⟨by omega, w2⟩
      · rintro ⟨w1, k, w2⟩
        by_cases e : j = t
        · subst e; exact absurd ((hz k).mpr w2) (bl_no z k)
        · exact ⟨by omega, k, w2⟩
    · obtain ⟨k0, hk0⟩ := bl_ne z
      show bt (x ||| (1 : Int32) <<< (nI t &&& 31)) j = true ↔ _
      rw [b_or, Bool.or_eq_true, s1 j, b_one _ (by omega), decide_eq_true_eq]
      constructor
      · rintro (⟨w1, w2⟩ | rfl)
        · exact ⟨by omega, w2⟩
        · exact ⟨by omega, k0, (hz k0).mp hk0⟩
      · rintro ⟨w1, k, w2⟩
        by_cases e : j = t
        · exact Or.inr e
        · exact Or.inl ⟨by omega, k, w2⟩
theorem xw_closeLooks_stateLooks (hg : rg_ok g) (hI : xi_I g 10 a_nextItems a_openItems a_restItems) {b : Nat} (hb : b + 4 ≤ 240) {S : Nat → Int64} (hS : xo_io g S) {post : SX → Prop} (h : post (f_depth, f_made, f_textLength, f_tokenCount, f_wrongPlace, f_ruleCount, f_prepared, f_rulesInUse, f_stateCount, f_wideCount, f_gradeFound, f_readHeight, f_tokensTaken, f_usedCount, a_spotCounts, a_ends, a_arrows, a_takers, a_groups, a_marks, a_text, a_tokenKinds, a_tokenLengths, a_lefts, a_rights, a_rightSizes, a_beginSets, a_followSets, a_nextItems, a_openItems, a_restItems, a_stateItems, a_stateSteps, (ax_set a_stateLooks b 4 (fun t => mk_l (cw_0 g (xo_S S) t))), a_wideSteps, a_wideLooks, a_readStates, a_readValues, a_usedRules)) : wpX_closeLooks__stateLooks post (f_depth, f_made, f_textLength, f_tokenCount, f_wrongPlace, f_ruleCount, f_prepared, f_rulesInUse, f_stateCount, f_wideCount, f_gradeFound, f_readHeight, f_tokensTaken, f_usedCount, a_spotCounts, a_ends, a_arrows, a_takers, a_groups, a_marks, a_text, a_tokenKinds, a_tokenLengths, a_lefts, a_rights, a_rightSizes, a_beginSets, a_followSets, a_nextItems, a_openItems, a_restItems, a_stateItems, a_stateSteps, (ax_set a_stateLooks b 4 S), a_wideSteps, a_wideLooks, a_readStates, a_readValues, a_usedRules) (nI b) := by
  have hO := hI.2.2.1
  have lin : ∀ t k, xo_S S t k → tw_in g t k := fun t k z => hS t k z.1 z.2
  have fin : ∀ L : Nat → Int64, (∀ t k, t < 4 → bl (S t) k = true → bl (L t) k = true) → (∀ t k, t < 4 → bl (L t) k = true → cw_0 g (xo_S S) t k) → (∀ v, 3 ≤ v → v < 7 → xo_s g a_openItems L v) → post (f_depth, f_made, f_textLength, f_tokenCount, f_wrongPlace, f_ruleCount, f_prepared, f_rulesInUse, f_stateCount, f_wideCount, f_gradeFound, f_readHeight, f_tokensTaken, f_usedCount, a_spotCounts, a_ends, a_arrows, a_takers, a_groups, a_marks, a_text, a_tokenKinds, a_tokenLengths, a_lefts, a_rights, a_rightSizes, a_beginSets, a_followSets, a_nextItems, a_openItems, a_restItems, a_stateItems, a_stateSteps, (ax_set a_stateLooks b 4 L), a_wideSteps, a_wideLooks, a_readStates, a_readValues, a_usedRules) := by
    intro L h1 h2 h3
    have e : ax_set a_stateLooks b 4 L = ax_set a_stateLooks b 4 (fun t => mk_l (cw_0 g (xo_S S) t)) := by
      funext j
      unfold ax_set
      split
      · exact xo_end hg hO hS h1 h2 h3 (by omega)
      · rfl
    rw [e]; exact h
  have key : ∀ d q, q + d = 17 → ∀ (c : Int32) (L : Nat → Int64), (∀ t k, t < 4 → bl (S t) k = true → bl (L t) k = true) → (∀ t k, t < 4 → bl (L t) k = true → cw_0 g (xo_S S) t k) → ((c = 0 ∧ ∀ v, 3 ≤ v → v < 7 → xo_s g a_openItems L v) ∨ (¬ c = 0 ∧ q ≤ xo_c a_openItems L)) → wX_closeLooks__stateLooks_5 post (nI b) f_depth f_made f_textLength f_tokenCount f_wrongPlace f_ruleCount f_prepared f_rulesInUse f_stateCount f_wideCount f_gradeFound f_readHeight f_tokensTaken f_usedCount (d + 1) c (nI q) a_spotCounts a_ends a_arrows a_takers a_groups a_marks a_text a_tokenKinds a_tokenLengths a_lefts a_rights a_rightSizes a_beginSets a_followSets a_nextItems a_openItems a_restItems a_stateItems a_stateSteps (ax_set a_stateLooks b 4 L) a_wideSteps a_wideLooks a_readStates a_readValues a_usedRules := by
    intro d
    induction d with
    | zero =>
      intro q hq c L h1 h2 h3
      refine br_t (nI_lt (a := 16) (by omega) (by omega)) ?_
      rcases h3 with ⟨_, h3⟩ | ⟨_, h3⟩
      · exact fin L h1 h2 h3
      · have : xo_c a_openItems L ≤ 16 := cn_le _ 16
        omega
    | succ d ih =>
      intro q hq c L h1 h2 h3
      refine br_f (nI_nlt (a := 16) (by omega) (by decide)) (br_c (fun z => ?_) (fun z => ?_))
      · rcases h3 with ⟨_, h3⟩ | ⟨h3, _⟩
        · exact fin L h1 h2 h3
        · exact absurd z h3
      · have hq' : q ≤ xo_c a_openItems L := by
          rcases h3 with ⟨h3, _⟩ | ⟨_, h3⟩
          · exact absurd h3 z
          · exact h3
        refine loop_0 (fun f i s => wX_closeLooks__stateLooks_21 post (wX_closeLooks__stateLooks_5 post (nI b) f_depth f_made f_textLength f_tokenCount f_wrongPlace f_ruleCount f_prepared f_rulesInUse f_stateCount f_wideCount f_gradeFound f_readHeight f_tokensTaken f_usedCount (d + 1)) (nI b) (nI q) f_depth f_made f_textLength f_tokenCount f_wrongPlace f_ruleCount f_prepared f_rulesInUse f_stateCount f_wideCount f_gradeFound f_readHeight f_tokensTaken f_usedCount f s.1 (nI (3 + i)) a_spotCounts a_ends a_arrows a_takers a_groups a_marks a_text a_tokenKinds a_tokenLengths a_lefts a_rights a_rightSizes a_beginSets a_followSets a_nextItems a_openItems a_restItems a_stateItems a_stateSteps (ax_set a_stateLooks b 4 s.2) a_wideSteps a_wideLooks a_readStates a_readValues a_usedRules) (fun i s => (∀ t k, t < 4 → bl (S t) k = true → bl (s.2 t) k = true) ∧ (∀ t k, t < 4 → bl (s.2 t) k = true → cw_0 g (xo_S S) t k) ∧ ((s.1 = 0 ∧ s.2 = L ∧ ∀ v, 3 ≤ v → v < 3 + i → xo_s g a_openItems L v) ∨ (s.1 = 1 ∧ xo_c a_openItems L < xo_c a_openItems s.2))) 4 ((0 : Int32), L) ⟨h1, h2, Or.inl ⟨rfl, rfl, fun v v3 v4 => by omega⟩⟩ ?_ ?_
        · rintro f ⟨c', L'⟩ ⟨s1, s2, s3⟩
          refine br_t (nI_le (Nat.le_refl 7) (by decide)) (nm_r (nI_1 q) (ih (q + 1) (by omega) c' L' s1 s2 ?_))
          rcases s3 with ⟨e1, e2, e3⟩ | ⟨e1, e2⟩
          · have e1 : c' = 0 := e1
            have e2 : L' = L := e2
            subst e2
            exact Or.inl ⟨e1, fun v v3 v7 => e3 v v3 (by omega)⟩
          · have e1 : c' = 1 := e1
            have e2 : xo_c a_openItems L < xo_c a_openItems L' := e2
            exact Or.inr ⟨by rw [e1]; decide, by omega⟩
        · rintro f i ⟨c', L'⟩ hi ⟨s1, s2, s3⟩ hk
          have s1 : ∀ t k, t < 4 → bl (S t) k = true → bl (L' t) k = true := s1
          have s2 : ∀ t k, t < 4 → bl (L' t) k = true → cw_0 g (xo_S S) t k := s2
          have hL' : xo_io g L' := fun t k ht hk => cw_ok hg lin (s2 t k ht hk)
          have cv : (nI (3 + i)).toNatClampNeg = 3 + i := nI_clamp (by omega)
          refine br_f (nI_ge (a := 3 + i) (b := 7) (by omega) (by decide)) (xw_looksOpened_stateLooks hg hI hb (by omega) (by omega) hL' (fun x hx => ?_))
          refine loop_0 (fun f' t s => wX_closeLooks__stateLooks_41 post (wX_closeLooks__stateLooks_5 post (nI b) f_depth f_made f_textLength f_tokenCount f_wrongPlace f_ruleCount f_prepared f_rulesInUse f_stateCount f_wideCount f_gradeFound f_readHeight f_tokensTaken f_usedCount (d + 1)) (wX_closeLooks__stateLooks_21 post (wX_closeLooks__stateLooks_5 post (nI b) f_depth f_made f_textLength f_tokenCount f_wrongPlace f_ruleCount f_prepared f_rulesInUse f_stateCount f_wideCount f_gradeFound f_readHeight f_tokensTaken f_usedCount (d + 1)) (nI b) (nI q) f_depth f_made f_textLength f_tokenCount f_wrongPlace f_ruleCount f_prepared f_rulesInUse f_stateCount f_wideCount f_gradeFound f_readHeight f_tokensTaken f_usedCount f) (nI b) (nI q) (nI (3 + i)) x f_depth f_made f_textLength f_tokenCount f_wrongPlace f_ruleCount f_prepared f_rulesInUse f_stateCount f_wideCount f_gradeFound f_readHeight f_tokensTaken f_usedCount f' s.1 (nI t) a_spotCounts a_ends a_arrows a_takers a_groups a_marks a_text a_tokenKinds a_tokenLengths a_lefts a_rights a_rightSizes a_beginSets a_followSets a_nextItems a_openItems a_restItems a_stateItems a_stateSteps (ax_set a_stateLooks b 4 s.2) a_wideSteps a_wideLooks a_readStates a_readValues a_usedRules) (fun t s => (∀ t k, t < 4 → bl (L' t) k = true → bl (s.2 t) k = true) ∧ (∀ t k, t < 4 → bl (s.2 t) k = true → cw_0 g (xo_S S) t k) ∧ ((s.1 = c' ∧ s.2 = L' ∧ ∀ t', t' < t → xo_O g L' (3 + i) t' → ∀ k, bl (a_openItems (3 + i)) k = true → bl (L' t') k = true) ∨ (s.1 = 1 ∧ xo_c a_openItems L' < xo_c a_openItems s.2))) 4 (c', L') ⟨fun _ _ _ z => z, s2, Or.inl ⟨rfl, rfl, fun t' z => absurd z (Nat.not_lt_zero _)⟩⟩ ?_ ?_
          · rintro f' ⟨c2, L2⟩ ⟨w1, w2, w3⟩
            refine br_t (nI_le (Nat.le_refl 4) (by decide)) (nm_r (nI_1 (3 + i)) (hk (c2, L2) ⟨fun t k ht hk => w1 t k ht (s1 t k ht hk), w2, ?_⟩))
            rcases w3 with ⟨e1, e2, e3⟩ | ⟨e1, e2⟩
            · have e1 : c2 = c' := e1
              have e2 : L2 = L' := e2
              subst e1 e2
              rcases s3 with ⟨y1, y2, y3⟩ | y
              · have y2 : L2 = L := y2
                refine Or.inl ⟨y1, y2, fun v v3 v4 => ?_⟩
                by_cases e : v = 3 + i
                · subst e
                  rw [← y2]
                  exact fun t ht => e3 t ht
                · exact y3 v v3 (by omega)
              · exact Or.inr y
            · have e2 : xo_c a_openItems L' < xo_c a_openItems L2 := e2
              refine Or.inr ⟨e1, ?_⟩
              show xo_c a_openItems L < xo_c a_openItems L2
              rcases s3 with ⟨_, y2, _⟩ | ⟨_, y⟩
              · have y2 : L' = L := y2
                rw [← y2]; exact e2
              · have y : xo_c a_openItems L < xo_c a_openItems L' := y
                omega
          · rintro f' t ⟨c2, L2⟩ ht ⟨w1, w2, w3⟩ hk2
            have w1 : ∀ t k, t < 4 → bl (L' t) k = true → bl (L2 t) k = true := w1
            have w2 : ∀ t k, t < 4 → bl (L2 t) k = true → cw_0 g (xo_S S) t k := w2
            have skip : (xo_O g L' (3 + i) t → ∀ k, bl (a_openItems (3 + i)) k = true → bl (L2 t) k = true) → wX_closeLooks__stateLooks_41 post (wX_closeLooks__stateLooks_5 post (nI b) f_depth f_made f_textLength f_tokenCount f_wrongPlace f_ruleCount f_prepared f_rulesInUse f_stateCount f_wideCount f_gradeFound f_readHeight f_tokensTaken f_usedCount (d + 1)) (wX_closeLooks__stateLooks_21 post (wX_closeLooks__stateLooks_5 post (nI b) f_depth f_made f_textLength f_tokenCount f_wrongPlace f_ruleCount f_prepared f_rulesInUse f_stateCount f_wideCount f_gradeFound f_readHeight f_tokensTaken f_usedCount (d + 1)) (nI b) (nI q) f_depth f_made f_textLength f_tokenCount f_wrongPlace f_ruleCount f_prepared f_rulesInUse f_stateCount f_wideCount f_gradeFound f_readHeight f_tokensTaken f_usedCount f) (nI b) (nI q) (nI (3 + i)) x f_depth f_made f_textLength f_tokenCount f_wrongPlace f_ruleCount f_prepared f_rulesInUse f_stateCount f_wideCount f_gradeFound f_readHeight f_tokensTaken f_usedCount f' c2 (nI (t + 1)) a_spotCounts a_ends a_arrows a_takers a_groups a_marks a_text a_tokenKinds a_tokenLengths a_lefts a_rights a_rightSizes a_beginSets a_followSets a_nextItems a_openItems a_restItems a_stateItems a_stateSteps (ax_set a_stateLooks b 4 L2) a_wideSteps a_wideLooks a_readStates a_readValues a_usedRules := by
              intro z
              refine hk2 (c2, L2) ⟨w1, w2, ?_⟩
              rcases w3 with ⟨e1, e2, e3⟩ | e
              · have e2 : L2 = L' := e2
                refine Or.inl ⟨e1, e2, fun t' ht' hO' => ?_⟩
                by_cases e : t' = t
                · subst e; rw [← e2]; exact z hO'
                · exact e3 t' (by omega) hO'
              · exact Or.inr e
            have ib : vp_in (nI b + nI t) 240 := pk_in (b + t) 240 (by omega) (nI_add b t)
            refine br_f (nI_ge ht (by decide)) (br_c (fun z => ?_) (fun z => ?_))
            · have z := (hx t).mp ((b_test x (n := t) (by omega)).mp z)
              refine ⟨vp_in_nI (by omega) (by decide), ib, ?_⟩
              rw [pk_cl (b + t) (nI_add b t), cv, ax_in ht]
              have sub : a_openItems (3 + i) &&& (L2 t ^^^ (-1)) = 0 ↔ ∀ k, bl (a_openItems (3 + i)) k = true → bl (L2 t) k = true := by
                rw [bl_zero]
                constructor
                · intro w k hk'
                  rcases Nat.lt_or_ge k 64 with k64 | k64
                  · have := w k k64
                    rw [bl_and, bl_not _ k64, hk'] at this
                    cases e : bl (L2 t) k
                    · rw [e] at this; cases this
                    · rfl
                  · rw [bl_big k64] at hk'; cases hk'
                · intro w k k64
                  rw [bl_and, bl_not _ k64]
                  cases e : bl (a_openItems (3 + i)) k
                  · rfl
                  · rw [w k e]; rfl
              refine br_c (fun y => nm_r (nI_1 t) (skip fun _ => sub.mp y)) (fun y => ⟨ib, vp_in_nI (by omega) (by decide), ib, nm_r (e' := ax_set a_stateLooks b 4 (vp_updL L2 t (L2 t ||| a_openItems (3 + i)))) (ax_uL ht) (nm_r (nI_1 t) (hk2 (1, vp_updL L2 t (L2 t ||| a_openItems (3 + i))) ?_))⟩)
              have e : ∀ t' k, bl (vp_updL L2 t (L2 t ||| a_openItems (3 + i)) t') k = true ↔ bl (L2 t') k = true ∨ (t' = t ∧ bl (a_openItems (3 + i)) k = true) := by
                intro t' k
                by_cases w : t' = t
                · subst w
                  rw [pk_uLs, bl_or, Bool.or_eq_true]
                  exact ⟨fun q => q.imp id (fun q => ⟨rfl, q⟩), fun q => q.imp id (fun q => q.2)⟩
                · rw [pk_uLn w]
                  exact ⟨Or.inl, fun q => by
                    rcases q with q | q
                    · exact q
                    · exact absurd q.1 w⟩
              refine ⟨fun t' k ht' hk' => (e t' k).mpr (Or.inl (w1 t' k ht' hk')), fun t' k ht' hk' => ?_, Or.inr ⟨rfl, ?_⟩⟩
              · rcases (e t' k).mp hk' with q | ⟨rfl, q⟩
                · exact w2 t' k ht' q
                · exact xo_snd hO (fun t k ht hk => w2 t k ht (w1 t k ht hk)) (by omega) z q
              · have gr : xo_c a_openItems L2 < xo_c a_openItems (vp_updL L2 t (L2 t ||| a_openItems (3 + i))) := xo_lt hg (v := 3 + i) (by omega) (by omega) ht (fun w => y (sub.mpr w)) (fun k hk' => (e t k).mpr (Or.inr ⟨rfl, hk'⟩)) (fun t' k _ hk' => (e t' k).mpr (Or.inl hk'))
                have ge : xo_c a_openItems L' ≤ xo_c a_openItems L2 := cn_mono fun x _ w k hk' => w1 _ k (by omega) (w k hk')
                show xo_c a_openItems L' < xo_c a_openItems (vp_updL L2 t (L2 t ||| a_openItems (3 + i)))
                omega
            · have z : ¬ xo_O g L' (3 + i) t := fun y => z ((b_test x (by omega)).mpr ((hx t).mpr y))
              exact nm_r (nI_1 t) (skip fun y => absurd y z)
  exact ⟨18, key 17 0 rfl 1 S (fun _ _ _ z => z) (fun t k ht hk => cw_sub ⟨ht, hk⟩) (Or.inr ⟨by decide, by omega⟩)⟩
end
end
section
/-! the component's wide states -/
variable {f_depth f_made f_textLength f_tokenCount f_wrongPlace f_ruleCount f_prepared f_rulesInUse f_stateCount f_wideCount f_gradeFound f_readHeight f_tokensTaken f_usedCount : Int32} {a_spotCounts a_ends a_arrows a_takers a_groups a_marks a_text a_tokenKinds a_tokenLengths a_lefts a_rights a_rightSizes a_beginSets a_followSets a_stateSteps a_wideSteps a_readStates a_readValues a_usedRules : Nat → Int32} {a_nextItems a_openItems a_restItems a_stateItems a_stateLooks a_wideLooks : Nat → Int64}
theorem ax_self {α : Type} (a : Nat → α) (b n : Nat) : ax_set a b n (fun t => a (b + t)) = a := by
  funext j
  unfold ax_set
  by_cases h : b ≤ j ∧ j < b + n
  · rw [if_pos h]
    show a (b + (j - b)) = a j
    rw [show b + (j - b) = j by omega]
  · rw [if_neg h]
theorem ax_ax {α : Type} (a : Nat → α) (b n : Nat) (u v : Nat → α) : ax_set (ax_set a b n u) b n v = ax_set a b n v := by
  funext j
  unfold ax_set
  split
  · rfl
  · rfl
section
variable {g : rg_T}
noncomputable def wb_B (g : rg_T) (k : Nat) : (Nat → w4_T) × Nat := bf_at (tw_a0 g) (tw_to g) k
theorem wb_io (hg : rg_ok g) (k s : Nat) (hs : s < (wb_B g k).2) : tw_io g ((wb_B g k).1 s) := bf_gen (tw_io g) (tw_io0 hg) (fun _ _ _ _ h1 h2 => tw_io1 hg h1 h2) k s hs
/-- the array's wide state w -/
def xz_w (arr : Nat → Int64) (w : Nat) : w4_T := w4_mk fun t => arr (w * 4 + t)
def xz_k (g : rg_T) (k n : Nat) (arr : Nat → Int64) (steps : Nat → Int32) : Prop := (wb_B g k).2 = n ∧ (∀ i, i < n → xz_w arr i = (wb_B g k).1 i) ∧ ∀ j, j < k → j / 7 < n → xt_1 (tw_to g) (wb_B g k).1 n (steps j) (j / 7) (j % 7)
def xz_ok (g : rg_T) (cnt : Int32) (arr : Nat → Int64) (steps : Nat → Int32) : Prop := (cnt = -5 ∧ ∃ k, 80 < (wb_B g k).2) ∨ ∃ k n, xz_k g k n arr steps ∧ n ≤ 80 ∧ n * 7 ≤ k ∧ cnt = nI n
def xz_M (arr an : Nat → Int64) (w x t : Nat) : Int64 := (arr (w * 4 + t) &&& an x) <<< ((1 : Int32).toInt64 &&& 63)
theorem xw_moveWide {n w x : Nat} (hn : n ≤ 80) (hw : w < n) (hx : x < 7) {post : Int32 → SX → Prop}
    (h0 : (∀ t, t < 4 → xz_M a_wideLooks a_nextItems w x t = 0) → post 0 (f_depth, f_made, f_textLength, f_tokenCount, f_wrongPlace, f_ruleCount, f_prepared, f_rulesInUse, f_stateCount, (nI n), f_gradeFound, f_readHeight, f_tokensTaken, f_usedCount, a_spotCounts, a_ends, a_arrows, a_takers, a_groups, a_marks, a_text, a_tokenKinds, a_tokenLengths, a_lefts, a_rights, a_rightSizes, a_beginSets, a_followSets, a_nextItems, a_openItems, a_restItems, a_stateItems, a_stateSteps, a_stateLooks, a_wideSteps, (ax_set a_wideLooks (n * 4) 4 (xz_M a_wideLooks a_nextItems w x)), a_readStates, a_readValues, a_usedRules))
    (h1 : (∃ t k, t < 4 ∧ bl (xz_M a_wideLooks a_nextItems w x t) k = true) → post 1 (f_depth, f_made, f_textLength, f_tokenCount, f_wrongPlace, f_ruleCount, f_prepared, f_rulesInUse, f_stateCount, (nI n), f_gradeFound, f_readHeight, f_tokensTaken, f_usedCount, a_spotCounts, a_ends, a_arrows, a_takers, a_groups, a_marks, a_text, a_tokenKinds, a_tokenLengths, a_lefts, a_rights, a_rightSizes, a_beginSets, a_followSets, a_nextItems, a_openItems, a_restItems, a_stateItems, a_stateSteps, a_stateLooks, a_wideSteps, (ax_set a_wideLooks (n * 4) 4 (xz_M a_wideLooks a_nextItems w x)), a_readStates, a_readValues, a_usedRules)) :
    wpX_moveWide post (f_depth, f_made, f_textLength, f_tokenCount, f_wrongPlace, f_ruleCount, f_prepared, f_rulesInUse, f_stateCount, (nI n), f_gradeFound, f_readHeight, f_tokensTaken, f_usedCount, a_spotCounts, a_ends, a_arrows, a_takers, a_groups, a_marks, a_text, a_tokenKinds, a_tokenLengths, a_lefts, a_rights, a_rightSizes, a_beginSets, a_followSets, a_nextItems, a_openItems, a_restItems, a_stateItems, a_stateSteps, a_stateLooks, a_wideSteps, a_wideLooks, a_readStates, a_readValues, a_usedRules) (nI w) (nI x) := by
  have cx : (nI x).toNatClampNeg = x := nI_clamp (by omega)
  refine loop_0 (fun f t s => wX_moveWide_5 post (nI w) (nI x) f_depth f_made f_textLength f_tokenCount f_wrongPlace f_ruleCount f_prepared f_rulesInUse f_stateCount (nI n) f_gradeFound f_readHeight f_tokensTaken f_usedCount f s.1 (nI t) a_spotCounts a_ends a_arrows a_takers a_groups a_marks a_text a_tokenKinds a_tokenLengths a_lefts a_rights a_rightSizes a_beginSets a_followSets a_nextItems a_openItems a_restItems a_stateItems a_stateSteps a_stateLooks a_wideSteps s.2 a_readStates a_readValues a_usedRules) (fun t s => (∀ k, bl s.1 k = true ↔ ∃ t', t' < t ∧ bl (xz_M a_wideLooks a_nextItems w x t') k = true) ∧ s.2 = ax_set a_wideLooks (n * 4) t (xz_M a_wideLooks a_nextItems w x)) 4 ((0 : Int64), a_wideLooks) ⟨fun k => ?_, (ax_0 _ _ _).symm⟩ ?_ ?_
  · show bl 0 k = true ↔ _
    rw [bl_0]; exact ⟨(fun z => by cases z), fun ⟨t', z, _⟩ => absurd z (Nat.not_lt_zero _)⟩
  · rintro f ⟨A, s⟩ ⟨s1, s2⟩
    have s1 : ∀ k, bl A k = true ↔ ∃ t', t' < 4 ∧ bl (xz_M a_wideLooks a_nextItems w x t') k = true := s1
    have s2 : s = ax_set a_wideLooks (n * 4) 4 (xz_M a_wideLooks a_nextItems w x) := s2
    subst s2
    refine br_t (nI_le (Nat.le_refl 4) (by decide)) (br_c (fun z => h0 fun t ht => ?_) (fun z => h1 ?_))
    · rw [bl_zero]
      intro k _
      cases e : bl (xz_M a_wideLooks a_nextItems w x t) k
      · rfl
      · exact absurd ((s1 k).mpr ⟨t, ht, e⟩) (bl_no z k)
    · obtain ⟨k, hk⟩ := bl_ne z
      obtain ⟨t, t1, t2⟩ := (s1 k).mp hk
      exact ⟨t, k, t1, t2⟩
  · rintro f t ⟨A, s⟩ ht ⟨s1, s2⟩ hk
    have s1 : ∀ k, bl A k = true ↔ ∃ t', t' < t ∧ bl (xz_M a_wideLooks a_nextItems w x t') k = true := s1
    have s2 : s = ax_set a_wideLooks (n * 4) t (xz_M a_wideLooks a_nextItems w x) := s2
    subst s2
    refine br_f (nI_ge ht (by decide)) ⟨pk_in (w * 4 + t) 324 (by omega) (ix_4 w t), vp_in_nI (by omega) (by decide), nm_r (e' := xz_M a_wideLooks a_nextItems w x t) ?_ ⟨pk_in (n * 4 + t) 324 (by omega) (ix_4 n t), nm_r (e' := ax_set a_wideLooks (n * 4) (t + 1) (xz_M a_wideLooks a_nextItems w x)) ?_ (nm_e (nm_r (nI_1 t) (hk (_, _) ⟨fun k => ?_, rfl⟩)))⟩⟩
    · show (ax_set a_wideLooks (n * 4) t (xz_M a_wideLooks a_nextItems w x) (nI w * 4 + nI t).toNatClampNeg &&& a_nextItems (nI x).toNatClampNeg) <<< ((1 : Int32).toInt64 &&& 63) = _
      rw [pk_cl (w * 4 + t) (ix_4 w t), cx, ax_out (by omega)]; rfl
    · rw [pk_cl (n * 4 + t) (ix_4 n t)]; exact ax_sL _ _ _ _
    · show bl (A ||| xz_M a_wideLooks a_nextItems w x t) k = true ↔ _
      rw [bl_or, Bool.or_eq_true, s1 k]
      constructor
      · rintro (⟨t', z⟩ | z)
        · exact ⟨t', by omega, z.2⟩
        · exact ⟨t, by omega, z⟩
      · rintro ⟨t', z1, z2⟩
        by_cases e : t' = t
        · subst e; exact Or.inr z2
        · exact Or.inl ⟨t', by omega, z2⟩
theorem xw_wideStateMade {n : Nat} (hn : n ≤ 80) {post : Int32 → SX → Prop}
    (h1 : ∀ w, w < n → xz_w a_wideLooks w = xz_w a_wideLooks n → post (nI w) (f_depth, f_made, f_textLength, f_tokenCount, f_wrongPlace, f_ruleCount, f_prepared, f_rulesInUse, f_stateCount, (nI n), f_gradeFound, f_readHeight, f_tokensTaken, f_usedCount, a_spotCounts, a_ends, a_arrows, a_takers, a_groups, a_marks, a_text, a_tokenKinds, a_tokenLengths, a_lefts, a_rights, a_rightSizes, a_beginSets, a_followSets, a_nextItems, a_openItems, a_restItems, a_stateItems, a_stateSteps, a_stateLooks, a_wideSteps, a_wideLooks, a_readStates, a_readValues, a_usedRules))
    (h2 : (∀ w, w < n → xz_w a_wideLooks w ≠ xz_w a_wideLooks n) → n < 80 → post (nI n) (f_depth, f_made, f_textLength, f_tokenCount, f_wrongPlace, f_ruleCount, f_prepared, f_rulesInUse, f_stateCount, (nI (n + 1)), f_gradeFound, f_readHeight, f_tokensTaken, f_usedCount, a_spotCounts, a_ends, a_arrows, a_takers, a_groups, a_marks, a_text, a_tokenKinds, a_tokenLengths, a_lefts, a_rights, a_rightSizes, a_beginSets, a_followSets, a_nextItems, a_openItems, a_restItems, a_stateItems, a_stateSteps, a_stateLooks, a_wideSteps, a_wideLooks, a_readStates, a_readValues, a_usedRules))
    (h3 : (∀ w, w < n → xz_w a_wideLooks w ≠ xz_w a_wideLooks n) → n = 80 → post 80 (f_depth, f_made, f_textLength, f_tokenCount, f_wrongPlace, f_ruleCount, f_prepared, f_rulesInUse, f_stateCount, (nI n), f_gradeFound, f_readHeight, f_tokensTaken, f_usedCount, a_spotCounts, a_ends, a_arrows, a_takers, a_groups, a_marks, a_text, a_tokenKinds, a_tokenLengths, a_lefts, a_rights, a_rightSizes, a_beginSets, a_followSets, a_nextItems, a_openItems, a_restItems, a_stateItems, a_stateSteps, a_stateLooks, a_wideSteps, a_wideLooks, a_readStates, a_readValues, a_usedRules)) : wpX_wideStateMade post (f_depth, f_made, f_textLength, f_tokenCount, f_wrongPlace, f_ruleCount, f_prepared, f_rulesInUse, f_stateCount, (nI n), f_gradeFound, f_readHeight, f_tokensTaken, f_usedCount, a_spotCounts, a_ends, a_arrows, a_takers, a_groups, a_marks, a_text, a_tokenKinds, a_tokenLengths, a_lefts, a_rights, a_rightSizes, a_beginSets, a_followSets, a_nextItems, a_openItems, a_restItems, a_stateItems, a_stateSteps, a_stateLooks, a_wideSteps, a_wideLooks, a_readStates, a_readValues, a_usedRules) := by
  refine loop_0 (fun f i (_ : Unit) => wX_wideStateMade_2 post f_depth f_made f_textLength f_tokenCount f_wrongPlace f_ruleCount f_prepared f_rulesInUse f_stateCount (nI n) f_gradeFound f_readHeight f_tokensTaken f_usedCount a_spotCounts a_ends a_arrows a_takers a_groups a_marks a_text a_tokenKinds a_tokenLengths a_lefts a_rights a_rightSizes a_beginSets a_followSets a_nextItems a_openItems a_restItems a_stateItems a_stateSteps a_stateLooks a_wideSteps a_wideLooks a_readStates a_readValues a_usedRules f (nI i)) (fun i _ => ∀ w, w < i → xz_w a_wideLooks w ≠ xz_w a_wideLooks n) n () (fun s hs => absurd hs (Nat.not_lt_zero s)) ?_ ?_
  · intro f _ hs
    refine br_t (nI_le (Nat.le_refl _) (by omega)) (pk_lt n 80 (fun z => nm_r (nI_1 n) ?_) (fun z => h3 hs (by omega)))
    rw [show nI (n + 1) - 1 = nI n from nI_pred n]
    exact h2 hs z
  · intro f i _ hi hs hk
    refine br_f (nI_ge hi (by omega)) ?_
    refine loop_0 (fun f' t (_ : Unit) => wX_wideStateMade_12 post (wX_wideStateMade_2 post f_depth f_made f_textLength f_tokenCount f_wrongPlace f_ruleCount f_prepared f_rulesInUse f_stateCount (nI n) f_gradeFound f_readHeight f_tokensTaken f_usedCount a_spotCounts a_ends a_arrows a_takers a_groups a_marks a_text a_tokenKinds a_tokenLengths a_lefts a_rights a_rightSizes a_beginSets a_followSets a_nextItems a_openItems a_restItems a_stateItems a_stateSteps a_stateLooks a_wideSteps a_wideLooks a_readStates a_readValues a_usedRules f) (nI i) f_depth f_made f_textLength f_tokenCount f_wrongPlace f_ruleCount f_prepared f_rulesInUse f_stateCount (nI n) f_gradeFound f_readHeight f_tokensTaken f_usedCount a_spotCounts a_ends a_arrows a_takers a_groups a_marks a_text a_tokenKinds a_tokenLengths a_lefts a_rights a_rightSizes a_beginSets a_followSets a_nextItems a_openItems a_restItems a_stateItems a_stateSteps a_stateLooks a_wideSteps a_wideLooks a_readStates a_readValues a_usedRules f' (nI t)) (fun t _ => ∀ t', t' < t → a_wideLooks (i * 4 + t') = a_wideLooks (n * 4 + t')) 4 () (fun s hs => absurd hs (Nat.not_lt_zero s)) ?_ ?_
    · intro f' _ ht
      refine br_t (nI_le (Nat.le_refl 4) (by decide)) (br_t rfl (h1 i hi (w4_ext fun t h4 => ?_)))
      unfold xz_w
      rw [w4_tm h4, w4_tm h4]
      exact ht t h4
    · intro f' t _ ht hs2 hk2
      refine br_f (nI_ge ht (by decide)) ⟨pk_in (i * 4 + t) 324 (by omega) (ix_4 i t), pk_in (n * 4 + t) 324 (by omega) (ix_4 n t), ?_⟩
      rw [pk_cl (i * 4 + t) (ix_4 i t), pk_cl (n * 4 + t) (ix_4 n t)]
      refine br_c (fun z => nm_r (nI_1 t) (hk2 () fun t' h' => ?_)) (fun z => br_f (fun w => ?_) (nm_r (nI_1 i) (hk () fun w hw e => ?_)))
      · by_cases e : t' = t
        · subst e; exact z
        · exact hs2 t' (by omega)
      · have := (nI_eq (a := t) (b := 4) (by omega) (by decide)).mp w; omega
      · by_cases q : w = i
        · subst q
          have e1 : w4_t (xz_w a_wideLooks w) t = w4_t (xz_w a_wideLooks n) t := by rw [e]
          unfold xz_w at e1
          rw [w4_tm ht, w4_tm ht] at e1
          exact z e1
        · exact hs w (by omega) e
theorem xz_keep {k n : Nat} {arr arr' : Nat → Int64} {steps : Nat → Int32} (h : xz_k g k n arr steps) (e : wb_B g (k + 1) = wb_B g k) (ha : ∀ i, i < n → xz_w arr' i = xz_w arr i) {x : Int32} (hx : k / 7 < n → xt_1 (tw_to g) (wb_B g k).1 n x (k / 7) (k % 7)) : xz_k g (k + 1) n arr' (upd steps k x) := by
  obtain ⟨a, b, c⟩ := h
  unfold xz_k
  rw [e]
  refine ⟨a, fun i hi => by rw [ha i hi]; exact b i hi, fun j hj hl => ?_⟩
  by_cases z : j = k
  · subst z; rw [pk_us]; exact hx hl
  · rw [pk_un z]; exact c j (by omega) hl
theorem xz_out {arr L : Nat → Int64} {n i : Nat} (hi : i < n) : xz_w (ax_set arr (n * 4) 4 L) i = xz_w arr i := by
  refine w4_ext fun t ht => ?_
  unfold xz_w
  rw [w4_tm ht, w4_tm ht, ax_out (by omega)]
theorem xz_in {arr L : Nat → Int64} {n : Nat} : xz_w (ax_set arr (n * 4) 4 L) n = w4_mk L := by
  refine w4_ext fun t ht => ?_
  unfold xz_w
  rw [w4_tm ht, w4_tm ht, ax_in ht]
theorem xw_findWideStates (hg : rg_ok g) (hI : xi_I g 10 a_nextItems a_openItems a_restItems) {post : SX → Prop} (h : ∀ cnt arr steps, xz_ok g cnt arr steps → post (f_depth, f_made, f_textLength, f_tokenCount, f_wrongPlace, f_ruleCount, f_prepared, f_rulesInUse, f_stateCount, cnt, f_gradeFound, f_readHeight, f_tokensTaken, f_usedCount, a_spotCounts, a_ends, a_arrows, a_takers, a_groups, a_marks, a_text, a_tokenKinds, a_tokenLengths, a_lefts, a_rights, a_rightSizes, a_beginSets, a_followSets, a_nextItems, a_openItems, a_restItems, a_stateItems, a_stateSteps, a_stateLooks, steps, arr, a_readStates, a_readValues, a_usedRules)) : wpX_findWideStates post (f_depth, f_made, f_textLength, f_tokenCount, f_wrongPlace, f_ruleCount, f_prepared, f_rulesInUse, f_stateCount, f_wideCount, f_gradeFound, f_readHeight, f_tokensTaken, f_usedCount, a_spotCounts, a_ends, a_arrows, a_takers, a_groups, a_marks, a_text, a_tokenKinds, a_tokenLengths, a_lefts, a_rights, a_rightSizes, a_beginSets, a_followSets, a_nextItems, a_openItems, a_restItems, a_stateItems, a_stateSteps, a_stateLooks, a_wideSteps, a_wideLooks, a_readStates, a_readValues, a_usedRules) := by
  have key : ∀ d s, s + d = 80 → ∀ n arr steps, s ≤ n → n ≤ 80 → xz_k g (s * 7) n arr steps → wX_findWideStates_47 post (d + 1) (nI s) f_depth f_made f_textLength f_tokenCount f_wrongPlace f_ruleCount f_prepared f_rulesInUse f_stateCount (nI n) f_gradeFound f_readHeight f_tokensTaken f_usedCount a_spotCounts a_ends a_arrows a_takers a_groups a_marks a_text a_tokenKinds a_tokenLengths a_lefts a_rights a_rightSizes a_beginSets a_followSets a_nextItems a_openItems a_restItems a_stateItems a_stateSteps a_stateLooks steps arr a_readStates a_readValues a_usedRules := by
    intro d
    induction d with
    | zero =>
      intro s hs n arr steps h1 h2 h3
      exact br_t (nI_le (by omega) (by omega)) (h _ _ _ (Or.inr ⟨s * 7, n, h3, h2, by omega, rfl⟩))
    | succ d ih =>
      intro s hs n arr steps h1 h2 h3
      refine pk_le n s (fun z => h _ _ _ (Or.inr ⟨s * 7, n, h3, h2, by omega, rfl⟩)) (fun z => br_f (nI_ge (b := 80) (by omega) (by decide)) ?_)
      refine loop_0 (fun f x σ => wX_findWideStates_63 post (wX_findWideStates_47 post (d + 1)) (nI s) f (nI x) f_depth f_made f_textLength f_tokenCount f_wrongPlace f_ruleCount f_prepared f_rulesInUse f_stateCount (nI σ.1) f_gradeFound f_readHeight f_tokensTaken f_usedCount a_spotCounts a_ends a_arrows a_takers a_groups a_marks a_text a_tokenKinds a_tokenLengths a_lefts a_rights a_rightSizes a_beginSets a_followSets a_nextItems a_openItems a_restItems a_stateItems a_stateSteps a_stateLooks σ.2.2 σ.2.1 a_readStates a_readValues a_usedRules) (fun x σ => s < σ.1 ∧ σ.1 ≤ 80 ∧ xz_k g (s * 7 + x) σ.1 σ.2.1 σ.2.2) 7 (n, arr, steps) ⟨z, h2, h3⟩ ?_ ?_
      · rintro f ⟨n, arr, steps⟩ ⟨a1, a2, a3⟩
        refine br_t (nI_le (Nat.le_refl 7) (by decide)) (nm_r (nI_1 s) (ih (s + 1) (by omega) n arr steps a1 a2 ?_))
        rw [Nat.succ_mul]; exact a3
      · rintro f x ⟨n, arr, steps⟩ hx ⟨a1, a2, a3⟩ hk
        have a1 : s < n := a1
        have a2 : n ≤ 80 := a2
        have a3 : xz_k g (s * 7 + x) n arr steps := a3
        have q1 : (s * 7 + x) / 7 = s := by omega
        have q2 : (s * 7 + x) % 7 = x := by omega
        have hn := a3.1
        have his := a3.2.1 s a1
        have hio : tw_io g ((wb_B g (s * 7 + x)).1 s) := wb_io hg _ s (by omega)
        have eB : wb_B g (s * 7 + x + 1) = bf_st (tw_to g) (s * 7 + x) (wb_B g (s * 7 + x)) := rfl
        have hat : ∀ t, t < 4 → arr (s * 4 + t) = w4_t ((wb_B g (s * 7 + x)).1 s) t := by
          intro t ht
          rw [← his]
          unfold xz_w
          rw [w4_tm ht]
        have mv : ∀ t k, t < 4 → (bl (xz_M arr a_nextItems s x t) k = true ↔ tw_mv g ((wb_B g (s * 7 + x)).1 s) x t k) := by
          intro t k ht
          have ioS : tb_io g (arr (s * 4 + t)) := fun i hi => (hio t i ht (by rw [← hat t ht]; exact hi)).1
          unfold xz_M
          rw [xm_mv hI hg ioS hx k, hat t ht]
          exact ⟨fun z => ⟨ht, z⟩, fun z => z.2⟩
        have st : ∀ (n' : Nat) (arr' : Nat → Int64) (e : Int32), s < n' → n' ≤ 80 → xz_k g (s * 7 + x + 1) n' arr' (upd steps (s * 7 + x) e) → wX_findWideStates_112 post (wX_findWideStates_47 post (d + 1)) (wX_findWideStates_63 post (wX_findWideStates_47 post (d + 1)) (nI s) f) (nI s) (nI x) e f_depth f_made f_textLength f_tokenCount f_wrongPlace f_ruleCount f_prepared f_rulesInUse f_stateCount (nI n') f_gradeFound f_readHeight f_tokensTaken f_usedCount a_spotCounts a_ends a_arrows a_takers a_groups a_marks a_text a_tokenKinds a_tokenLengths a_lefts a_rights a_rightSizes a_beginSets a_followSets a_nextItems a_openItems a_restItems a_stateItems a_stateSteps a_stateLooks steps arr' a_readStates a_readValues a_usedRules := by
          intro n' arr' e b1 b2 b3
          exact ⟨pk_in (s * 7 + x) 560 (by omega) (ix_7 s x), nm_r (by rw [pk_cl (s * 7 + x) (ix_7 s x)]) (nm_r (nI_1 x) (hk (n', arr', upd steps (s * 7 + x) e) ⟨b1, b2, b3⟩))⟩
        refine br_f (nI_ge hx (by decide)) (xw_moveWide (a_wideLooks := arr) a2 a1 hx (fun y => ?_) (fun y => ?_))
        · have no : tw_to g ((wb_B g (s * 7 + x)).1 s) x = none := if_neg fun ⟨t, k, hk⟩ => bl_no (y t hk.1) k ((mv t k hk.1).mpr hk)
          refine br_t rfl (st n _ (-1) a1 a2 (xz_keep a3 (eB.trans (bf_none (by rw [q1, q2]; exact no))) (fun i hi => xz_out hi) fun _ => ?_))
          rw [q1, q2]
          exact Or.inl ⟨no, rfl⟩
        · obtain ⟨t0, k0, y1, y2⟩ := y
          have ioM : xo_io g (xz_M arr a_nextItems s x) := fun t k ht hk => tw_mv_ok hg hio ((mv t k ht).mp hk)
          have eM : xo_S (xz_M arr a_nextItems s x) = tw_mv g ((wb_B g (s * 7 + x)).1 s) x := by
            funext t k
            refine propext ⟨fun z => (mv t k z.1).mp z.2, fun z => ⟨z.1, (mv t k z.1).mpr z⟩⟩
          have sm : tw_to g ((wb_B g (s * 7 + x)).1 s) x = some (w4_mk fun t => mk_l (cw_0 g (tw_mv g ((wb_B g (s * 7 + x)).1 s) x) t)) := tw_ex ((mv t0 k0 y1).mp y2)
          refine br_f (by decide) ?_
          rw [show nI n * 4 = nI (n * 4) from pk_mul n 4]
          refine xw_closeLooks_wideLooks hg hI (by omega) ioM ?_
          rw [eM]
          have eC : xz_w (ax_set arr (n * 4) 4 (fun t => mk_l (cw_0 g (tw_mv g ((wb_B g (s * 7 + x)).1 s) x) t))) n = w4_mk fun t => mk_l (cw_0 g (tw_mv g ((wb_B g (s * 7 + x)).1 s) x) t) := xz_in
          refine xw_wideStateMade (a_wideLooks := ax_set arr (n * 4) 4 (fun t => mk_l (cw_0 g (tw_mv g ((wb_B g (s * 7 + x)).1 s) x) t))) a2 (fun s' hs' e' => ?_) (fun hno hlt => ?_) (fun hno h80 => ?_)
          · rw [eC, xz_out hs', a3.2.1 s' hs'] at e'
            refine br_f (fun w => ?_) (st n _ (nI s') a1 a2 (xz_keep a3 (eB.trans (bf_old (by rw [q1, q2]; exact sm) ⟨s', by omega, e'⟩)) (fun i hi => xz_out hi) fun _ => ?_))
            · have := (nI_eq (a := s') (b := 80) (by omega) (by decide)).mp w; omega
            · rw [q1, q2]
              refine Or.inr ⟨s', hs', ?_, rfl⟩
              rw [e']; exact sm
          · have new : ¬ ∃ s', s' < (wb_B g (s * 7 + x)).2 ∧ (wb_B g (s * 7 + x)).1 s' = w4_mk fun t => mk_l (cw_0 g (tw_mv g ((wb_B g (s * 7 + x)).1 s) x) t) := by
              rintro ⟨s', z1, z2⟩
              exact hno s' (by omega) (by rw [eC, xz_out (by omega), a3.2.1 s' (by omega)]; exact z2)
            have eN := eB.trans (bf_new (by rw [q1]; omega) (by rw [q1, q2]; exact sm) new)
            refine br_f (fun w => ?_) (st (n + 1) _ (nI n) (by omega) (by omega) ?_)
            · have := (nI_eq (a := n) (b := 80) (by omega) (by decide)).mp w; omega
            · unfold xz_k
              rw [eN, hn]
              refine ⟨rfl, fun i hi => ?_, fun j hj hl => ?_⟩
              · show _ = if i = n then _ else _
                by_cases w : i = n
                · subst w; rw [if_pos rfl]; exact eC
                · rw [if_neg w, xz_out (by omega)]; exact a3.2.1 i (by omega)
              · by_cases w : j = s * 7 + x
                · subst w
                  rw [pk_us, q1, q2]
                  refine Or.inr ⟨n, by omega, ?_, rfl⟩
                  show tw_to g (if s = n then _ else (wb_B g (s * 7 + x)).1 s) x = some (if n = n then _ else _)
                  rw [if_neg (by omega), if_pos rfl]
                  exact sm
                · rw [pk_un w]
                  have hj7 : j / 7 < n := by omega
                  have := a3.2.2 j (by omega) hj7
                  have ej : (if j / 7 = n then (w4_mk fun t => mk_l (cw_0 g (tw_mv g ((wb_B g (s * 7 + x)).1 s) x) t)) else (wb_B g (s * 7 + x)).1 (j / 7)) = (wb_B g (s * 7 + x)).1 (j / 7) := if_neg (by omega)
                  rcases this with ⟨w1, w2⟩ | ⟨s', w1, w2, w3⟩
                  · refine Or.inl ⟨?_, w2⟩
                    show tw_to g (if j / 7 = n then _ else (wb_B g (s * 7 + x)).1 (j / 7)) (j % 7) = none
                    rw [ej]; exact w1
                  · refine Or.inr ⟨s', by omega, ?_, w3⟩
                    show tw_to g (if j / 7 = n then _ else (wb_B g (s * 7 + x)).1 (j / 7)) (j % 7) = some (if s' = n then _ else (wb_B g (s * 7 + x)).1 s')
                    rw [ej, if_neg (by omega)]; exact w2
          · have new : ¬ ∃ s', s' < (wb_B g (s * 7 + x)).2 ∧ (wb_B g (s * 7 + x)).1 s' = w4_mk fun t => mk_l (cw_0 g (tw_mv g ((wb_B g (s * 7 + x)).1 s) x) t) := by
              rintro ⟨s', z1, z2⟩
              exact hno s' (by omega) (by rw [eC, xz_out (by omega), a3.2.1 s' (by omega)]; exact z2)
            have eN := eB.trans (bf_new (by rw [q1]; omega) (by rw [q1, q2]; exact sm) new)
            refine br_t rfl (h _ _ _ (Or.inl ⟨rfl, s * 7 + x + 1, ?_⟩))
            rw [eN]
            show 80 < (wb_B g (s * 7 + x)).2 + 1
            omega
  refine loop_0 (fun f t s => wX_findWideStates_2 post f_depth f_made f_textLength f_tokenCount f_wrongPlace f_ruleCount f_prepared f_rulesInUse f_stateCount f_wideCount f_gradeFound f_readHeight f_tokensTaken f_usedCount f (nI t) a_spotCounts a_ends a_arrows a_takers a_groups a_marks a_text a_tokenKinds a_tokenLengths a_lefts a_rights a_rightSizes a_beginSets a_followSets a_nextItems a_openItems a_restItems a_stateItems a_stateSteps a_stateLooks a_wideSteps s a_readStates a_readValues a_usedRules) (fun t s => ∀ t', t' < t → ∀ k, bl (s t') k = true ↔ t' = 3 ∧ k = 45) 4 a_wideLooks (fun t' z => absurd z (Nat.not_lt_zero _)) ?_ ?_
  · intro f s hs
    refine br_t (nI_le (Nat.le_refl 4) (by decide)) ?_
    have e0 : ax_set s 0 4 (fun t => s (0 + t)) = s := ax_self s 0 4
    have eS : xo_S (fun t => s (0 + t)) = fun t k => t = 3 ∧ k = 45 := by
      funext t k
      refine propext ⟨fun z => ?_, fun z => ⟨by omega, ?_⟩⟩
      · have : bl (s (0 + t)) k = true := z.2
        rw [Nat.zero_add] at this
        exact (hs t z.1 k).mp this
      · show bl (s (0 + t)) k = true
        rw [Nat.zero_add]; exact (hs t (by omega) k).mpr z
    have io0 : xo_io g (fun t => s (0 + t)) := fun t k ht hk => tw_45 t k (by
      have hk : bl (s (0 + t)) k = true := hk
      rw [Nat.zero_add] at hk
      exact (hs t ht k).mp hk)
    have := xw_closeLooks_wideLooks (f_depth := f_depth) (f_made := f_made) (f_textLength := f_textLength) (f_tokenCount := f_tokenCount) (f_wrongPlace := f_wrongPlace) (f_ruleCount := f_ruleCount) (f_prepared := f_prepared) (f_rulesInUse := f_rulesInUse) (f_stateCount := f_stateCount) (f_wideCount := f_wideCount) (f_gradeFound := f_gradeFound) (f_readHeight := f_readHeight) (f_tokensTaken := f_tokensTaken) (f_usedCount := f_usedCount) (a_spotCounts := a_spotCounts) (a_ends := a_ends) (a_arrows := a_arrows) (a_takers := a_takers) (a_groups := a_groups) (a_marks := a_marks) (a_text := a_text) (a_tokenKinds := a_tokenKinds) (a_tokenLengths := a_tokenLengths) (a_lefts := a_lefts) (a_rights := a_rights) (a_rightSizes := a_rightSizes) (a_beginSets := a_beginSets) (a_followSets := a_followSets) (a_stateItems := a_stateItems) (a_stateSteps := a_stateSteps) (a_stateLooks := a_stateLooks) (a_wideSteps := a_wideSteps) (a_wideLooks := s) (a_readStates := a_readStates) (a_readValues := a_readValues) (a_usedRules := a_usedRules) hg hI (b := 0) (by omega) io0 (post := fun u => match u with | (f_depth, f_made, f_textLength, f_tokenCount, f_wrongPlace, f_ruleCount, f_prepared, f_rulesInUse, f_stateCount, f_wideCount, f_gradeFound, f_readHeight, f_tokensTaken, f_usedCount, a_spotCounts, a_ends, a_arrows, a_takers, a_groups, a_marks, a_text, a_tokenKinds, a_tokenLengths, a_lefts, a_rights, a_rightSizes, a_beginSets, a_followSets, a_nextItems, a_openItems, a_restItems, a_stateItems, a_stateSteps, a_stateLooks, a_wideSteps, a_wideLooks, a_readStates, a_readValues, a_usedRules) => ∃ n47 : Nat, wX_findWideStates_47 post n47 0 f_depth f_made f_textLength f_tokenCount f_wrongPlace f_ruleCount f_prepared f_rulesInUse f_stateCount 1 f_gradeFound f_readHeight f_tokensTaken f_usedCount a_spotCounts a_ends a_arrows a_takers a_groups a_marks a_text a_tokenKinds a_tokenLengths a_lefts a_rights a_rightSizes a_beginSets a_followSets a_nextItems a_openItems a_restItems a_stateItems a_stateSteps a_stateLooks a_wideSteps a_wideLooks a_readStates a_readValues a_usedRules) ?_
    · rw [e0] at this
      exact this
    · refine ⟨81, key 80 0 rfl 1 _ a_wideSteps (by omega) (by omega) ⟨rfl, fun i hi => ?_, fun j hj => by omega⟩⟩
      have hi : i = 0 := by omega
      subst hi
      rw [eS]
      exact xz_in (n := 0)
  · intro f t s ht hs hk
    have ct : (nI t).toNatClampNeg = t := nI_clamp (by omega)
    refine br_f (nI_ge ht (by decide)) (pk_eq t 3 (fun z => ?_) (fun z => ?_))
    · refine ⟨vp_in_nI (by omega) (by decide), nm_r (by rw [ct]) (nm_r (nI_1 t) (hk _ fun t' ht' k => ?_))⟩
      by_cases e : t' = t
      · subst e; rw [pk_uLs, bl_45, decide_eq_true_eq]; exact ⟨fun y => ⟨z, y⟩, fun y => y.2⟩
      · rw [pk_uLn e]; exact hs t' (by omega) k
    · refine ⟨vp_in_nI (by omega) (by decide), nm_r (by rw [ct]) (nm_r (nI_1 t) (hk _ fun t' ht' k => ?_))⟩
      by_cases e : t' = t
      · subst e; rw [pk_uLs, bl_0]; exact ⟨(fun y => by cases y), fun y => absurd y.1 z⟩
      · rw [pk_uLn e]; exact hs t' (by omega) k
end
end
section
/-! the component's clashes -/
variable {f_depth f_made f_textLength f_tokenCount f_wrongPlace f_ruleCount f_prepared f_rulesInUse f_stateCount f_wideCount f_gradeFound f_readHeight f_tokensTaken f_usedCount : Int32} {a_spotCounts a_ends a_arrows a_takers a_groups a_marks a_text a_tokenKinds a_tokenLengths a_lefts a_rights a_rightSizes a_beginSets a_followSets a_stateSteps a_wideSteps a_readStates a_readValues a_usedRules : Nat → Int32} {a_nextItems a_openItems a_restItems a_stateItems a_stateLooks a_wideLooks : Nat → Int64}
theorem nt_one {n : Nat} (hn : 0 < n) : (∀ i, n.testBit i = true → (n - 1).testBit i = false) ↔ ∀ i j, n.testBit i = true → n.testBit j = true → i = j := by
  have ex : ∃ i, n.testBit i = true := by
    refine Classical.byContradiction fun z => ?_
    have : n = 0 := Nat.eq_of_testBit_eq fun i => by
      rw [Nat.zero_testBit]
      cases e : n.testBit i
      · rfl
      · exact absurd ⟨i, e⟩ z
    omega
  obtain ⟨l, h1, h2⟩ := pk_least (fun i => n.testBit i = true) ex
  have hm : n % 2 ^ (l + 1) = 2 ^ l := by
    apply Nat.eq_of_testBit_eq
    intro i
    rw [Nat.testBit_mod_two_pow, Nat.testBit_two_pow]
    rcases Nat.lt_trichotomy i l with z | z | z
    · have : n.testBit i = false := by
        cases e : n.testBit i
        · rfl
        · exact absurd e (h2 i z)
      rw [this, decide_eq_false (by omega : ¬ l = i)]; simp
    · subst z; rw [h1]; simp
    · rw [decide_eq_false (by omega : ¬ i < l + 1), decide_eq_false (by omega : ¬ l = i)]; rfl
  have hd := Nat.div_add_mod n (2 ^ (l + 1))
  rw [hm] at hd
  have hp : 0 < 2 ^ l := Nat.two_pow_pos l
  have hlt : 2 ^ l < 2 ^ (l + 1) := Nat.pow_lt_pow_right (by decide) (by omega)
  have hn1 : n - 1 = 2 ^ (l + 1) * (n / 2 ^ (l + 1)) + (2 ^ l - 1) := by omega
  have up : ∀ j, l < j → (n - 1).testBit j = n.testBit j := by
    intro j hj
    have e1 : (n - 1).testBit j = (n / 2 ^ (l + 1)).testBit (j - (l + 1)) := by
      rw [hn1, Nat.testBit_two_pow_mul_add _ (by omega), if_neg (by omega)]
    have e2 : n.testBit j = (n / 2 ^ (l + 1)).testBit (j - (l + 1)) := by
      conv => lhs; rw [← hd]
      rw [Nat.testBit_two_pow_mul_add _ hlt, if_neg (by omega)]
    rw [e1, e2]
  constructor
  · intro h
    have only : ∀ j, n.testBit j = true → j = l := by
      intro j hj
      rcases Nat.lt_trichotomy j l with z | z | z
      · exact absurd hj (h2 j z)
      · exact z
      · have := h j hj
        rw [up j z, hj] at this
        cases this
    intro i j hi hj
    rw [only i hi, only j hj]
  · intro h i hi
    have e : i = l := h i l hi h1
    subst e
    rw [hn1, Nat.testBit_two_pow_mul_add _ (by omega), if_pos (by omega), Nat.testBit_two_pow_sub_one]
    simp
theorem bl_1bit (c : Int64) : c &&& (c - 1) = 0 ↔ ∀ i j, bl c i = true → bl c j = true → i = j := by
  rcases Nat.eq_zero_or_pos c.toBitVec.toNat with z | z
  · have e : c = 0 := Int64.toBitVec_inj.mp (BitVec.eq_of_toNat_eq (by rw [z]; rfl))
    subst e
    exact ⟨fun _ i j hi => absurd hi (bl_no rfl i), fun _ => by decide⟩
  · have e1 : (c - 1).toBitVec.toNat = c.toBitVec.toNat - 1 := by
      rw [Int64.toBitVec_sub, BitVec.toNat_sub_of_le]
      · rfl
      · rw [BitVec.le_def]; exact z
    have b1 : ∀ i, bl c i = c.toBitVec.toNat.testBit i := fun i => rfl
    have b2 : ∀ i, bl (c - 1) i = (c.toBitVec.toNat - 1).testBit i := fun i => by rw [← e1]; rfl
    have := nt_one z
    constructor
    · intro h
      refine this.mp fun i hi => ?_
      have h3 := congrArg (fun x => bl x i) h
      simp only [bl_and, bl_0] at h3
      rw [b1 i, b2 i, hi] at h3
      simpa using h3
    · intro h
      have h2 := this.mpr h
      rw [bl_zero]
      intro i _
      rw [bl_and, b1 i, b2 i]
      cases e : c.toBitVec.toNat.testBit i
      · rfl
      · rw [h2 i e]; rfl
section
variable {g : rg_T}
/-- the clash at look t of four sets -/
def ck_x (g : rg_T) (L : Nat → Int64) (t : Nat) : Prop := cs_x g (fun k => ∃ u, u < 4 ∧ bl (L u) k = true) (fun t k => bl (L t) k = true) t
theorem xw_clashesAt_wideLooks (hg : rg_ok g) (hI : xi_I g 10 a_nextItems a_openItems a_restItems) {b t : Nat} (hb : b + 4 ≤ 324) (ht : t < 4) (hL : ∀ u, u < 4 → tb_io g (a_wideLooks (b + u))) {post : Int32 → Prop} (h0 : ¬ ck_x g (fun u => a_wideLooks (b + u)) t → post 0) (h1 : ck_x g (fun u => a_wideLooks (b + u)) t → post 1) : wpX_clashesAt__wideLooks post (f_depth, f_made, f_textLength, f_tokenCount, f_wrongPlace, f_ruleCount, f_prepared, f_rulesInUse, f_stateCount, f_wideCount, f_gradeFound, f_readHeight, f_tokensTaken, f_usedCount, a_spotCounts, a_ends, a_arrows, a_takers, a_groups, a_marks, a_text, a_tokenKinds, a_tokenLengths, a_lefts, a_rights, a_rightSizes, a_beginSets, a_followSets, a_nextItems, a_openItems, a_restItems, a_stateItems, a_stateSteps, a_stateLooks, a_wideSteps, a_wideLooks, a_readStates, a_readValues, a_usedRules) (nI b) (nI t) := by
  obtain ⟨i1, i2, i3, i4⟩ := hI
  have cc : ∀ k, bl (a_wideLooks (b + t) &&& a_nextItems 7) k = true ↔ bl (a_wideLooks (b + t)) k = true ∧ k % 5 = rg_c g (k / 5) := by
    intro k
    rw [bl_and, Bool.and_eq_true, i2 k]
    exact ⟨fun z => ⟨z.1, z.2.2⟩, fun z => ⟨z.1, ⟨(hL t ht k z.1).1, xu_10 hg (hL t ht k z.1).1⟩, z.2⟩⟩
  refine ⟨pk_in (b + t) 324 (by omega) (nI_add b t), nm_r (e' := a_wideLooks (b + t) &&& a_nextItems 7) (by rw [pk_cl (b + t) (nI_add b t)]) (br_c (fun z => ?_) (fun z => h1 ?_))⟩
  · have z := (bl_1bit _).mp z
    have no1 : ¬ ∃ k k', k ≠ k' ∧ (∃ u, u < 4 ∧ bl (a_wideLooks (b + u)) k = true) ∧ (∃ u, u < 4 ∧ bl (a_wideLooks (b + u)) k' = true) ∧ bl (a_wideLooks (b + t)) k = true ∧ bl (a_wideLooks (b + t)) k' = true ∧ k % 5 = rg_c g (k / 5) ∧ k' % 5 = rg_c g (k' / 5) := by
      rintro ⟨k, k', q1, _, _, q4, q5, q6, q7⟩
      exact q1 (z k k' ((cc k).mpr ⟨q4, q6⟩) ((cc k').mpr ⟨q5, q7⟩))
    refine br_c (fun y => h0 fun w => ?_) (fun y => pk_eq t 3 (fun e => h0 fun w => ?_) (fun e => ?_))
    · rcases w with w | ⟨_, k, k', _, w3, w4, _⟩
      · exact no1 w
      · exact bl_no y k ((cc k).mpr ⟨w3, w4⟩)
    · rcases w with w | ⟨w, _⟩
      · exact no1 w
      · omega
    · obtain ⟨k0, hk0⟩ := bl_ne y
      have hk0 := (cc k0).mp hk0
      refine loop_0 (fun f u A => wX_clashesAt__wideLooks_49 post (nI b) (nI t) f_depth f_made f_textLength f_tokenCount f_wrongPlace f_ruleCount f_prepared f_rulesInUse f_stateCount f_wideCount f_gradeFound f_readHeight f_tokensTaken f_usedCount a_spotCounts a_ends a_arrows a_takers a_groups a_marks a_text a_tokenKinds a_tokenLengths a_lefts a_rights a_rightSizes a_beginSets a_followSets a_nextItems a_openItems a_restItems a_stateItems a_stateSteps a_stateLooks a_wideSteps a_wideLooks a_readStates a_readValues a_usedRules f A (nI u)) (fun u A => ∀ k, bl A k = true ↔ ∃ u', u' < u ∧ bl (a_wideLooks (b + u')) k = true) 4 0 (fun k => ?_) ?_ ?_
      · rw [bl_0]; exact ⟨(fun z => by cases z), fun ⟨u', q, _⟩ => absurd q (Nat.not_lt_zero _)⟩
      · intro f A hA
        have ct : (nI t).toNatClampNeg = t := nI_clamp (by omega)
        have nx : ∀ k, bl (A &&& a_nextItems t) k = true ↔ (∃ u, u < 4 ∧ bl (a_wideLooks (b + u)) k = true) ∧ im_nx g k t := by
          intro k
          rw [bl_and, Bool.and_eq_true, hA k, i1 t k (by omega)]
          refine ⟨fun q => ⟨q.1, q.2.2⟩, fun q => ⟨q.1, ?_, q.2⟩⟩
          obtain ⟨u, u1, u2⟩ := q.1
          exact ⟨(hL u u1 k u2).1, xu_10 hg (hL u u1 k u2).1⟩
        refine br_t (nI_le (Nat.le_refl 4) (by decide)) ⟨vp_in_nI (by omega) (by decide), ?_⟩
        rw [ct]
        refine br_c (fun q => h0 fun w => ?_) (fun q => h1 ?_)
        · rcases w with w | ⟨_, k, k', _, _, _, w5, w6⟩
          · exact no1 w
          · exact bl_no q k' ((nx k').mpr ⟨w5, w6⟩)
        · obtain ⟨k', hk'⟩ := bl_ne q
          have hk' := (nx k').mp hk'
          exact Or.inr ⟨by omega, k0, k', ⟨t, ht, hk0.1⟩, hk0.1, hk0.2, hk'.1, hk'.2⟩
      · intro f u A hu hA hk
        refine br_f (nI_ge hu (by decide)) ⟨pk_in (b + u) 324 (by omega) (nI_add b u), nm_e (nm_r (nI_1 u) (hk _ fun k => ?_))⟩
        rw [pk_cl (b + u) (nI_add b u), bl_or, Bool.or_eq_true, hA k]
        constructor
        · rintro (⟨u', q⟩ | q)
          · exact ⟨u', by omega, q.2⟩
          · exact ⟨u, by omega, q⟩
        · rintro ⟨u', q1, q2⟩
          by_cases e : u' = u
          · subst e; exact Or.inr q2
          · exact Or.inl ⟨u', by omega, q2⟩
  · have : ∃ i j, bl (a_wideLooks (b + t) &&& a_nextItems 7) i = true ∧ bl (a_wideLooks (b + t) &&& a_nextItems 7) j = true ∧ i ≠ j := by
      refine Classical.byContradiction fun q => z ((bl_1bit _).mpr fun i j hi hj => ?_)
      exact Classical.byContradiction fun q2 => q ⟨i, j, hi, hj, q2⟩
    obtain ⟨i, j, q1, q2, q3⟩ := this
    have q1 := (cc i).mp q1
    have q2 := (cc j).mp q2
    exact Or.inl ⟨i, j, q3, ⟨t, ht, q1.1⟩, ⟨t, ht, q2.1⟩, q1.1, q2.1, q1.2, q2.2⟩
theorem xw_clashes_wideLooks (hg : rg_ok g) (hI : xi_I g 10 a_nextItems a_openItems a_restItems) {n : Nat} (hn : n * 4 ≤ 324) (hL : ∀ s u, s < n → u < 4 → tb_io g (a_wideLooks (s * 4 + u))) {post : Int32 → Prop} (h0 : (¬ ∃ s t, s < n ∧ t < 4 ∧ ck_x g (fun u => a_wideLooks (s * 4 + u)) t) → post 0) (h1 : (∃ s t, s < n ∧ t < 4 ∧ ck_x g (fun u => a_wideLooks (s * 4 + u)) t) → post 1) : wpX_clashes__wideLooks post (f_depth, f_made, f_textLength, f_tokenCount, f_wrongPlace, f_ruleCount, f_prepared, f_rulesInUse, f_stateCount, f_wideCount, f_gradeFound, f_readHeight, f_tokensTaken, f_usedCount, a_spotCounts, a_ends, a_arrows, a_takers, a_groups, a_marks, a_text, a_tokenKinds, a_tokenLengths, a_lefts, a_rights, a_rightSizes, a_beginSets, a_followSets, a_nextItems, a_openItems, a_restItems, a_stateItems, a_stateSteps, a_stateLooks, a_wideSteps, a_wideLooks, a_readStates, a_readValues, a_usedRules) (nI n) := by
  refine loop_0 (fun f s (_ : Unit) => wX_clashes__wideLooks_2 post (nI n) f_depth f_made f_textLength f_tokenCount f_wrongPlace f_ruleCount f_prepared f_rulesInUse f_stateCount f_wideCount f_gradeFound f_readHeight f_tokensTaken f_usedCount a_spotCounts a_ends a_arrows a_takers a_groups a_marks a_text a_tokenKinds a_tokenLengths a_lefts a_rights a_rightSizes a_beginSets a_followSets a_nextItems a_openItems a_restItems a_stateItems a_stateSteps a_stateLooks a_wideSteps a_wideLooks a_readStates a_readValues a_usedRules f (nI s)) (fun s _ => ¬ ∃ s' t, s' < s ∧ t < 4 ∧ ck_x g (fun u => a_wideLooks (s' * 4 + u)) t) n () (fun ⟨s', t, q, _⟩ => absurd q (Nat.not_lt_zero _)) ?_ ?_
  · intro f _ hs
    exact br_t (nI_le (Nat.le_refl _) (by omega)) (h0 hs)
  · intro f s _ hs hno hk
    refine br_f (nI_ge hs (by omega)) ?_
    refine loop_0 (fun f' t (_ : Unit) => wX_clashes__wideLooks_10 post (wX_clashes__wideLooks_2 post (nI n) f_depth f_made f_textLength f_tokenCount f_wrongPlace f_ruleCount f_prepared f_rulesInUse f_stateCount f_wideCount f_gradeFound f_readHeight f_tokensTaken f_usedCount a_spotCounts a_ends a_arrows a_takers a_groups a_marks a_text a_tokenKinds a_tokenLengths a_lefts a_rights a_rightSizes a_beginSets a_followSets a_nextItems a_openItems a_restItems a_stateItems a_stateSteps a_stateLooks a_wideSteps a_wideLooks a_readStates a_readValues a_usedRules f) (nI n) (nI s) f_depth f_made f_textLength f_tokenCount f_wrongPlace f_ruleCount f_prepared f_rulesInUse f_stateCount f_wideCount f_gradeFound f_readHeight f_tokensTaken f_usedCount a_spotCounts a_ends a_arrows a_takers a_groups a_marks a_text a_tokenKinds a_tokenLengths a_lefts a_rights a_rightSizes a_beginSets a_followSets a_nextItems a_openItems a_restItems a_stateItems a_stateSteps a_stateLooks a_wideSteps a_wideLooks a_readStates a_readValues a_usedRules f' (nI t)) (fun t _ => ¬ ∃ t', t' < t ∧ ck_x g (fun u => a_wideLooks (s * 4 + u)) t') 4 () (fun ⟨t', q, _⟩ => absurd q (Nat.not_lt_zero _)) ?_ ?_
    · intro f' _ ht
      refine br_t (nI_le (Nat.le_refl 4) (by decide)) (nm_r (nI_1 s) (hk () ?_))
      rintro ⟨s', t, q1, q2, q3⟩
      by_cases e : s' = s
      · subst e; exact ht ⟨t, q2, q3⟩
      · exact hno ⟨s', t, by omega, q2, q3⟩
    · intro f' t _ ht hno2 hk2
      refine br_f (nI_ge ht (by decide)) ?_
      rw [show nI s * 4 = nI (s * 4) from pk_mul s 4]
      refine xw_clashesAt_wideLooks hg hI (by omega) ht (hL s · hs) (fun q => br_t rfl (nm_r (nI_1 t) (hk2 () ?_))) (fun q => br_f (by decide) (h1 ⟨s, t, hs, ht, q⟩))
      rintro ⟨t', q1, q2⟩
      by_cases e : t' = t
      · subst e; exact q q2
      · exact hno2 ⟨t', by omega, q2⟩
theorem xw_closeP_wideLooks (hg : rg_ok g) (hI : xi_I g 10 a_nextItems a_openItems a_restItems) {b : Nat} (hb : b + 4 ≤ 324) (hS : xo_io g (fun t => a_wideLooks (b + t))) {post : SX → Prop} (h : post (f_depth, f_made, f_textLength, f_tokenCount, f_wrongPlace, f_ruleCount, f_prepared, f_rulesInUse, f_stateCount, f_wideCount, f_gradeFound, f_readHeight, f_tokensTaken, f_usedCount, a_spotCounts, a_ends, a_arrows, a_takers, a_groups, a_marks, a_text, a_tokenKinds, a_tokenLengths, a_lefts, a_rights, a_rightSizes, a_beginSets, a_followSets, a_nextItems, a_openItems, a_restItems, a_stateItems, a_stateSteps, a_stateLooks, a_wideSteps, (ax_set a_wideLooks b 4 (fun t => mk_l (cw_0 g (xo_S (fun t => a_wideLooks (b + t))) t))), a_readStates, a_readValues, a_usedRules)) : wpX_closeLooks__wideLooks post (f_depth, f_made, f_textLength, f_tokenCount, f_wrongPlace, f_ruleCount, f_prepared, f_rulesInUse, f_stateCount, f_wideCount, f_gradeFound, f_readHeight, f_tokensTaken, f_usedCount, a_spotCounts, a_ends, a_arrows, a_takers, a_groups, a_marks, a_text, a_tokenKinds, a_tokenLengths, a_lefts, a_rights, a_rightSizes, a_beginSets, a_followSets, a_nextItems, a_openItems, a_restItems, a_stateItems, a_stateSteps, a_stateLooks, a_wideSteps, a_wideLooks, a_readStates, a_readValues, a_usedRules) (nI b) := by
  have := xw_closeLooks_wideLooks hg hI hb hS h
  rw [ax_self] at this
  exact this
theorem xw_clashesAt_stateLooks (hg : rg_ok g) (hI : xi_I g 10 a_nextItems a_openItems a_restItems) {b t : Nat} (hb : b + 4 ≤ 240) (ht : t < 4) (hL : ∀ u, u < 4 → tb_io g (a_stateLooks (b + u))) {post : Int32 → Prop} (h0 : ¬ ck_x g (fun u => a_stateLooks (b + u)) t → post 0) (h1 : ck_x g (fun u => a_stateLooks (b + u)) t → post 1) : wpX_clashesAt__stateLooks post (f_depth, f_made, f_textLength, f_tokenCount, f_wrongPlace, f_ruleCount, f_prepared, f_rulesInUse, f_stateCount, f_wideCount, f_gradeFound, f_readHeight, f_tokensTaken, f_usedCount, a_spotCounts, a_ends, a_arrows, a_takers, a_groups, a_marks, a_text, a_tokenKinds, a_tokenLengths, a_lefts, a_rights, a_rightSizes, a_beginSets, a_followSets, a_nextItems, a_openItems, a_restItems, a_stateItems, a_stateSteps, a_stateLooks, a_wideSteps, a_wideLooks, a_readStates, a_readValues, a_usedRules) (nI b) (nI t) := by
  obtain ⟨i1, i2, i3, i4⟩ := hI
  have cc : ∀ k, bl (a_stateLooks (b + t) &&& a_nextItems 7) k = true ↔ bl (a_stateLooks (b + t)) k = true ∧ k % 5 = rg_c g (k / 5) := by
    intro k
    rw [bl_and, Bool.and_eq_true, i2 k]
    exact ⟨fun z => ⟨z.1, z.2.2⟩, fun z => ⟨z.1, ⟨(hL t ht k z.1).1, xu_10 hg (hL t ht k z.1).1⟩, z.2⟩⟩
  refine ⟨pk_in (b + t) 240 (by omega) (nI_add b t), nm_r (e' := a_stateLooks (b + t) &&& a_nextItems 7) (by rw [pk_cl (b + t) (nI_add b t)]) (br_c (fun z => ?_) (fun z => h1 ?_))⟩
  · have z := (bl_1bit _).mp z
    have no1 : ¬ ∃ k k', k ≠ k' ∧ (∃ u, u < 4 ∧ bl (a_stateLooks (b + u)) k = true) ∧ (∃ u, u < 4 ∧ bl (a_stateLooks (b + u)) k' = true) ∧ bl (a_stateLooks (b + t)) k = true ∧ bl (a_stateLooks (b + t)) k' = true ∧ k % 5 = rg_c g (k / 5) ∧ k' % 5 = rg_c g (k' / 5) := by
      rintro ⟨k, k', q1, _, _, q4, q5, q6, q7⟩
      exact q1 (z k k' ((cc k).mpr ⟨q4, q6⟩) ((cc k').mpr ⟨q5, q7⟩))
    refine br_c (fun y => h0 fun w => ?_) (fun y => pk_eq t 3 (fun e => h0 fun w => ?_) (fun e => ?_))
    · rcases w with w | ⟨_, k, k', _, w3, w4, _⟩
      · exact no1 w
      · exact bl_no y k ((cc k).mpr ⟨w3, w4⟩)
    · rcases w with w | ⟨w, _⟩
      · exact no1 w
      · omega
    · obtain ⟨k0, hk0⟩ := bl_ne y
      have hk0 := (cc k0).mp hk0
      refine loop_0 (fun f u A => wX_clashesAt__stateLooks_49 post (nI b) (nI t) f_depth f_made f_textLength f_tokenCount f_wrongPlace f_ruleCount f_prepared f_rulesInUse f_stateCount f_wideCount f_gradeFound f_readHeight f_tokensTaken f_usedCount a_spotCounts a_ends a_arrows a_takers a_groups a_marks a_text a_tokenKinds a_tokenLengths a_lefts a_rights a_rightSizes a_beginSets a_followSets a_nextItems a_openItems a_restItems a_stateItems a_stateSteps a_stateLooks a_wideSteps a_wideLooks a_readStates a_readValues a_usedRules f A (nI u)) (fun u A => ∀ k, bl A k = true ↔ ∃ u', u' < u ∧ bl (a_stateLooks (b + u')) k = true) 4 0 (fun k => ?_) ?_ ?_
      · rw [bl_0]; exact ⟨(fun z => by cases z), fun ⟨u', q, _⟩ => absurd q (Nat.not_lt_zero _)⟩
      · intro f A hA
        have ct : (nI t).toNatClampNeg = t := nI_clamp (by omega)
        have nx : ∀ k, bl (A &&& a_nextItems t) k = true ↔ (∃ u, u < 4 ∧ bl (a_stateLooks (b + u)) k = true) ∧ im_nx g k t := by
          intro k
          rw [bl_and, Bool.and_eq_true, hA k, i1 t k (by omega)]
          refine ⟨fun q => ⟨q.1, q.2.2⟩, fun q => ⟨q.1, ?_, q.2⟩⟩
          obtain ⟨u, u1, u2⟩ := q.1
          exact ⟨(hL u u1 k u2).1, xu_10 hg (hL u u1 k u2).1⟩
        refine br_t (nI_le (Nat.le_refl 4) (by decide)) ⟨vp_in_nI (by omega) (by decide), ?_⟩
        rw [ct]
        refine br_c (fun q => h0 fun w => ?_) (fun q => h1 ?_)
        · rcases w with w | ⟨_, k, k', _, _, _, w5, w6⟩
          · exact no1 w
          · exact bl_no q k' ((nx k').mpr ⟨w5, w6⟩)
        · obtain ⟨k', hk'⟩ := bl_ne q
          have hk' := (nx k').mp hk'
          exact Or.inr ⟨by omega, k0, k', ⟨t, ht, hk0.1⟩, hk0.1, hk0.2, hk'.1, hk'.2⟩
      · intro f u A hu hA hk
        refine br_f (nI_ge hu (by decide)) ⟨pk_in (b + u) 240 (by omega) (nI_add b u), nm_e (nm_r (nI_1 u) (hk _ fun k => ?_))⟩
        rw [pk_cl (b + u) (nI_add b u), bl_or, Bool.or_eq_true, hA k]
        constructor
        · rintro (⟨u', q⟩ | q)
          · exact ⟨u', by omega, q.2⟩
          · exact ⟨u, by omega, q⟩
        · rintro ⟨u', q1, q2⟩
          by_cases e : u' = u
          · subst e; exact Or.inr q2
          · exact Or.inl ⟨u', by omega, q2⟩
  · have : ∃ i j, bl (a_stateLooks (b + t) &&& a_nextItems 7) i = true ∧ bl (a_stateLooks (b + t) &&& a_nextItems 7) j = true ∧ i ≠ j := by
      refine Classical.byContradiction fun q => z ((bl_1bit _).mpr fun i j hi hj => ?_)
      exact Classical.byContradiction fun q2 => q ⟨i, j, hi, hj, q2⟩
    obtain ⟨i, j, q1, q2, q3⟩ := this
    have q1 := (cc i).mp q1
    have q2 := (cc j).mp q2
    exact Or.inl ⟨i, j, q3, ⟨t, ht, q1.1⟩, ⟨t, ht, q2.1⟩, q1.1, q2.1, q1.2, q2.2⟩
theorem xw_clashes_stateLooks (hg : rg_ok g) (hI : xi_I g 10 a_nextItems a_openItems a_restItems) {n : Nat} (hn : n * 4 ≤ 240) (hL : ∀ s u, s < n → u < 4 → tb_io g (a_stateLooks (s * 4 + u))) {post : Int32 → Prop} (h0 : (¬ ∃ s t, s < n ∧ t < 4 ∧ ck_x g (fun u => a_stateLooks (s * 4 + u)) t) → post 0) (h1 : (∃ s t, s < n ∧ t < 4 ∧ ck_x g (fun u => a_stateLooks (s * 4 + u)) t) → post 1) : wpX_clashes__stateLooks post (f_depth, f_made, f_textLength, f_tokenCount, f_wrongPlace, f_ruleCount, f_prepared, f_rulesInUse, f_stateCount, f_wideCount, f_gradeFound, f_readHeight, f_tokensTaken, f_usedCount, a_spotCounts, a_ends, a_arrows, a_takers, a_groups, a_marks, a_text, a_tokenKinds, a_tokenLengths, a_lefts, a_rights, a_rightSizes, a_beginSets, a_followSets, a_nextItems, a_openItems, a_restItems, a_stateItems, a_stateSteps, a_stateLooks, a_wideSteps, a_wideLooks, a_readStates, a_readValues, a_usedRules) (nI n) := by
  refine loop_0 (fun f s (_ : Unit) => wX_clashes__stateLooks_2 post (nI n) f_depth f_made f_textLength f_tokenCount f_wrongPlace f_ruleCount f_prepared f_rulesInUse f_stateCount f_wideCount f_gradeFound f_readHeight f_tokensTaken f_usedCount a_spotCounts a_ends a_arrows a_takers a_groups a_marks a_text a_tokenKinds a_tokenLengths a_lefts a_rights a_rightSizes a_beginSets a_followSets a_nextItems a_openItems a_restItems a_stateItems a_stateSteps a_stateLooks a_wideSteps a_wideLooks a_readStates a_readValues a_usedRules f (nI s)) (fun s _ => ¬ ∃ s' t, s' < s ∧ t < 4 ∧ ck_x g (fun u => a_stateLooks (s' * 4 + u)) t) n () (fun ⟨s', t, q, _⟩ => absurd q (Nat.not_lt_zero _)) ?_ ?_
  · intro f _ hs
    exact br_t (nI_le (Nat.le_refl _) (by omega)) (h0 hs)
  · intro f s _ hs hno hk
    refine br_f (nI_ge hs (by omega)) ?_
    refine loop_0 (fun f' t (_ : Unit) => wX_clashes__stateLooks_10 post (wX_clashes__stateLooks_2 post (nI n) f_depth f_made f_textLength f_tokenCount f_wrongPlace f_ruleCount f_prepared f_rulesInUse f_stateCount f_wideCount f_gradeFound f_readHeight f_tokensTaken f_usedCount a_spotCounts a_ends a_arrows a_takers a_groups a_marks a_text a_tokenKinds a_tokenLengths a_lefts a_rights a_rightSizes a_beginSets a_followSets a_nextItems a_openItems a_restItems a_stateItems a_stateSteps a_stateLooks a_wideSteps a_wideLooks a_readStates a_readValues a_usedRules f) (nI n) (nI s) f_depth f_made f_textLength f_tokenCount f_wrongPlace f_ruleCount f_prepared f_rulesInUse f_stateCount f_wideCount f_gradeFound f_readHeight f_tokensTaken f_usedCount a_spotCounts a_ends a_arrows a_takers a_groups a_marks a_text a_tokenKinds a_tokenLengths a_lefts a_rights a_rightSizes a_beginSets a_followSets a_nextItems a_openItems a_restItems a_stateItems a_stateSteps a_stateLooks a_wideSteps a_wideLooks a_readStates a_readValues a_usedRules f' (nI t)) (fun t _ => ¬ ∃ t', t' < t ∧ ck_x g (fun u => a_stateLooks (s * 4 + u)) t') 4 () (fun ⟨t', q, _⟩ => absurd q (Nat.not_lt_zero _)) ?_ ?_
    · intro f' _ ht
      refine br_t (nI_le (Nat.le_refl 4) (by decide)) (nm_r (nI_1 s) (hk () ?_))
      rintro ⟨s', t, q1, q2, q3⟩
      by_cases e : s' = s
      · subst e; exact ht ⟨t, q2, q3⟩
      · exact hno ⟨s', t, by omega, q2, q3⟩
    · intro f' t _ ht hno2 hk2
      refine br_f (nI_ge ht (by decide)) ?_
      rw [show nI s * 4 = nI (s * 4) from pk_mul s 4]
      refine xw_clashesAt_stateLooks hg hI (by omega) ht (hL s · hs) (fun q => br_t rfl (nm_r (nI_1 t) (hk2 () ?_))) (fun q => br_f (by decide) (h1 ⟨s, t, hs, ht, q⟩))
      rintro ⟨t', q1, q2⟩
      by_cases e : t' = t
      · subst e; exact q q2
      · exact hno2 ⟨t', by omega, q2⟩
theorem xw_closeP_stateLooks (hg : rg_ok g) (hI : xi_I g 10 a_nextItems a_openItems a_restItems) {b : Nat} (hb : b + 4 ≤ 240) (hS : xo_io g (fun t => a_stateLooks (b + t))) {post : SX → Prop} (h : post (f_depth, f_made, f_textLength, f_tokenCount, f_wrongPlace, f_ruleCount, f_prepared, f_rulesInUse, f_stateCount, f_wideCount, f_gradeFound, f_readHeight, f_tokensTaken, f_usedCount, a_spotCounts, a_ends, a_arrows, a_takers, a_groups, a_marks, a_text, a_tokenKinds, a_tokenLengths, a_lefts, a_rights, a_rightSizes, a_beginSets, a_followSets, a_nextItems, a_openItems, a_restItems, a_stateItems, a_stateSteps, (ax_set a_stateLooks b 4 (fun t => mk_l (cw_0 g (xo_S (fun t => a_stateLooks (b + t))) t))), a_wideSteps, a_wideLooks, a_readStates, a_readValues, a_usedRules)) : wpX_closeLooks__stateLooks post (f_depth, f_made, f_textLength, f_tokenCount, f_wrongPlace, f_ruleCount, f_prepared, f_rulesInUse, f_stateCount, f_wideCount, f_gradeFound, f_readHeight, f_tokensTaken, f_usedCount, a_spotCounts, a_ends, a_arrows, a_takers, a_groups, a_marks, a_text, a_tokenKinds, a_tokenLengths, a_lefts, a_rights, a_rightSizes, a_beginSets, a_followSets, a_nextItems, a_openItems, a_restItems, a_stateItems, a_stateSteps, a_stateLooks, a_wideSteps, a_wideLooks, a_readStates, a_readValues, a_usedRules) (nI b) := by
  have := xw_closeLooks_stateLooks hg hI hb hS h
  rw [ax_self] at this
  exact this
end
end
section
/-! the component's looks in the states, and its grade -/
variable {f_depth f_made f_textLength f_tokenCount f_wrongPlace f_ruleCount f_prepared f_rulesInUse f_stateCount f_wideCount f_gradeFound f_readHeight f_tokensTaken f_usedCount : Int32} {a_spotCounts a_ends a_arrows a_takers a_groups a_marks a_text a_tokenKinds a_tokenLengths a_lefts a_rights a_rightSizes a_beginSets a_followSets a_stateSteps a_wideSteps a_readStates a_readValues a_usedRules : Nat → Int32} {a_nextItems a_openItems a_restItems a_stateItems a_stateLooks a_wideLooks : Nat → Int64}
theorem nb_0 : narrow .boolean (.int 0) = .int 0 := rfl
theorem nb_1 : narrow .boolean (.int 1) = .int 1 := rfl
section
variable {g : rg_T}
theorem xw_setStateLooks {n t : Nat} (hn : n ≤ 60) (ht : t < 4) (m : Int64) {post : SX → Prop} (h : ∀ A, (∀ s, s < n → A (s * 4 + t) = a_stateItems s &&& m) → (∀ s u, u < 4 → u ≠ t → A (s * 4 + u) = a_stateLooks (s * 4 + u)) → post (f_depth, f_made, f_textLength, f_tokenCount, f_wrongPlace, f_ruleCount, f_prepared, f_rulesInUse, (nI n), f_wideCount, f_gradeFound, f_readHeight, f_tokensTaken, f_usedCount, a_spotCounts, a_ends, a_arrows, a_takers, a_groups, a_marks, a_text, a_tokenKinds, a_tokenLengths, a_lefts, a_rights, a_rightSizes, a_beginSets, a_followSets, a_nextItems, a_openItems, a_restItems, a_stateItems, a_stateSteps, A, a_wideSteps, a_wideLooks, a_readStates, a_readValues, a_usedRules)) : wpX_setStateLooks post (f_depth, f_made, f_textLength, f_tokenCount, f_wrongPlace, f_ruleCount, f_prepared, f_rulesInUse, (nI n), f_wideCount, f_gradeFound, f_readHeight, f_tokensTaken, f_usedCount, a_spotCounts, a_ends, a_arrows, a_takers, a_groups, a_marks, a_text, a_tokenKinds, a_tokenLengths, a_lefts, a_rights, a_rightSizes, a_beginSets, a_followSets, a_nextItems, a_openItems, a_restItems, a_stateItems, a_stateSteps, a_stateLooks, a_wideSteps, a_wideLooks, a_readStates, a_readValues, a_usedRules) (nI t) m := by
  refine loop_0 (fun f s A => wX_setStateLooks_3 post (nI t) m f_depth f_made f_textLength f_tokenCount f_wrongPlace f_ruleCount f_prepared f_rulesInUse (nI n) f_wideCount f_gradeFound f_readHeight f_tokensTaken f_usedCount f (nI s) a_spotCounts a_ends a_arrows a_takers a_groups a_marks a_text a_tokenKinds a_tokenLengths a_lefts a_rights a_rightSizes a_beginSets a_followSets a_nextItems a_openItems a_restItems a_stateItems a_stateSteps A a_wideSteps a_wideLooks a_readStates a_readValues a_usedRules) (fun s A => (∀ s', s' < s → A (s' * 4 + t) = a_stateItems s' &&& m) ∧ (∀ s u, u < 4 → u ≠ t → A (s * 4 + u) = a_stateLooks (s * 4 + u))) n a_stateLooks ⟨fun s' q => absurd q (Nat.not_lt_zero _), fun _ _ _ _ => rfl⟩ ?_ ?_
  · rintro f A ⟨h1, h2⟩
    exact br_t (nI_le (Nat.le_refl _) (by omega)) (h A h1 h2)
  · rintro f s A hs ⟨h1, h2⟩ hk
    refine br_f (nI_ge hs (by omega)) ⟨vp_in_nI (by omega) (by decide), pk_in (s * 4 + t) 240 (by omega) (ix_4 s t), nm_r (by rw [pk_cl (s * 4 + t) (ix_4 s t), nI_clamp (by omega : s < 2 ^ 31)]) (nm_r (nI_1 s) (hk _ ⟨fun s' hs' => ?_, fun s' u hu hne => ?_⟩))⟩
    · by_cases e : s' = s
      · subst e; exact pk_uLs
      · rw [pk_uLn (by omega)]; exact h1 s' (by omega)
    · rw [pk_uLn (by omega)]; exact h2 s' u hu hne
/-- what counts by the follows -/
theorem xw_followedItems (hg : rg_ok g) (hG : xg_G g a_lefts a_rights a_rightSizes) (hU : xg_U g f_rulesInUse) (hI : xi_I g 10 a_nextItems a_openItems a_restItems) (hW : xf_ok g a_followSets) {t : Nat} (ht : t < 4) {post : Int64 → Prop} (h : ∀ m, (∀ k, im_ok g k → (bl m k = true ↔ (k % 5 = rg_c g (k / 5) → cs_C1 g t k))) → post m) : wpX_followedItems post (f_depth, f_made, f_textLength, f_tokenCount, f_wrongPlace, f_ruleCount, f_prepared, f_rulesInUse, f_stateCount, f_wideCount, f_gradeFound, f_readHeight, f_tokensTaken, f_usedCount, a_spotCounts, a_ends, a_arrows, a_takers, a_groups, a_marks, a_text, a_tokenKinds, a_tokenLengths, a_lefts, a_rights, a_rightSizes, a_beginSets, a_followSets, a_nextItems, a_openItems, a_restItems, a_stateItems, a_stateSteps, a_stateLooks, a_wideSteps, a_wideLooks, a_readStates, a_readValues, a_usedRules) (nI t) := by
  obtain ⟨i1, i2, i3, i4⟩ := hI
  refine nm_e ?_
  refine loop_0 (fun f r m => wX_followedItems_15 post (nI t) f_depth f_made f_textLength f_tokenCount f_wrongPlace f_ruleCount f_prepared f_rulesInUse f_stateCount f_wideCount f_gradeFound f_readHeight f_tokensTaken f_usedCount a_spotCounts a_ends a_arrows a_takers a_groups a_marks a_text a_tokenKinds a_tokenLengths a_lefts a_rights a_rightSizes a_beginSets a_followSets a_nextItems a_openItems a_restItems a_stateItems a_stateSteps a_stateLooks a_wideSteps a_wideLooks a_readStates a_readValues a_usedRules f m (nI r)) (fun r m => ∀ k, im_ok g k → (bl m k = true ↔ (k % 5 = rg_c g (k / 5) → k / 5 < r ∧ cs_C1 g t k))) 10 (a_nextItems 7 ^^^ (-1)) ?_ ?_ ?_
  · intro k hk
    have k64 : k < 64 := by have := im_lt hg hk; omega
    rw [bl_not _ k64]
    have := i2 k
    constructor
    · intro z y
      exfalso
      rw [this.mpr ⟨⟨hk.1, xu_10 hg hk.1⟩, y⟩] at z
      cases z
    · intro z
      cases e : bl (a_nextItems 7) k
      · rfl
      · exact absurd (z (this.mp e).2).1 (Nat.not_lt_zero _)
  · intro f m hm
    refine br_t (nI_lt (a := 9) (by decide) (by decide)) (h m fun k hk => ?_)
    rw [hm k hk]
    exact ⟨fun z y => (z y).2, fun z y => ⟨xu_10 hg hk.1, z y⟩⟩
  · intro f r m hr hm hk
    refine br_f (nI_nlt (a := 9) (by omega) (by omega)) (br_c (fun z => ?_) (fun z => ?_))
    · have z := (hU r).mp ((b_test f_rulesInUse (n := r) (by omega)).mp z)
      have hr' : r < rg_n g ∨ r = 9 := z.imp (fun z => z.1) id
      obtain ⟨b1, b2, b3, b4, b5⟩ := rg_b hg hr'
      obtain ⟨g1, g2, g3⟩ := hG r hr'
      have cr : (nI r).toNatClampNeg = r := nI_clamp (by omega)
      have cl : (nI (rg_l g r)).toNatClampNeg = rg_l g r := nI_clamp (by omega)
      have hC : bt (a_followSets (rg_l g r)) t = true ↔ cs_C1 g t (r * 5 + rg_c g r) := by
        have e : (r * 5 + rg_c g r) / 5 = r := by omega
        unfold cs_C1
        rw [e]
        by_cases e9 : r = 9
        · rw [if_pos e9, e9, hg.2.2.1, hW.2]
        · rw [if_neg e9]
          rcases z with z | z
          · have l := hg.2.1 r z.1
            exact hW.1 _ _ l.1 l.2.1
          · exact absurd z e9
      have same : ∀ k, k / 5 = r → k % 5 = rg_c g (k / 5) → k = r * 5 + rg_c g r := by
        intro k e1 e2
        rw [e1] at e2
        omega
      refine br_f (by decide) ⟨vp_in_nI (by omega) (by decide), ?_⟩
      rw [cr, g1]
      refine ⟨vp_in_nI (by omega) (by decide), ?_⟩
      rw [cl]
      refine br_c (fun y => ⟨vp_in_nI (by omega) (by decide), ?_⟩) (fun y => nm_r (nI_1 r) (hk m fun k hk' => ?_))
      · have y := hC.mp ((b_test _ (n := t) (by omega)).mp y)
        rw [g2, ix_5]
        refine nm_e (nm_r (nI_1 r) (hk _ fun k hk' => ?_))
        rw [bl_or, Bool.or_eq_true, hm k hk', bl_one _ (by omega), decide_eq_true_eq]
        constructor
        · rintro (q | q) w
          · have := q w
            exact ⟨by omega, this.2⟩
          · rw [q]
            exact ⟨by omega, y⟩
        · intro q
          by_cases e : k = r * 5 + rg_c g r
          · exact Or.inr e
          · refine Or.inl fun w => ?_
            have := q w
            have ne : k / 5 ≠ r := fun e1 => e (same k e1 w)
            exact ⟨by omega, this.2⟩
      · have y : ¬ cs_C1 g t (r * 5 + rg_c g r) := fun w => y ((b_test _ (by omega)).mpr (hC.mpr w))
        rw [hm k hk']
        constructor
        · intro q w
          have := q w
          exact ⟨by omega, this.2⟩
        · intro q w
          have := q w
          have ne : k / 5 ≠ r := fun e1 => y (by rw [← same k e1 w]; exact this.2)
          exact ⟨by omega, this.2⟩
    · have z : ¬ xu_U g r := fun y => z ((b_test f_rulesInUse (by omega)).mpr ((hU r).mpr y))
      refine br_t rfl (nm_r (nI_1 r) (hk m fun k hk' => ?_))
      rw [hm k hk']
      constructor
      · intro q w
        have := q w
        exact ⟨by omega, this.2⟩
      · intro q w
        have := q w
        have ne : k / 5 ≠ r := fun e1 => z (by rw [← e1]; exact hk'.1)
        exact ⟨by omega, this.2⟩
/-! spreading: A the looks so far -/
def sp_in (g : rg_T) (f : Nat → Int64) (n : Nat) (A : Nat → Int64) : Prop := ∀ s t k, s < n → t < 4 → bl (A (s * 4 + t)) k = true → la_L g f n s t k
def sp_cl (g : rg_T) (A : Nat → Int64) (s : Nat) : Prop := cw_cl g (fun t k => t < 4 ∧ bl (A (s * 4 + t)) k = true)
def sp_ps (g : rg_T) (f : Nat → Int64) (n : Nat) (A : Nat → Int64) (s x : Nat) : Prop := ∀ s' t k, s' < n → tb_to g (f s) x = some (f s') → t < 4 → bl (A (s * 4 + t)) k = true → im_nx g k x → bl (A (s' * 4 + t)) (k + 1) = true
def sp_le (n : Nat) (A B : Nat → Int64) : Prop := ∀ s t k, s < n → t < 4 → bl (A (s * 4 + t)) k = true → bl (B (s * 4 + t)) k = true
noncomputable def sp_c (n : Nat) (A : Nat → Int64) : Nat := cn_c (fun i => i / 188 < n ∧ bl (A (i / 188 * 4 + i % 188 / 47)) (i % 47) = true) 11280
theorem sp_mono {n : Nat} {A B : Nat → Int64} (h : sp_le n A B) : sp_c n A ≤ sp_c n B := cn_mono fun i _ z => ⟨z.1, h _ _ _ z.1 (by omega) z.2⟩
theorem sp_lt {n : Nat} (hn : n ≤ 60) {A B : Nat → Int64} (h : sp_le n A B) {s t k : Nat} (hs : s < n) (ht : t < 4) (hk : k < 47) (h1 : ¬ bl (A (s * 4 + t)) k = true) (h2 : bl (B (s * 4 + t)) k = true) : sp_c n A < sp_c n B := by
  have e1 : (s * 188 + t * 47 + k) / 188 = s := by omega
  have e2 : (s * 188 + t * 47 + k) % 188 / 47 = t := by omega
  have e3 : (s * 188 + t * 47 + k) % 47 = k := by omega
  exact cn_lt (a := s * 188 + t * 47 + k) (by rw [e1, e2, e3]; exact fun z => h1 z.2) (by rw [e1, e2, e3]; exact ⟨hs, h2⟩) (fun i _ z => ⟨z.1, h _ _ _ z.1 (by omega) z.2⟩) (by omega)
theorem sp_io (hg : rg_ok g) {f : Nat → Int64} {n : Nat} (hf : tb_full g f n) {A : Nat → Int64} (h : sp_in g f n A) {s : Nat} (hs : s < n) : xo_io g (fun t => A (s * 4 + t)) := by
  intro t k ht hk
  have l := h s t k hs ht hk
  have i := la_in hg hf l
  exact ⟨tb_fio hg hf hs k i.2.1, i.2.2.1, i.2.2.2⟩
theorem xw_passLooks (hg : rg_ok g) (hI : xi_I g 10 a_nextItems a_openItems a_restItems) {f : Nat → Int64} {n s : Nat} (hn : n ≤ 60) (hf : tb_full g f n) (hs : s < n) (hst : ∀ x, x < 7 → xt_1 (tb_to g) f n (a_stateSteps (s * 7 + x)) s x) (hA : sp_in g f n a_stateLooks) {post : Int32 → SX → Prop}
    (h0 : (∀ x, x < 7 → sp_ps g f n a_stateLooks s x) → post 0 (f_depth, f_made, f_textLength, f_tokenCount, f_wrongPlace, f_ruleCount, f_prepared, f_rulesInUse, f_stateCount, f_wideCount, f_gradeFound, f_readHeight, f_tokensTaken, f_usedCount, a_spotCounts, a_ends, a_arrows, a_takers, a_groups, a_marks, a_text, a_tokenKinds, a_tokenLengths, a_lefts, a_rights, a_rightSizes, a_beginSets, a_followSets, a_nextItems, a_openItems, a_restItems, a_stateItems, a_stateSteps, a_stateLooks, a_wideSteps, a_wideLooks, a_readStates, a_readValues, a_usedRules)) (h1 : ∀ A, sp_le n a_stateLooks A → sp_in g f n A → sp_c n a_stateLooks < sp_c n A → post 1 (f_depth, f_made, f_textLength, f_tokenCount, f_wrongPlace, f_ruleCount, f_prepared, f_rulesInUse, f_stateCount, f_wideCount, f_gradeFound, f_readHeight, f_tokensTaken, f_usedCount, a_spotCounts, a_ends, a_arrows, a_takers, a_groups, a_marks, a_text, a_tokenKinds, a_tokenLengths, a_lefts, a_rights, a_rightSizes, a_beginSets, a_followSets, a_nextItems, a_openItems, a_restItems, a_stateItems, a_stateSteps, A, a_wideSteps, a_wideLooks, a_readStates, a_readValues, a_usedRules)) : wpX_passLooks post (f_depth, f_made, f_textLength, f_tokenCount, f_wrongPlace, f_ruleCount, f_prepared, f_rulesInUse, f_stateCount, f_wideCount, f_gradeFound, f_readHeight, f_tokensTaken, f_usedCount, a_spotCounts, a_ends, a_arrows, a_takers, a_groups, a_marks, a_text, a_tokenKinds, a_tokenLengths, a_lefts, a_rights, a_rightSizes, a_beginSets, a_followSets, a_nextItems, a_openItems, a_restItems, a_stateItems, a_stateSteps, a_stateLooks, a_wideSteps, a_wideLooks, a_readStates, a_readValues, a_usedRules) (nI s) := by
  refine loop_0 (fun fu x σ => wX_passLooks_4 post (nI s) f_depth f_made f_textLength f_tokenCount f_wrongPlace f_ruleCount f_prepared f_rulesInUse f_stateCount f_wideCount f_gradeFound f_readHeight f_tokensTaken f_usedCount fu σ.1 (nI x) a_spotCounts a_ends a_arrows a_takers a_groups a_marks a_text a_tokenKinds a_tokenLengths a_lefts a_rights a_rightSizes a_beginSets a_followSets a_nextItems a_openItems a_restItems a_stateItems a_stateSteps σ.2 a_wideSteps a_wideLooks a_readStates a_readValues a_usedRules) (fun x σ => sp_le n a_stateLooks σ.2 ∧ sp_in g f n σ.2 ∧ ((σ.1 = 0 ∧ σ.2 = a_stateLooks ∧ ∀ x', x' < x → sp_ps g f n a_stateLooks s x') ∨ (σ.1 = 1 ∧ sp_c n a_stateLooks < sp_c n σ.2))) 7 ((0 : Int32), a_stateLooks) ⟨fun _ _ _ _ _ z => z, hA, Or.inl ⟨rfl, rfl, fun x' q => absurd q (Nat.not_lt_zero _)⟩⟩ ?_ ?_
  · rintro fu ⟨c, A⟩ ⟨a1, a2, a3⟩
    refine br_t (nI_le (Nat.le_refl 7) (by decide)) ?_
    rcases a3 with ⟨e1, e2, e3⟩ | ⟨e1, e2⟩
    · have e1 : c = 0 := e1
      have e2 : A = a_stateLooks := e2
      subst e1 e2
      exact ⟨nb_0, h0 e3⟩
    · have e1 : c = 1 := e1
      subst e1
      exact ⟨nb_1, h1 A a1 a2 e2⟩
  · rintro fu x ⟨c, A⟩ hx ⟨a1, a2, a3⟩ hk
    have a1 : sp_le n a_stateLooks A := a1
    have a2 : sp_in g f n A := a2
    have a3 : (c = 0 ∧ A = a_stateLooks ∧ ∀ x', x' < x → sp_ps g f n a_stateLooks s x') ∨ (c = 1 ∧ sp_c n a_stateLooks < sp_c n A) := a3
    have cx : (nI x).toNatClampNeg = x := nI_clamp (by omega)
    refine br_f (nI_ge hx (by decide)) ⟨pk_in (s * 7 + x) 420 (by omega) (ix_7 s x), nm_r (e' := a_stateSteps (s * 7 + x)) (by rw [pk_cl (s * 7 + x) (ix_7 s x)]) ?_⟩
    -- when nothing was wanting over x
    have done : (c = 0 → A = a_stateLooks → sp_ps g f n a_stateLooks s x) → wX_passLooks_4 post (nI s) f_depth f_made f_textLength f_tokenCount f_wrongPlace f_ruleCount f_prepared f_rulesInUse f_stateCount f_wideCount f_gradeFound f_readHeight f_tokensTaken f_usedCount fu c (nI (x + 1)) a_spotCounts a_ends a_arrows a_takers a_groups a_marks a_text a_tokenKinds a_tokenLengths a_lefts a_rights a_rightSizes a_beginSets a_followSets a_nextItems a_openItems a_restItems a_stateItems a_stateSteps A a_wideSteps a_wideLooks a_readStates a_readValues a_usedRules := by
      intro z
      refine hk (c, A) ⟨a1, a2, ?_⟩
      rcases a3 with ⟨e1, e2, e3⟩ | e
      · refine Or.inl ⟨e1, e2, fun x' hx' => ?_⟩
        by_cases e : x' = x
        · subst e; exact z e1 e2
        · exact e3 x' (by omega)
      · exact Or.inr e
    rcases hst x hx with ⟨w1, w2⟩ | ⟨s', w0, w1, w2⟩
    · rw [w2]
      refine ⟨1, br_f (by decide) (br_t rfl (nm_r (nI_1 x) (done fun _ _ s' t k _ q => ?_)))⟩
      rw [w1] at q; cases q
    · rw [w2]
      refine loop_0 (fun fu' t σ => wX_passLooks_26 post (wX_passLooks_4 post (nI s) f_depth f_made f_textLength f_tokenCount f_wrongPlace f_ruleCount f_prepared f_rulesInUse f_stateCount f_wideCount f_gradeFound f_readHeight f_tokensTaken f_usedCount fu) (nI s) (nI x) (nI s') f_depth f_made f_textLength f_tokenCount f_wrongPlace f_ruleCount f_prepared f_rulesInUse f_stateCount f_wideCount f_gradeFound f_readHeight f_tokensTaken f_usedCount fu' σ.1 (nI t) a_spotCounts a_ends a_arrows a_takers a_groups a_marks a_text a_tokenKinds a_tokenLengths a_lefts a_rights a_rightSizes a_beginSets a_followSets a_nextItems a_openItems a_restItems a_stateItems a_stateSteps σ.2 a_wideSteps a_wideLooks a_readStates a_readValues a_usedRules) (fun t σ => sp_le n A σ.2 ∧ sp_in g f n σ.2 ∧ ((σ.1 = c ∧ σ.2 = A ∧ ∀ t' k, t' < t → bl (A (s * 4 + t')) k = true → im_nx g k x → bl (A (s' * 4 + t')) (k + 1) = true) ∨ (σ.1 = 1 ∧ sp_c n A < sp_c n σ.2))) 4 (c, A) ⟨fun _ _ _ _ _ z => z, a2, Or.inl ⟨rfl, rfl, fun t' k q => absurd q (Nat.not_lt_zero _)⟩⟩ ?_ ?_
      · rintro fu' ⟨c2, B⟩ ⟨b1, b2, b3⟩
        refine br_t (nI_le (Nat.le_refl 4) (by decide)) (nm_r (nI_1 x) ?_)
        rcases b3 with ⟨e1, e2, e3⟩ | ⟨e1, e2⟩
        · have e1 : c2 = c := e1
          have e2 : B = A := e2
          subst e1 e2
          refine done fun q1 q2 s2 t k q3 q4 q5 q6 q7 => ?_
          have es : s2 = s' := hf.2.2.1 s2 s' q3 w0 (by rw [w1] at q4; exact (Option.some.inj q4).symm)
          subst es
          rw [q2] at e3
          exact e3 t k q5 q6 q7
        · have e2 : sp_c n A < sp_c n B := e2
          have e1 : c2 = 1 := e1
          refine hk (c2, B) ⟨fun s t k q1 q2 q3 => b1 s t k q1 q2 (a1 s t k q1 q2 q3), b2, Or.inr ⟨e1, ?_⟩⟩
          have := sp_mono a1
          show sp_c n a_stateLooks < sp_c n B
          omega
      · rintro fu' t ⟨c2, B⟩ ht ⟨b1, b2, b3⟩ hk2
        have b1 : sp_le n A B := b1
        have b2 : sp_in g f n B := b2
        have b3 : (c2 = c ∧ B = A ∧ ∀ t' k, t' < t → bl (A (s * 4 + t')) k = true → im_nx g k x → bl (A (s' * 4 + t')) (k + 1) = true) ∨ (c2 = 1 ∧ sp_c n A < sp_c n B) := b3
        have ioB : tb_io g (B (s * 4 + t)) := fun k hk => (sp_io hg hf b2 hs t k ht hk).1
        have mv := fun k => xm_mv hI hg ioB hx k
        have is' : vp_in (nI s' * 4 + nI t) 240 := pk_in (s' * 4 + t) 240 (by omega) (ix_4 s' t)
        have cs' : (nI s' * 4 + nI t).toNatClampNeg = s' * 4 + t := pk_cl (s' * 4 + t) (ix_4 s' t)
        refine br_f (nI_ge ht (by decide)) (br_f (ne_neg (by omega) (by decide)) ⟨pk_in (s * 4 + t) 240 (by omega) (ix_4 s t), vp_in_nI (by omega) (by decide), nm_r (e' := (B (s * 4 + t) &&& a_nextItems x) <<< ((1 : Int32).toInt64 &&& 63)) (by rw [pk_cl (s * 4 + t) (ix_4 s t), cx]) ⟨is', ?_⟩⟩)
        rw [cs']
        have sub : ((B (s * 4 + t) &&& a_nextItems x) <<< ((1 : Int32).toInt64 &&& 63)) &&& (B (s' * 4 + t) ^^^ (-1)) = 0 ↔ ∀ k, tb_mv g (B (s * 4 + t)) x k → bl (B (s' * 4 + t)) k = true := by
          rw [bl_zero]
          constructor
          · intro w k hk'
            have k64 : k < 64 := by have := im_lt hg (tb_mv_ok hg ioB hk'); omega
            have := w k k64
            rw [bl_and, bl_not _ k64, (mv k).mpr hk'] at this
            cases e : bl (B (s' * 4 + t)) k
            · rw [e] at this; cases this
            · rfl
          · intro w k k64
            rw [bl_and, bl_not _ k64]
            cases e : bl ((B (s * 4 + t) &&& a_nextItems x) <<< ((1 : Int32).toInt64 &&& 63)) k
            · rfl
            · rw [w k ((mv k).mp e)]; rfl
        refine br_c (fun z => nm_r (nI_1 t) (hk2 (c2, B) ⟨b1, b2, ?_⟩)) (fun z => ⟨is', is', ?_⟩)
        · have z := sub.mp z
          rcases b3 with ⟨e1, e2, e3⟩ | e
          · refine Or.inl ⟨e1, e2, fun t' k ht' q1 q2 => ?_⟩
            by_cases e : t' = t
            · subst e
              have e2 : B = A := e2
              rw [e2] at z
              exact z (k + 1) ⟨k, rfl, q1, q2⟩
            · exact e3 t' k (by omega) q1 q2
          · exact Or.inr e
        · have : ∃ k, tb_mv g (B (s * 4 + t)) x k ∧ ¬ bl (B (s' * 4 + t)) k = true := by
            refine Classical.byContradiction fun q => z (sub.mpr fun k hk' => ?_)
            exact Classical.byContradiction fun q2 => q ⟨k, hk', q2⟩
          obtain ⟨k0, z1, z2⟩ := this
          have e : ∀ j k, bl (vp_updL B (s' * 4 + t) (B (s' * 4 + t) ||| (B (s * 4 + t) &&& a_nextItems x) <<< ((1 : Int32).toInt64 &&& 63)) j) k = true ↔ bl (B j) k = true ∨ (j = s' * 4 + t ∧ tb_mv g (B (s * 4 + t)) x k) := by
            intro j k
            by_cases w : j = s' * 4 + t
            · subst w
              rw [pk_uLs, bl_or, Bool.or_eq_true, mv k]
              exact ⟨fun q => q.imp id (fun q => ⟨rfl, q⟩), fun q => q.imp id (fun q => q.2)⟩
            · rw [pk_uLn w]
              exact ⟨Or.inl, fun q => by
                rcases q with q | q
                · exact q
                · exact absurd q.1 w⟩
          have le2 : sp_le n B (vp_updL B (s' * 4 + t) (B (s' * 4 + t) ||| (B (s * 4 + t) &&& a_nextItems x) <<< ((1 : Int32).toInt64 &&& 63))) := fun _ _ k _ _ q => (e _ k).mpr (Or.inl q)
          refine nm_e (nm_r (nI_1 t) (hk2 (1, vp_updL B (s' * 4 + t) (B (s' * 4 + t) ||| (B (s * 4 + t) &&& a_nextItems x) <<< ((1 : Int32).toInt64 &&& 63))) ⟨fun s2 t2 k q1 q2 q3 => le2 s2 t2 k q1 q2 (b1 s2 t2 k q1 q2 q3), fun s2 t2 k q1 q2 q3 => ?_, Or.inr ⟨rfl, ?_⟩⟩))
          · rcases (e _ k).mp q3 with q | ⟨q4, i, rfl, q5, q6⟩
            · exact b2 s2 t2 k q1 q2 q
            · have es : s2 = s' := by omega
              have et : t2 = t := by omega
              subst es et
              exact (la_self g f n).2.2 s t2 i x s2 hs w0 (b2 s t2 i hs ht q5) q6 w1
          · have lt := sp_lt hn le2 (s := s') (t := t) (k := k0) w0 ht (im_lt hg (tb_mv_ok hg ioB z1)) z2 ((e _ _).mpr (Or.inr ⟨rfl, z1⟩))
            have := sp_mono b1
            show sp_c n A < sp_c n (vp_updL B (s' * 4 + t) (B (s' * 4 + t) ||| (B (s * 4 + t) &&& a_nextItems x) <<< ((1 : Int32).toInt64 &&& 63)))
            omega
/-- the looks: the least spread -/
def sp_ok (g : rg_T) (f : Nat → Int64) (n : Nat) (A : Nat → Int64) : Prop := ∀ s t k, s < n → t < 4 → (bl (A (s * 4 + t)) k = true ↔ la_L g f n s t k)
theorem sp_end {f : Nat → Int64} {n : Nat} (hn : 1 ≤ n) {A : Nat → Int64} (h0 : bl (A 3) 45 = true) (hin : sp_in g f n A) (hc : ∀ s, s < n → sp_cl g A s) (hp : ∀ s x, s < n → x < 7 → sp_ps g f n A s x) (h7 : ∀ k x, im_nx g k x → (∃ s t, s < n ∧ t < 4 ∧ bl (A (s * 4 + t)) k = true) → x < 7) : sp_ok g f n A := by
  intro s t k hs ht
  refine ⟨hin s t k hs ht, fun z => ?_⟩
  have := z (fun s t k => s < n ∧ t < 4 ∧ bl (A (s * 4 + t)) k = true) ⟨⟨hn, by omega, h0⟩, fun s hs t k r t' q1 q2 q3 q4 => ?_, fun s t k x s' q1 q2 q3 q4 q5 => ⟨q2, q3.2.1, hp s x q1 (h7 k x q4 ⟨s, t, q1, q3.2⟩) s' t k q2 q5 q3.2.1 q3.2.2 q4⟩⟩
  · exact this.2.2
  · have := hc s hs t k r t' q1.2 q2 q3 q4
    exact ⟨hs, this⟩
/-- one round -/
def sp_I (g : rg_T) (f : Nat → Int64) (n : Nat) (A : Nat → Int64) (s : Nat) (σ : Int32 × (Nat → Int64)) : Prop := sp_le n A σ.2 ∧ sp_in g f n σ.2 ∧ bl (σ.2 3) 45 = true ∧ ((σ.1 = 0 ∧ (∀ s', s' < s → sp_cl g σ.2 s') ∧ (∀ s' x, s' < s → x < 7 → sp_ps g f n σ.2 s' x)) ∨ (σ.1 = 1 ∧ sp_c n A < sp_c n σ.2))
theorem sp_I0 {f : Nat → Int64} {n : Nat} {A : Nat → Int64} (h1 : sp_in g f n A) (h0 : bl (A 3) 45 = true) : sp_I g f n A 0 ((0 : Int32), A) := ⟨fun _ _ _ _ _ z => z, h1, h0, Or.inl ⟨rfl, fun s' q => absurd q (Nat.not_lt_zero _), fun s' x q => absurd q (Nat.not_lt_zero _)⟩⟩
theorem xw_spreadRound (hg : rg_ok g) (hI : xi_I g 10 a_nextItems a_openItems a_restItems) {f : Nat → Int64} {n q : Nat} (hn : n ≤ 60) (hf : tb_full g f n) (hst : ∀ s x, s < n → x < 7 → xt_1 (tb_to g) f n (a_stateSteps (s * 7 + x)) s x) {A : Nat → Int64} (h1 : sp_in g f n A) (h0 : bl (A 3) 45 = true) {post : SX → Prop} {J : Int32 → Int32 → Int32 → Int32 → Int32 → Int32 → Int32 → Int32 → Int32 → Int32 → Int32 → Int32 → Int32 → Int32 → Int32 → Int32 → (Nat → Int32) → (Nat → Int32) → (Nat → Int32) → (Nat → Int32) → (Nat → Int32) → (Nat → Int32) → (Nat → Int32) → (Nat → Int32) → (Nat → Int32) → (Nat → Int32) → (Nat → Int32) → (Nat → Int32) → (Nat → Int32) → (Nat → Int32) → (Nat → Int64) → (Nat → Int64) → (Nat → Int64) → (Nat → Int64) → (Nat → Int32) → (Nat → Int64) → (Nat → Int32) → (Nat → Int64) → (Nat → Int32) → (Nat → Int32) → (Nat → Int32) → Prop}
    (hJ : ∀ (c : Int32) (B : Nat → Int64), bl (B 3) 45 = true → sp_in g f n B → ((c = 0 ∧ (∀ s', s' < n → sp_cl g B s') ∧ (∀ s' x, s' < n → x < 7 → sp_ps g f n B s' x)) ∨ (c = 1 ∧ sp_c n A < sp_c n B)) → J c (nI (q + 1)) f_depth f_made f_textLength f_tokenCount f_wrongPlace f_ruleCount f_prepared f_rulesInUse (nI n) f_wideCount f_gradeFound f_readHeight f_tokensTaken f_usedCount a_spotCounts a_ends a_arrows a_takers a_groups a_marks a_text a_tokenKinds a_tokenLengths a_lefts a_rights a_rightSizes a_beginSets a_followSets a_nextItems a_openItems a_restItems a_stateItems a_stateSteps B a_wideSteps a_wideLooks a_readStates a_readValues a_usedRules) : ∃ fu, wX_spreadLooks_47 post J (nI q) fu 0 0 f_depth f_made f_textLength f_tokenCount f_wrongPlace f_ruleCount f_prepared f_rulesInUse (nI n) f_wideCount f_gradeFound f_readHeight f_tokensTaken f_usedCount a_spotCounts a_ends a_arrows a_takers a_groups a_marks a_text a_tokenKinds a_tokenLengths a_lefts a_rights a_rightSizes a_beginSets a_followSets a_nextItems a_openItems a_restItems a_stateItems a_stateSteps A a_wideSteps a_wideLooks a_readStates a_readValues a_usedRules := by
  refine loop_0 (fun fu s σ => wX_spreadLooks_47 post J (nI q) fu σ.1 (nI s) f_depth f_made f_textLength f_tokenCount f_wrongPlace f_ruleCount f_prepared f_rulesInUse (nI n) f_wideCount f_gradeFound f_readHeight f_tokensTaken f_usedCount a_spotCounts a_ends a_arrows a_takers a_groups a_marks a_text a_tokenKinds a_tokenLengths a_lefts a_rights a_rightSizes a_beginSets a_followSets a_nextItems a_openItems a_restItems a_stateItems a_stateSteps σ.2 a_wideSteps a_wideLooks a_readStates a_readValues a_usedRules) (fun s σ => sp_I g f n A s σ) n ((0 : Int32), A) (sp_I0 h1 h0) ?_ ?_
  · rintro fu ⟨c2, B⟩ ⟨b1, b2, b0, b3⟩
    refine br_t (nI_le (Nat.le_refl _) (by omega)) (nm_r (nI_1 q) (hJ c2 B b0 b2 b3))
  · rintro fu s ⟨c2, B⟩ hs ⟨b1, b2, b0, b3⟩ hk
    have b1 : sp_le n A B := b1
    have b2 : sp_in g f n B := b2
    have b0 : bl (B 3) 45 = true := b0
    have b3 : (c2 = 0 ∧ (∀ s', s' < s → sp_cl g B s') ∧ (∀ s' x, s' < s → x < 7 → sp_ps g f n B s' x)) ∨ (c2 = 1 ∧ sp_c n A < sp_c n B) := b3
    refine br_f (nI_ge hs (by omega)) ?_
    rw [show nI s * 4 = nI (s * 4) from pk_mul s 4]
    have ioB := sp_io hg hf b2 hs
    refine xw_closeP_stateLooks (a_stateLooks := B) hg hI (by omega) ioB ?_
    -- the closed looks
    have lin : ∀ t k, xo_S (fun t => B (s * 4 + t)) t k → tw_in g t k := fun t k z => ioB t k z.1 z.2
    have eC : ∀ t, t < 4 → ∀ k, bl (ax_set B (s * 4) 4 (fun t => mk_l (cw_0 g (xo_S (fun t => B (s * 4 + t))) t)) (s * 4 + t)) k = true ↔ cw_0 g (xo_S (fun t => B (s * 4 + t))) t k := by
      intro t ht k
      rw [ax_in ht]
      have := tw_mk hg lin ht k
      rw [w4_tm ht] at this
      exact this
    have eO : ∀ s2 t, s2 ≠ s → t < 4 → ax_set B (s * 4) 4 (fun t => mk_l (cw_0 g (xo_S (fun t => B (s * 4 + t))) t)) (s2 * 4 + t) = B (s2 * 4 + t) := fun s2 t hne ht => ax_out (by omega)
    have cle : sp_le n B (ax_set B (s * 4) 4 (fun t => mk_l (cw_0 g (xo_S (fun t => B (s * 4 + t))) t))) := by
      intro s2 t k q1 q2 q3
      by_cases e : s2 = s
      · subst e; exact (eC t q2 k).mpr (cw_sub ⟨q2, q3⟩)
      · rw [eO s2 t e q2]; exact q3
    have cin : sp_in g f n (ax_set B (s * 4) 4 (fun t => mk_l (cw_0 g (xo_S (fun t => B (s * 4 + t))) t))) := by
      intro s2 t k q1 q2 q3
      by_cases e : s2 = s
      · subst e
        exact (eC t q2 k).mp q3 (la_L g f n s2) (fun t k z => b2 s2 t k q1 z.1 z.2) ((la_self g f n).2.1 s2 q1)
      · rw [eO s2 t e q2] at q3; exact b2 s2 t k q1 q2 q3
    have ccl : sp_cl g (ax_set B (s * 4) 4 (fun t => mk_l (cw_0 g (xo_S (fun t => B (s * 4 + t))) t))) s := by
      intro t k r t' q1 q2 q3 q4
      have ht' : t' < 4 := by have := fs_t_le (t := t) (by omega) q4; omega
      exact ⟨ht', (eC t' ht' _).mpr (cw_self g _ t k r t' ((eC t q1.1 k).mp q1.2) q2 q3 q4)⟩
    have c45 : bl (ax_set B (s * 4) 4 (fun t => mk_l (cw_0 g (xo_S (fun t => B (s * 4 + t))) t)) 3) 45 = true := cle 0 3 45 hf.1 (by omega) b0
    have old_cl : ∀ s', s' < s → sp_cl g B s' → sp_cl g (ax_set B (s * 4) 4 (fun t => mk_l (cw_0 g (xo_S (fun t => B (s * 4 + t))) t))) s' := by
      intro s' hs' z t k r t' q1 q2 q3 q4
      rw [eO s' t (by omega) q1.1] at q1
      have := z t k r t' q1 q2 q3 q4
      exact ⟨this.1, by rw [eO s' t' (by omega) this.1]; exact this.2⟩
    have old_ps : ∀ s' x, s' < s → sp_ps g f n B s' x → sp_ps g f n (ax_set B (s * 4) 4 (fun t => mk_l (cw_0 g (xo_S (fun t => B (s * 4 + t))) t))) s' x := by
      intro s' x hs' z s2 t k q1 q2 q3 q4 q5
      rw [eO s' t (by omega) q3] at q4
      exact cle s2 t _ q1 q3 (z s2 t k q1 q2 q3 q4 q5)
    generalize ax_set B (s * 4) 4 (fun t => mk_l (cw_0 g (xo_S (fun t => B (s * 4 + t))) t)) = C at cle cin ccl c45 old_cl old_ps ⊢
    refine xw_passLooks (a_stateLooks := C) hg hI hn hf hs (hst s · hs) cin (fun z => br_t rfl (nm_r (nI_1 s) (hk (c2, C) ⟨fun s2 t k q1 q2 q3 => cle s2 t k q1 q2 (b1 s2 t k q1 q2 q3), cin, c45, ?_⟩))) (fun D d1 d2 d3 => br_f (by decide) (nm_r (nI_1 s) (hk (1, D) ⟨fun s2 t k q1 q2 q3 => d1 s2 t k q1 q2 (cle s2 t k q1 q2 (b1 s2 t k q1 q2 q3)), d2, d1 0 3 45 hf.1 (by omega) c45, Or.inr ⟨rfl, ?_⟩⟩)))
    · rcases b3 with ⟨e1, e2, e3⟩ | ⟨e1, e2⟩
      · refine Or.inl ⟨e1, fun s' hs' => ?_, fun s' x hs' hx => ?_⟩
        · by_cases e : s' = s
          · subst e; exact ccl
          · exact old_cl s' (by omega) (e2 s' (by omega))
        · by_cases e : s' = s
          · subst e; exact z x hx
          · exact old_ps s' x (by omega) (e3 s' x (by omega) hx)
      · refine Or.inr ⟨e1, ?_⟩
        have := sp_mono cle
        show sp_c n A < sp_c n C
        omega
    · have m1 := sp_mono cle
      have m2 := sp_mono b1
      show sp_c n A < sp_c n D
      omega
theorem xw_spreadLooks (hg : rg_ok g) (hI : xi_I g 10 a_nextItems a_openItems a_restItems) {f : Nat → Int64} {n : Nat} (hn : n ≤ 60) (hf : tb_full g f n) (hst : ∀ s x, s < n → x < 7 → xt_1 (tb_to g) f n (a_stateSteps (s * 7 + x)) s x) {post : SX → Prop} (h : ∀ A, sp_ok g f n A → post (f_depth, f_made, f_textLength, f_tokenCount, f_wrongPlace, f_ruleCount, f_prepared, f_rulesInUse, (nI n), f_wideCount, f_gradeFound, f_readHeight, f_tokensTaken, f_usedCount, a_spotCounts, a_ends, a_arrows, a_takers, a_groups, a_marks, a_text, a_tokenKinds, a_tokenLengths, a_lefts, a_rights, a_rightSizes, a_beginSets, a_followSets, a_nextItems, a_openItems, a_restItems, a_stateItems, a_stateSteps, A, a_wideSteps, a_wideLooks, a_readStates, a_readValues, a_usedRules)) : wpX_spreadLooks post (f_depth, f_made, f_textLength, f_tokenCount, f_wrongPlace, f_ruleCount, f_prepared, f_rulesInUse, (nI n), f_wideCount, f_gradeFound, f_readHeight, f_tokensTaken, f_usedCount, a_spotCounts, a_ends, a_arrows, a_takers, a_groups, a_marks, a_text, a_tokenKinds, a_tokenLengths, a_lefts, a_rights, a_rightSizes, a_beginSets, a_followSets, a_nextItems, a_openItems, a_restItems, a_stateItems, a_stateSteps, a_stateLooks, a_wideSteps, a_wideLooks, a_readStates, a_readValues, a_usedRules) := by
  have fin : ∀ A, bl (A 3) 45 = true → sp_in g f n A → (∀ s, s < n → sp_cl g A s) → (∀ s x, s < n → x < 7 → sp_ps g f n A s x) → post (f_depth, f_made, f_textLength, f_tokenCount, f_wrongPlace, f_ruleCount, f_prepared, f_rulesInUse, (nI n), f_wideCount, f_gradeFound, f_readHeight, f_tokensTaken, f_usedCount, a_spotCounts, a_ends, a_arrows, a_takers, a_groups, a_marks, a_text, a_tokenKinds, a_tokenLengths, a_lefts, a_rights, a_rightSizes, a_beginSets, a_followSets, a_nextItems, a_openItems, a_restItems, a_stateItems, a_stateSteps, A, a_wideSteps, a_wideLooks, a_readStates, a_readValues, a_usedRules) := by
    intro A h0 h1 h2 h3
    refine h A (sp_end hf.1 h0 h1 h2 h3 fun k x hx ⟨s, t, q1, q2, q3⟩ => ?_)
    have io := (sp_io hg hf h1 q1 t k q2 q3).1
    rw [← hx.2]
    exact ((tg_ok hg).2.1 _ io.1).2 _ hx.1
  have key : ∀ d q, q + d = 11281 → ∀ (c : Int32) (A : Nat → Int64), bl (A 3) 45 = true → sp_in g f n A → ((c = 0 ∧ (∀ s, s < n → sp_cl g A s) ∧ (∀ s x, s < n → x < 7 → sp_ps g f n A s x)) ∨ (¬ c = 0 ∧ q ≤ sp_c n A)) → wX_spreadLooks_32 post (d + 1) c (nI q) f_depth f_made f_textLength f_tokenCount f_wrongPlace f_ruleCount f_prepared f_rulesInUse (nI n) f_wideCount f_gradeFound f_readHeight f_tokensTaken f_usedCount a_spotCounts a_ends a_arrows a_takers a_groups a_marks a_text a_tokenKinds a_tokenLengths a_lefts a_rights a_rightSizes a_beginSets a_followSets a_nextItems a_openItems a_restItems a_stateItems a_stateSteps A a_wideSteps a_wideLooks a_readStates a_readValues a_usedRules := by
    intro d
    induction d with
    | zero =>
      intro q hq c A h0 h1 h2
      refine br_t (nI_le (a := 11281) (by omega) (by omega)) ?_
      rcases h2 with ⟨_, h2, h3⟩ | ⟨_, h2⟩
      · exact fin A h0 h1 h2 h3
      · have : sp_c n A ≤ 11280 := cn_le _ 11280
        omega
    | succ d ih =>
      intro q hq c A h0 h1 h2
      refine br_f (nI_ge (b := 11281) (by omega) (by decide)) (br_c (fun z => ?_) (fun z => ?_))
      · rcases h2 with ⟨_, h2, h3⟩ | ⟨h2, _⟩
        · exact fin A h0 h1 h2 h3
        · exact absurd z h2
      · have hq' : q ≤ sp_c n A := by
          rcases h2 with ⟨h2, _⟩ | ⟨_, h2⟩
          · exact absurd h2 z
          · exact h2
        refine xw_spreadRound hg hI hn hf hst h1 h0 (fun c2 B b0 b2 b3 => ih (q + 1) (by omega) c2 B b0 b2 ?_)
        rcases b3 with e | ⟨e1, e2⟩
        · exact Or.inl e
        · exact Or.inr ⟨by rw [e1]; decide, by omega⟩
  refine loop_0 (fun fu t A => wX_spreadLooks_2 post fu (nI t) f_depth f_made f_textLength f_tokenCount f_wrongPlace f_ruleCount f_prepared f_rulesInUse (nI n) f_wideCount f_gradeFound f_readHeight f_tokensTaken f_usedCount a_spotCounts a_ends a_arrows a_takers a_groups a_marks a_text a_tokenKinds a_tokenLengths a_lefts a_rights a_rightSizes a_beginSets a_followSets a_nextItems a_openItems a_restItems a_stateItems a_stateSteps A a_wideSteps a_wideLooks a_readStates a_readValues a_usedRules) (fun t A => ∀ s t', s < n → t' < t → A (s * 4 + t') = 0) 4 a_stateLooks (fun s t' _ q => absurd q (Nat.not_lt_zero _)) ?_ ?_
  · intro fu A hA
    refine br_t (nI_le (Nat.le_refl 4) (by decide)) (nm_e ⟨11282, key 11281 0 rfl 1 _ ?_ ?_ (Or.inr ⟨by decide, by omega⟩)⟩)
    · rw [pk_uLs, bl_45]; rfl
    · intro s t k q1 q2 q3
      by_cases e : s * 4 + t = 3
      · have es : s = 0 := by omega
        have et : t = 3 := by omega
        subst es et
        rw [pk_uLs, bl_45, decide_eq_true_eq] at q3
        subst q3
        exact (la_self g f n).1
      · rw [pk_uLn e, hA s t q1 q2] at q3
        exact absurd q3 (bl_no rfl k)
  · intro fu t A ht hA hk
    refine br_f (nI_ge ht (by decide)) (xw_setStateLooks (a_stateLooks := A) hn ht 0 (fun B b1 b2 => nm_r (nI_1 t) (hk B fun s t' q1 q2 => ?_)))
    by_cases e : t' = t
    · subst e
      rw [b1 s q1, bl_zero]
      intro i _
      rw [bl_and, bl_0]; simp
    · rw [b2 s t' (by omega) e]; exact hA s t' q1 (by omega)
end
end
section
/-! the component's grade, and all that prepare finds -/
variable {f_depth f_made f_textLength f_tokenCount f_wrongPlace f_ruleCount f_prepared f_rulesInUse f_stateCount f_wideCount f_gradeFound f_readHeight f_tokensTaken f_usedCount : Int32} {a_spotCounts a_ends a_arrows a_takers a_groups a_marks a_text a_tokenKinds a_tokenLengths a_lefts a_rights a_rightSizes a_beginSets a_followSets a_stateSteps a_wideSteps a_readStates a_readValues a_usedRules : Nat → Int32} {a_nextItems a_openItems a_restItems a_stateItems a_stateLooks a_wideLooks : Nat → Int64}
section
variable {g : rg_T}
/-- the list of all members, gone through -/
def bf_fin {α : Type} (a0 : α) (to : α → Nat → Option α) (f : Nat → α) (n : Nat) : Prop := ∃ k, bf_at a0 to k = (f, n) ∧ n * 7 ≤ k
theorem bf_one {α : Type} {a0 : α} {to : α → Nat → Option α} {f f' : Nat → α} {n n' : Nat} (h : bf_fin a0 to f n) (h' : bf_fin a0 to f' n') : f = f' ∧ n = n' := by
  obtain ⟨k, e, hk⟩ := h
  obtain ⟨k', e', hk'⟩ := h'
  have s1 := bf_stop (a0 := a0) (to := to) (k := k) (by rw [e]; exact hk) k'
  have s2 := bf_stop (a0 := a0) (to := to) (k := k') (by rw [e']; exact hk') k
  rw [Nat.add_comm k' k, s1, e, e'] at s2
  exact ⟨congrArg Prod.fst s2, congrArg Prod.snd s2⟩
theorem bf_big {α : Type} {a0 : α} {to : α → Nat → Option α} {f : Nat → α} {n k : Nat} (h : bf_fin a0 to f n) : (bf_at a0 to k).2 ≤ n := by
  obtain ⟨k', e, hk'⟩ := h
  have s1 := bf_stop (a0 := a0) (to := to) (k := k') (by rw [e]; exact hk') k
  have m := (bf_mono (a0 := a0) (to := to) k k').1
  rw [Nat.add_comm k k', s1, e] at m
  exact m
theorem fin_full {f : Nat → Int64} {n : Nat} (h : bf_fin (tb_a0 g) (tb_to g) f n) : tb_full g f n := by
  obtain ⟨k, e, hk⟩ := h
  have := bf_full (a0 := tb_a0 g) (to := tb_to g) (k := k) (by rw [e]; exact hk)
  rw [e] at this
  exact this
theorem fin_fullw {f : Nat → w4_T} {n : Nat} (h : bf_fin (tw_a0 g) (tw_to g) f n) : tw_full g f n := by
  obtain ⟨k, e, hk⟩ := h
  have := bf_full (a0 := tw_a0 g) (to := tw_to g) (k := k) (by rw [e]; exact hk)
  rw [e] at this
  exact this
/-- the wide states: too many, or all -/
def wz_L (g : rg_T) : Prop := ∃ k, 80 < (wb_B g k).2
def gd_R (g : rg_T) (f : Nat → Int64) (n : Nat) (r : Int32) : Prop :=
  (¬ cs_0 g f n ∧ r = 0) ∨ (cs_0 g f n ∧ ¬ cs_1 g f n ∧ r = 1) ∨ (cs_0 g f n ∧ cs_1 g f n ∧ ¬ cs_2 g f n ∧ r = 2) ∨ (cs_0 g f n ∧ cs_1 g f n ∧ cs_2 g f n ∧ wz_L g ∧ r = -5) ∨
  (cs_0 g f n ∧ cs_1 g f n ∧ cs_2 g f n ∧ ∃ fw nw, bf_fin (tw_a0 g) (tw_to g) fw nw ∧ nw ≤ 80 ∧ ((¬ cs_3 g fw nw ∧ r = 3) ∨ (cs_3 g fw nw ∧ r = 4)))
theorem gd_one {f : Nat → Int64} {n : Nat} {r r' : Int32} (h : gd_R g f n r) (h' : gd_R g f n r') : r = r' := by
  have nl : ∀ fw nw, bf_fin (tw_a0 g) (tw_to g) fw nw → nw ≤ 80 → ¬ wz_L g := by
    intro fw nw h1 h2 ⟨k, hk⟩
    have := bf_big (k := k) h1
    have hk : 80 < (bf_at (tw_a0 g) (tw_to g) k).2 := hk
    omega
  rcases h with ⟨a1, e⟩ | ⟨a1, a2, e⟩ | ⟨a1, a2, a3, e⟩ | ⟨a1, a2, a3, a4, e⟩ | ⟨a1, a2, a3, fw, nw, a4, a5, a6⟩ <;>
  rcases h' with ⟨b1, e'⟩ | ⟨b1, b2, e'⟩ | ⟨b1, b2, b3, e'⟩ | ⟨b1, b2, b3, b4, e'⟩ | ⟨b1, b2, b3, fw', nw', b4, b5, b6⟩ <;>
  first
  | exact e.trans e'.symm
  | exact absurd b1 a1
  | exact absurd a1 b1
  | exact absurd b2 a2
  | exact absurd a2 b2
  | exact absurd b3 a3
  | exact absurd a3 b3
  | exact absurd a4 (nl _ _ b4 b5)
  | exact absurd b4 (nl _ _ a4 a5)
  | (obtain ⟨rfl, rfl⟩ := bf_one a4 b4
     rcases a6 with ⟨q1, q2⟩ | ⟨q1, q2⟩ <;> rcases b6 with ⟨p1, p2⟩ | ⟨p1, p2⟩ <;> first | exact q2.trans p2.symm | exact absurd p1 q1 | exact absurd q1 p1)
theorem ck_0 {S : Int64} {t : Nat} : ck_x g (fun _ => S) t ↔ cs_x g (fun k => bl S k = true) (fun _ _ => True) t := by
  constructor
  · rintro (⟨k, k', h1, h2, h3, h4, h5, h6, h7⟩ | ⟨h1, k, k', h2, h3, h4, ⟨u, h5, h6⟩, h7⟩)
    · exact Or.inl ⟨k, k', h1, h4, h5, trivial, trivial, h6, h7⟩
    · exact Or.inr ⟨h1, k, k', h3, trivial, h4, h6, h7⟩
  · rintro (⟨k, k', h1, h2, h3, h4, h5, h6, h7⟩ | ⟨h1, k, k', h2, h3, h4, h5, h7⟩)
    · exact Or.inl ⟨k, k', h1, ⟨0, by omega, h2⟩, ⟨0, by omega, h3⟩, h2, h3, h6, h7⟩
    · exact Or.inr ⟨h1, k, k', ⟨0, by omega, h2⟩, h2, h4, ⟨0, by omega, h5⟩, h7⟩
theorem ck_1 {S : Int64} {L : Nat → Int64} (hS : tb_io g S) (hL : ∀ u, u < 4 → ∀ k, bl (L u) k = true ↔ bl S k = true ∧ (k % 5 = rg_c g (k / 5) → cs_C1 g u k)) {t : Nat} (ht : t < 4) : ck_x g L t ↔ cs_x g (fun k => bl S k = true) (cs_C1 g) t := by
  constructor
  · rintro (⟨k, k', h1, h2, h3, h4, h5, h6, h7⟩ | ⟨h1, k, k', h2, h3, h4, ⟨u, h5, h6⟩, h7⟩)
    · have q1 := (hL t ht k).mp h4
      have q2 := (hL t ht k').mp h5
      exact Or.inl ⟨k, k', h1, q1.1, q2.1, q1.2 h6, q2.2 h7, h6, h7⟩
    · have q1 := (hL t ht k).mp h3
      exact Or.inr ⟨h1, k, k', q1.1, q1.2 h4, h4, ((hL u h5 k').mp h6).1, h7⟩
  · rintro (⟨k, k', h1, h2, h3, h4, h5, h6, h7⟩ | ⟨h1, k, k', h2, h3, h4, h5, h7⟩)
    · have q1 := (hL t ht k).mpr ⟨h2, fun _ => h4⟩
      have q2 := (hL t ht k').mpr ⟨h3, fun _ => h5⟩
      exact Or.inl ⟨k, k', h1, ⟨t, ht, q1⟩, ⟨t, ht, q2⟩, q1, q2, h6, h7⟩
    · have q1 := (hL t ht k).mpr ⟨h2, fun _ => h3⟩
      refine Or.inr ⟨h1, k, k', ⟨t, ht, q1⟩, q1, h4, ⟨t, ht, (hL t ht k').mpr ⟨h5, fun e => ?_⟩⟩, h7⟩
      have := h7.1
      omega
theorem ck_2 (hg : rg_ok g) (hu : ∃ r, us_U g r) {f : Nat → Int64} {n : Nat} (hf : tb_full g f n) {s : Nat} (hs : s < n) {L : Nat → Int64} (hL : ∀ u, u < 4 → ∀ k, bl (L u) k = true ↔ la_L g f n s u k) {t : Nat} (ht : t < 4) : ck_x g L t ↔ cs_x g (fun k => bl (f s) k = true) (la_L g f n s) t := by
  constructor
  · rintro (⟨k, k', h1, h2, h3, h4, h5, h6, h7⟩ | ⟨h1, k, k', h2, h3, h4, ⟨u, h5, h6⟩, h7⟩)
    · have q1 := (hL t ht k).mp h4
      have q2 := (hL t ht k').mp h5
      exact Or.inl ⟨k, k', h1, (la_in hg hf q1).2.1, (la_in hg hf q2).2.1, q1, q2, h6, h7⟩
    · have q1 := (hL t ht k).mp h3
      exact Or.inr ⟨h1, k, k', (la_in hg hf q1).2.1, q1, h4, (la_in hg hf ((hL u h5 k').mp h6)).2.1, h7⟩
  · rintro (⟨k, k', h1, h2, h3, h4, h5, h6, h7⟩ | ⟨h1, k, k', h2, h3, h4, h5, h7⟩)
    · have q1 := (hL t ht k).mpr h4
      have q2 := (hL t ht k').mpr h5
      exact Or.inl ⟨k, k', h1, ⟨t, ht, q1⟩, ⟨t, ht, q2⟩, q1, q2, h6, h7⟩
    · have q1 := (hL t ht k).mpr h3
      obtain ⟨u, hu⟩ := la_ex hg hu hf hs h5
      have u4 : u < 4 := by have := (la_in hg hf hu).2.2.1; omega
      exact Or.inr ⟨h1, k, k', ⟨t, ht, q1⟩, q1, h4, ⟨u, u4, (hL u u4 k').mpr hu⟩, h7⟩
/-- the wide tables, as the component holds them -/
def xz_T (g : rg_T) (cnt : Int32) (arr : Nat → Int64) (steps : Nat → Int32) : Prop := (cnt = -5 ∧ wz_L g) ∨ ∃ f n, bf_fin (tw_a0 g) (tw_to g) f n ∧ n ≤ 80 ∧ cnt = nI n ∧ (∀ i, i < n → xz_w arr i = f i) ∧ ∀ s x, s < n → x < 7 → xt_1 (tw_to g) f n (steps (s * 7 + x)) s x
theorem xz_to {cnt : Int32} {arr : Nat → Int64} {steps : Nat → Int32} (h : xz_ok g cnt arr steps) : xz_T g cnt arr steps := by
  rcases h with ⟨h1, h2⟩ | ⟨k, n, ⟨h1, h2, h3⟩, h4, h5, h6⟩
  · exact Or.inl ⟨h1, h2⟩
  · refine Or.inr ⟨(wb_B g k).1, n, ⟨k, ?_, h5⟩, h4, h6, h2, fun s x hs hx => ?_⟩
    · rw [← h1]; rfl
    · have := h3 (s * 7 + x) (by omega) (by omega)
      rw [show (s * 7 + x) / 7 = s by omega, show (s * 7 + x) % 7 = x by omega] at this
      exact this
/-- the tables of the states, as the component holds them -/
def xt_T (g : rg_T) (f : Nat → Int64) (n : Nat) (items : Nat → Int64) (steps : Nat → Int32) : Prop := bf_fin (tb_a0 g) (tb_to g) f n ∧ n ≤ 60 ∧ (∀ i, i < n → items i = f i) ∧ ∀ s x, s < n → x < 7 → xt_1 (tb_to g) f n (steps (s * 7 + x)) s x
theorem xt_to {cnt : Int32} {items : Nat → Int64} {steps : Nat → Int32} (h : xt_ok g cnt items steps) : (cnt = -5 ∧ ∃ k, 60 < (sb_B g k).2) ∨ ∃ f n, xt_T g f n items steps ∧ cnt = nI n := by
  rcases h with ⟨h1, h2⟩ | ⟨k, n, ⟨h1, h2, h3⟩, h4, h5, h6⟩
  · exact Or.inl ⟨h1, h2⟩
  · refine Or.inr ⟨(sb_B g k).1, n, ⟨⟨k, ?_, h5⟩, h4, h2, fun s x hs hx => ?_⟩, h6⟩
    · rw [← h1]; rfl
    · have := h3 (s * 7 + x) (by omega) (by omega)
      rw [show (s * 7 + x) / 7 = s by omega, show (s * 7 + x) % 7 = x by omega] at this
      exact this
theorem xw_findGrade (hg : rg_ok g) (hG : xg_G g a_lefts a_rights a_rightSizes) (hU : xg_U g f_rulesInUse) (hI : xi_I g 10 a_nextItems a_openItems a_restItems) (hW : xf_ok g a_followSets) (hu : ∃ r, us_U g r) {f : Nat → Int64} {n : Nat} (hT : xt_T g f n a_stateItems a_stateSteps) (hZ : xz_T g f_wideCount a_wideLooks a_wideSteps) {post : Int32 → SX → Prop}
    (h : ∀ A r, sp_ok g f n A → gd_R g f n r → post r (f_depth, f_made, f_textLength, f_tokenCount, f_wrongPlace, f_ruleCount, f_prepared, f_rulesInUse, (nI n), f_wideCount, f_gradeFound, f_readHeight, f_tokensTaken, f_usedCount, a_spotCounts, a_ends, a_arrows, a_takers, a_groups, a_marks, a_text, a_tokenKinds, a_tokenLengths, a_lefts, a_rights, a_rightSizes, a_beginSets, a_followSets, a_nextItems, a_openItems, a_restItems, a_stateItems, a_stateSteps, A, a_wideSteps, a_wideLooks, a_readStates, a_readValues, a_usedRules)) : wpX_findGrade post (f_depth, f_made, f_textLength, f_tokenCount, f_wrongPlace, f_ruleCount, f_prepared, f_rulesInUse, (nI n), f_wideCount, f_gradeFound, f_readHeight, f_tokensTaken, f_usedCount, a_spotCounts, a_ends, a_arrows, a_takers, a_groups, a_marks, a_text, a_tokenKinds, a_tokenLengths, a_lefts, a_rights, a_rightSizes, a_beginSets, a_followSets, a_nextItems, a_openItems, a_restItems, a_stateItems, a_stateSteps, a_stateLooks, a_wideSteps, a_wideLooks, a_readStates, a_readValues, a_usedRules) := by
  obtain ⟨hfin, hn, hit, hst⟩ := hT
  have hf := fin_full hfin
  -- the end, when all three are known
  have last : ∀ (A : Nat → Int64) (x y z : Int32), sp_ok g f n A → (x = 0 ↔ cs_0 g f n) → (y = 0 ↔ cs_1 g f n) → (z = 0 ↔ cs_2 g f n) → wX_findGrade_112 post x y z f_depth f_made f_textLength f_tokenCount f_wrongPlace f_ruleCount f_prepared f_rulesInUse (nI n) f_wideCount f_gradeFound f_readHeight f_tokensTaken f_usedCount a_spotCounts a_ends a_arrows a_takers a_groups a_marks a_text a_tokenKinds a_tokenLengths a_lefts a_rights a_rightSizes a_beginSets a_followSets a_nextItems a_openItems a_restItems a_stateItems a_stateSteps A a_wideSteps a_wideLooks a_readStates a_readValues a_usedRules := by
    intro A x y z hA hx hy hz
    refine br_c (fun e1 => br_c (fun e2 => br_c (fun e3 => ?_) (fun e3 => ?_)) (fun e2 => ?_)) (fun e1 => ?_)
    · have c0 := hx.mp e1
      have c1 := hy.mp e2
      have c2 := hz.mp e3
      rcases hZ with ⟨w1, w2⟩ | ⟨fw, nw, w1, w2, w3, w4, w5⟩
      · exact br_t w1 (h A _ hA (Or.inr (Or.inr (Or.inr (Or.inl ⟨c0, c1, c2, w2, rfl⟩)))))
      · have hfw := fin_fullw w1
        refine br_f (by rw [w3]; exact ne_neg (by omega) (by decide)) ?_
        rw [w3] at h ⊢
        have eL : ∀ s, s < nw → ∀ u, u < 4 → a_wideLooks (s * 4 + u) = w4_t (fw s) u := by
          intro s hs u hu
          rw [← w4 s hs]
          unfold xz_w
          rw [w4_tm hu]
        have eC : ∀ s t, s < nw → t < 4 → (ck_x g (fun u => a_wideLooks (s * 4 + u)) t ↔ cs_x g (fun k => ∃ u, u < 4 ∧ bl (w4_t (fw s) u) k = true) (fun t k => bl (w4_t (fw s) t) k = true) t) := by
          intro s t hs ht
          have e1 : (fun k => ∃ u, u < 4 ∧ bl (a_wideLooks (s * 4 + u)) k = true) = fun k => ∃ u, u < 4 ∧ bl (w4_t (fw s) u) k = true := by
            funext k
            refine propext ⟨fun ⟨u, q1, q2⟩ => ⟨u, q1, by rw [← eL s hs u q1]; exact q2⟩, fun ⟨u, q1, q2⟩ => ⟨u, q1, by rw [eL s hs u q1]; exact q2⟩⟩
          unfold ck_x
          rw [e1]
          have q := eL s hs t ht
          constructor
          · refine cs_mono fun k _ _ z => ?_
            show bl (w4_t (fw s) t) k = true
            rw [← q]; exact z
          · refine cs_mono fun k _ _ z => ?_
            show bl (a_wideLooks (s * 4 + t)) k = true
            rw [q]; exact z
        refine xw_clashes_wideLooks hg hI (by omega) (fun s u hs hu k hk => ?_) (fun q => br_t rfl (h A _ hA (Or.inr (Or.inr (Or.inr (Or.inr ⟨c0, c1, c2, fw, nw, w1, w2, Or.inl ⟨?_, rfl⟩⟩)))))) (fun q => br_f (by decide) (h A _ hA (Or.inr (Or.inr (Or.inr (Or.inr ⟨c0, c1, c2, fw, nw, w1, w2, Or.inr ⟨?_, rfl⟩⟩))))))
        · rw [eL s hs u hu] at hk
          exact (tw_fio hg hfw hs u k hu hk).1
        · rintro ⟨s, t, q1, q2, q3⟩
          exact q ⟨s, t, q1, q2, (eC s t q1 q2).mpr q3⟩
        · obtain ⟨s, t, q1, q2, q3⟩ := q
          exact ⟨s, t, q1, q2, (eC s t q1 q2).mp q3⟩
    · exact h A _ hA (Or.inr (Or.inr (Or.inl ⟨hx.mp e1, hy.mp e2, fun q => e3 (hz.mpr q), rfl⟩)))
    · exact h A _ hA (Or.inr (Or.inl ⟨hx.mp e1, fun q => e2 (hy.mpr q), rfl⟩))
    · exact h A _ hA (Or.inl ⟨fun q => e1 (hx.mpr q), rfl⟩)
  have two : ∀ (B : Nat → Int64) (x y : Int32), (x = 0 ↔ cs_0 g f n) → (y = 0 ↔ cs_1 g f n) → wX_findGrade_87 post x y f_depth f_made f_textLength f_tokenCount f_wrongPlace f_ruleCount f_prepared f_rulesInUse (nI n) f_wideCount f_gradeFound f_readHeight f_tokensTaken f_usedCount a_spotCounts a_ends a_arrows a_takers a_groups a_marks a_text a_tokenKinds a_tokenLengths a_lefts a_rights a_rightSizes a_beginSets a_followSets a_nextItems a_openItems a_restItems a_stateItems a_stateSteps B a_wideSteps a_wideLooks a_readStates a_readValues a_usedRules := by
    intro B x y hx hy
    refine xw_spreadLooks (a_stateLooks := B) hg hI hn hf hst (fun A hA => ?_)
    have eC : (∃ s t, s < n ∧ t < 4 ∧ ck_x g (fun u => A (s * 4 + u)) t) ↔ cs_2 g f n := by
      constructor
      · rintro ⟨s, t, q1, q2, q3⟩
        exact ⟨s, t, q1, q2, (ck_2 hg hu hf q1 (fun u hu k => hA s u k q1 hu) q2).mp q3⟩
      · rintro ⟨s, t, q1, q2, q3⟩
        exact ⟨s, t, q1, q2, (ck_2 hg hu hf q1 (fun u hu k => hA s u k q1 hu) q2).mpr q3⟩
    refine xw_clashes_stateLooks (a_stateLooks := A) hg hI (by omega) (fun s u hs hu k hk => tb_fio hg hf hs k (la_in hg hf ((hA s u k hs hu).mp hk)).2.1) (fun q => br_t rfl (last A x y 1 hA hx hy ⟨fun e => absurd e (by decide), fun e => absurd (eC.mpr e) q⟩)) (fun q => br_f (by decide) (last A x y 0 hA hx hy ⟨fun _ => eC.mp q, fun _ => rfl⟩))
  have one : ∀ (B : Nat → Int64) (x : Int32), (x = 0 ↔ cs_0 g f n) → ∃ fu, wX_findGrade_44 post x fu 0 f_depth f_made f_textLength f_tokenCount f_wrongPlace f_ruleCount f_prepared f_rulesInUse (nI n) f_wideCount f_gradeFound f_readHeight f_tokensTaken f_usedCount a_spotCounts a_ends a_arrows a_takers a_groups a_marks a_text a_tokenKinds a_tokenLengths a_lefts a_rights a_rightSizes a_beginSets a_followSets a_nextItems a_openItems a_restItems a_stateItems a_stateSteps B a_wideSteps a_wideLooks a_readStates a_readValues a_usedRules := by
    intro B x hx
    refine loop_0 (fun fu t A => wX_findGrade_44 post x fu (nI t) f_depth f_made f_textLength f_tokenCount f_wrongPlace f_ruleCount f_prepared f_rulesInUse (nI n) f_wideCount f_gradeFound f_readHeight f_tokensTaken f_usedCount a_spotCounts a_ends a_arrows a_takers a_groups a_marks a_text a_tokenKinds a_tokenLengths a_lefts a_rights a_rightSizes a_beginSets a_followSets a_nextItems a_openItems a_restItems a_stateItems a_stateSteps A a_wideSteps a_wideLooks a_readStates a_readValues a_usedRules) (fun t A => ∀ s u, s < n → u < t → ∀ k, bl (A (s * 4 + u)) k = true ↔ bl (f s) k = true ∧ (k % 5 = rg_c g (k / 5) → cs_C1 g u k)) 4 B (fun s u _ q => absurd q (Nat.not_lt_zero _)) ?_ ?_
    · intro fu A hA
      have eC : (∃ s t, s < n ∧ t < 4 ∧ ck_x g (fun u => A (s * 4 + u)) t) ↔ cs_1 g f n := by
        constructor
        · rintro ⟨s, t, q1, q2, q3⟩
          exact ⟨s, t, q1, q2, (ck_1 (tb_fio hg hf q1) (fun u hu k => hA s u q1 hu k) q2).mp q3⟩
        · rintro ⟨s, t, q1, q2, q3⟩
          exact ⟨s, t, q1, q2, (ck_1 (tb_fio hg hf q1) (fun u hu k => hA s u q1 hu k) q2).mpr q3⟩
      exact br_t (nI_le (Nat.le_refl 4) (by decide)) (xw_clashes_stateLooks (a_stateLooks := A) hg hI (by omega) (fun s u hs hu k hk => tb_fio hg hf hs k ((hA s u hs hu k).mp hk).1) (fun q => br_t rfl (two A x 1 hx ⟨fun e => absurd e (by decide), fun e => absurd (eC.mpr e) q⟩)) (fun q => br_f (by decide) (two A x 0 hx ⟨fun _ => eC.mp q, fun _ => rfl⟩)))
    · intro fu t A ht hA hk
      refine br_f (nI_ge ht (by decide)) (xw_followedItems (a_stateLooks := A) hg hG hU hI hW ht (fun m hm => xw_setStateLooks (a_stateLooks := A) hn ht m (fun C c1 c2 => nm_r (nI_1 t) (hk C fun s u hs hu k => ?_))))
      by_cases e : u = t
      · subst e
        rw [c1 s hs, hit s hs, bl_and, Bool.and_eq_true]
        constructor
        · rintro ⟨q1, q2⟩
          exact ⟨q1, (hm k (tb_fio hg hf hs k q1)).mp q2⟩
        · rintro ⟨q1, q2⟩
          exact ⟨q1, (hm k (tb_fio hg hf hs k q1)).mpr q2⟩
      · rw [c2 s u (by omega) e]; exact hA s u hs (by omega) k
  refine loop_0 (fun fu t A => wX_findGrade_2 post fu (nI t) f_depth f_made f_textLength f_tokenCount f_wrongPlace f_ruleCount f_prepared f_rulesInUse (nI n) f_wideCount f_gradeFound f_readHeight f_tokensTaken f_usedCount a_spotCounts a_ends a_arrows a_takers a_groups a_marks a_text a_tokenKinds a_tokenLengths a_lefts a_rights a_rightSizes a_beginSets a_followSets a_nextItems a_openItems a_restItems a_stateItems a_stateSteps A a_wideSteps a_wideLooks a_readStates a_readValues a_usedRules) (fun t A => ∀ s u, s < n → u < t → A (s * 4 + u) = f s) 4 a_stateLooks (fun s u _ q => absurd q (Nat.not_lt_zero _)) ?_ ?_
  · intro fu A hA
    have eC : (∃ s t, s < n ∧ t < 4 ∧ ck_x g (fun u => A (s * 4 + u)) t) ↔ cs_0 g f n := by
      have e : ∀ s t, s < n → t < 4 → (ck_x g (fun u => A (s * 4 + u)) t ↔ ck_x g (fun _ => f s) t) := by
        intro s t hs ht
        have e1 : (fun k => ∃ u, u < 4 ∧ bl (A (s * 4 + u)) k = true) = fun k => ∃ u, u < 4 ∧ bl (f s) k = true := by
          funext k
          refine propext ⟨fun ⟨u, q1, q2⟩ => ⟨u, q1, by rw [← hA s u hs q1]; exact q2⟩, fun ⟨u, q1, q2⟩ => ⟨u, q1, by rw [hA s u hs q1]; exact q2⟩⟩
        unfold ck_x
        rw [e1]
        have q := hA s t hs ht
        constructor
        · refine cs_mono fun k _ _ z => ?_
          show bl (f s) k = true
          rw [← q]; exact z
        · refine cs_mono fun k _ _ z => ?_
          show bl (A (s * 4 + t)) k = true
          rw [q]; exact z
      constructor
      · rintro ⟨s, t, q1, q2, q3⟩
        exact ⟨s, t, q1, q2, ck_0.mp ((e s t q1 q2).mp q3)⟩
      · rintro ⟨s, t, q1, q2, q3⟩
        exact ⟨s, t, q1, q2, (e s t q1 q2).mpr (ck_0.mpr q3)⟩
    exact br_t (nI_le (Nat.le_refl 4) (by decide)) (xw_clashes_stateLooks (a_stateLooks := A) hg hI (by omega) (fun s u hs hu => by rw [hA s u hs hu]; exact tb_fio hg hf hs) (fun q => br_t rfl (one A 1 ⟨fun e => absurd e (by decide), fun e => absurd (eC.mpr e) q⟩)) (fun q => br_f (by decide) (one A 0 ⟨fun _ => eC.mp q, fun _ => rfl⟩)))
  · intro fu t A ht hA hk
    refine br_f (nI_ge ht (by decide)) (xw_setStateLooks (a_stateLooks := A) hn ht (-1) (fun C c1 c2 => nm_r (nI_1 t) (hk C fun s u hs hu => ?_)))
    by_cases e : u = t
    · subst e
      rw [c1 s hs, hit s hs]
      apply bl_ext
      intro i hi
      rw [bl_and, bl_m1 i hi, Bool.and_true]
    · rw [c2 s u (by omega) e]; exact hA s u hs (by omega)
/-- all that prepare finds -/
def xp_T (g : rg_T) (rulesInUse stateCount wideCount gradeFound : Int32) (beginSets followSets : Nat → Int32) (nextItems openItems restItems stateItems : Nat → Int64) (stateSteps : Nat → Int32) (stateLooks : Nat → Int64) (wideSteps : Nat → Int32) (wideLooks : Nat → Int64) : Prop :=
  xg_U g rulesInUse ∧ xb_ok g beginSets ∧ xf_ok g followSets ∧ xi_I g 10 nextItems openItems restItems ∧
  (((¬ ∃ r, us_U g r) ∧ stateCount = -4 ∧ wideCount = -4 ∧ gradeFound = -4) ∨
   ((∃ r, us_U g r) ∧ (∃ k, 60 < (sb_B g k).2) ∧ stateCount = -5 ∧ wideCount = -5 ∧ gradeFound = -5) ∨
   ((∃ r, us_U g r) ∧ ∃ f n, xt_T g f n stateItems stateSteps ∧ stateCount = nI n ∧ xz_T g wideCount wideLooks wideSteps ∧ sp_ok g f n stateLooks ∧ gd_R g f n gradeFound))
theorem xw_prepare (hg : rg_ok g) (hG : xg_G g a_lefts a_rights a_rightSizes) (hP : f_prepared = 0 ∨ (f_prepared = 1 ∧ xp_T g f_rulesInUse f_stateCount f_wideCount f_gradeFound a_beginSets a_followSets a_nextItems a_openItems a_restItems a_stateItems a_stateSteps a_stateLooks a_wideSteps a_wideLooks)) {post : SX → Prop}
    (h : ∀ ru sc wc gf bs fs ni oi ri si ss sl ws wl, xp_T g ru sc wc gf bs fs ni oi ri si ss sl ws wl → post (f_depth, f_made, f_textLength, f_tokenCount, f_wrongPlace, (nI (rg_n g)), 1, ru, sc, wc, gf, f_readHeight, f_tokensTaken, f_usedCount, a_spotCounts, a_ends, a_arrows, a_takers, a_groups, a_marks, a_text, a_tokenKinds, a_tokenLengths, a_lefts, a_rights, a_rightSizes, bs, fs, ni, oi, ri, si, ss, sl, ws, wl, a_readStates, a_readValues, a_usedRules)) : wpX_prepare post (f_depth, f_made, f_textLength, f_tokenCount, f_wrongPlace, (nI (rg_n g)), f_prepared, f_rulesInUse, f_stateCount, f_wideCount, f_gradeFound, f_readHeight, f_tokensTaken, f_usedCount, a_spotCounts, a_ends, a_arrows, a_takers, a_groups, a_marks, a_text, a_tokenKinds, a_tokenLengths, a_lefts, a_rights, a_rightSizes, a_beginSets, a_followSets, a_nextItems, a_openItems, a_restItems, a_stateItems, a_stateSteps, a_stateLooks, a_wideSteps, a_wideLooks, a_readStates, a_readValues, a_usedRules) := by
  rcases hP with hP | ⟨hP, hT⟩
  · refine br_t hP ?_
    refine xw_findRulesInUse (f_rulesInUse := f_rulesInUse) hg hG (fun u hU => ?_)
    refine xw_findBegins (a_beginSets := a_beginSets) hg hG hU (fun bs hF h4 => ?_)
    refine xw_findFollows (a_followSets := a_followSets) hg hG hU h4 hF (fun fs hW => ?_)
    refine xw_findItems (a_nextItems := a_nextItems) (a_openItems := a_openItems) (a_restItems := a_restItems) hg hG hU h4 hF (fun ni oi ri hI => ?_)
    have e512 : u = 512 ↔ ¬ ∃ r, us_U g r := by
      constructor
      · rintro rfl ⟨r, hr⟩
        have := (hU r).mpr (Or.inl hr)
        rw [b_512, decide_eq_true_eq] at this
        have := hr.1
        have := hg.1
        omega
      · intro no
        apply b_ext
        intro i _
        have q := hU i
        rw [b_512]
        cases e : bt u i
        · rw [decide_eq_false]
          intro q2
          rw [q.mpr (Or.inr q2)] at e; cases e
        · rw [decide_eq_true]
          rcases q.mp e with q2 | q2
          · exact absurd ⟨i, q2⟩ no
          · exact q2
    refine br_c (fun z => ?_) (fun z => ?_)
    · exact h _ _ _ _ _ _ _ _ _ _ _ _ _ _ ⟨hU, hF, hW, hI, Or.inl ⟨e512.mp z, rfl, rfl, rfl⟩⟩
    · have hu : ∃ r, us_U g r := Classical.byContradiction fun q => z (e512.mpr q)
      refine xw_findStates hg hI (fun cnt items steps hS => ?_)
      rcases xt_to hS with ⟨s1, s2⟩ | ⟨f, n, s1, s2⟩
      · exact br_t s1 (h _ _ _ _ _ _ _ _ _ _ _ _ _ _ ⟨hU, hF, hW, hI, Or.inr (Or.inl ⟨hu, s2, s1, rfl, rfl⟩)⟩)
      · refine br_f (by rw [s2]; exact ne_neg (by have := s1.2.1; omega) (by decide)) ?_
        rw [s2]
        refine xw_findWideStates hg hI (fun wc wl ws hZ => ?_)
        have hZ := xz_to hZ
        refine xw_findGrade hg hG hU hI hW hu s1 hZ (fun A r hA hR => ?_)
        exact h _ _ _ _ _ _ _ _ _ _ _ _ _ _ ⟨hU, hF, hW, hI, Or.inr (Or.inr ⟨hu, f, n, s1, rfl, hZ, hA, hR⟩)⟩
  · refine br_f (by rw [hP]; decide) ?_
    rw [hP]
    exact h _ _ _ _ _ _ _ _ _ _ _ _ _ _ hT
end
end
section
/-! the reference closes four sets of items -/
variable {h_made h_depth h_length h_tokenCount h_wrong h_letterCount h_ruleCount h_makingCount h_usefulRules h_stateCount h_wideCount h_useCount h_result : Int32} {b_ops b_firsts b_seconds b_sizes b_stack b_roots b_text b_ends b_tokenKinds b_tokenSizes b_letters b_begins b_closes b_empties b_nexts b_sets b_leads b_classes b_newClasses b_lefts b_rights b_counts b_making b_firstSets b_followSets b_tasks b_held b_uses b_reach : Nat → Int32} {b_states b_looks b_wides b_work b_met : Nat → Int64}
section
variable {g : rg_T}
noncomputable def yo_c (W : Nat → Int64) : Nat := cn_c (fun x => bl (W (x % 4)) (5 * (x / 4)) = true) 36
theorem yo_lt {W W' : Nat → Int64} (h : ∀ t k, t < 4 → bl (W t) k = true → bl (W' t) k = true) {t r : Nat} (ht : t < 4) (hr : r < 9) (h1 : ¬ bl (W t) (5 * r) = true) (h2 : bl (W' t) (5 * r) = true) : yo_c W < yo_c W' := by
  have e1 : (r * 4 + t) % 4 = t := by omega
  have e2 : (r * 4 + t) / 4 = r := by omega
  exact cn_lt (a := r * 4 + t) (by rw [e1, e2]; exact h1) (by rw [e1, e2]; exact h2) (fun x _ z => h _ _ (by omega) z) (by omega)
theorem yw_addRules (hg : rg_ok g) (hG : xg_G g b_lefts b_rights b_counts) {u : Int32} (hU : yg_U g u) (h4 : xb_4 b_firstSets) (hF : xb_ok g b_firstSets) {k v t0 : Nat} (hk : im_ok g k) (hv : im_nx g k v) (v7 : v < 7) (ht0 : t0 < 4) {post : Int32 → SY → Prop}
    (h : ∀ c W, (∀ t j, t < 4 → (bl (W t) j = true ↔ bl (b_work t) j = true ∨ ∃ r, us_U g r ∧ rg_l g r = v ∧ j = 5 * r ∧ fs_t (fi_F g) (rg_h g (k / 5)) (rg_c g (k / 5) - (k % 5 + 1)) (k % 5 + 1) t0 t)) → ((c = 0 ∧ W = b_work) ∨ (c = 1 ∧ yo_c b_work < yo_c W)) → post c (h_made, h_depth, h_length, h_tokenCount, h_wrong, h_letterCount, h_ruleCount, h_makingCount, u, h_stateCount, h_wideCount, h_useCount, h_result, b_ops, b_firsts, b_seconds, b_sizes, b_stack, b_roots, b_text, b_ends, b_tokenKinds, b_tokenSizes, b_letters, b_begins, b_closes, b_empties, b_nexts, b_sets, b_leads, b_classes, b_newClasses, b_lefts, b_rights, b_counts, b_making, b_firstSets, b_followSets, b_states, b_looks, b_wides, W, b_met, b_tasks, b_held, b_uses, b_reach)) : wpY_addRules post (h_made, h_depth, h_length, h_tokenCount, h_wrong, h_letterCount, h_ruleCount, h_makingCount, u, h_stateCount, h_wideCount, h_useCount, h_result, b_ops, b_firsts, b_seconds, b_sizes, b_stack, b_roots, b_text, b_ends, b_tokenKinds, b_tokenSizes, b_letters, b_begins, b_closes, b_empties, b_nexts, b_sets, b_leads, b_classes, b_newClasses, b_lefts, b_rights, b_counts, b_making, b_firstSets, b_followSets, b_states, b_looks, b_wides, b_work, b_met, b_tasks, b_held, b_uses, b_reach) (nI k) (nI v) (nI t0) := by
  have h9 := hg.1
  have hr' : k / 5 < rg_n g ∨ k / 5 = 9 := hk.1.imp (fun z => z.1) id
  obtain ⟨b1, b2, b3, b4, b5⟩ := rg_b hg hr'
  have h47 := im_lt hg hk
  have e1 : nI k / 5 = nI (k / 5) := pk_div (d := 5) (by omega) (by decide) (by decide)
  have e2 : nI k - nI k / 5 * 5 = nI (k % 5) := pk_rem (d := 5) (by omega) (by decide) (by decide)
  have hp := hv.1
  -- the loop over rules and looks, whatever mask tells the looks
  have lp : ∀ x : Int32, (∀ t, t < 4 → (bt x t = true ↔ fs_t (fi_F g) (rg_h g (k / 5)) (rg_c g (k / 5) - (k % 5 + 1)) (k % 5 + 1) t0 t)) → ∃ f, wY_addRules_44 post (nI v) x h_made h_depth h_length h_tokenCount h_wrong h_letterCount h_ruleCount h_makingCount u h_stateCount h_wideCount h_useCount h_result f 0 0 b_ops b_firsts b_seconds b_sizes b_stack b_roots b_text b_ends b_tokenKinds b_tokenSizes b_letters b_begins b_closes b_empties b_nexts b_sets b_leads b_classes b_newClasses b_lefts b_rights b_counts b_making b_firstSets b_followSets b_states b_looks b_wides b_work b_met b_tasks b_held b_uses b_reach := by
    intro x hx
    refine loop_0 (fun f n s => wY_addRules_44 post (nI v) x h_made h_depth h_length h_tokenCount h_wrong h_letterCount h_ruleCount h_makingCount u h_stateCount h_wideCount h_useCount h_result f s.1 (nI n) b_ops b_firsts b_seconds b_sizes b_stack b_roots b_text b_ends b_tokenKinds b_tokenSizes b_letters b_begins b_closes b_empties b_nexts b_sets b_leads b_classes b_newClasses b_lefts b_rights b_counts b_making b_firstSets b_followSets b_states b_looks b_wides s.2 b_met b_tasks b_held b_uses b_reach) (fun n s => (∀ t j, t < 4 → (bl (s.2 t) j = true ↔ bl (b_work t) j = true ∨ ∃ n', n' < n ∧ n' % 4 = t ∧ us_U g (n' / 4) ∧ rg_l g (n' / 4) = v ∧ j = 5 * (n' / 4) ∧ bt x t = true)) ∧ ((s.1 = 0 ∧ s.2 = b_work) ∨ (s.1 = 1 ∧ yo_c b_work < yo_c s.2))) 36 ((0 : Int32), b_work) ⟨fun t j ht => ⟨Or.inl, fun z => by
      rcases z with z | ⟨n', z, _⟩
      · exact z
      · omega⟩, Or.inl ⟨rfl, rfl⟩⟩ ?_ ?_
    · rintro f ⟨c, W⟩ ⟨s1, s2⟩
      have s1 : ∀ t j, t < 4 → (bl (W t) j = true ↔ bl (b_work t) j = true ∨ ∃ n', n' < 36 ∧ n' % 4 = t ∧ us_U g (n' / 4) ∧ rg_l g (n' / 4) = v ∧ j = 5 * (n' / 4) ∧ bt x t = true) := s1
      have s2 : (c = 0 ∧ W = b_work) ∨ (c = 1 ∧ yo_c b_work < yo_c W) := s2
      refine br_t (nI_le (Nat.le_refl 36) (by decide)) ⟨?_, h c W (fun t j ht => ?_) s2⟩
      · rcases s2 with ⟨q, _⟩ | ⟨q, _⟩
        · show narrow .boolean (.int c) = .int c
          rw [q]; exact nb_0
        · show narrow .boolean (.int c) = .int c
          rw [q]; exact nb_1
      · rw [s1 t j ht]
        constructor
        · rintro (z | ⟨n', q1, q2, q3, q4, q5, q6⟩)
          · exact Or.inl z
          · exact Or.inr ⟨n' / 4, q3, q4, q5, (hx t ht).mp q6⟩
        · rintro (z | ⟨r, q1, q2, q3, q4⟩)
          · exact Or.inl z
          · have := q1.1
            refine Or.inr ⟨r * 4 + t, by omega, by omega, ?_, ?_, ?_, (hx t ht).mpr q4⟩
            · rw [show (r * 4 + t) / 4 = r by omega]; exact q1
            · rw [show (r * 4 + t) / 4 = r by omega]; exact q2
            · rw [show (r * 4 + t) / 4 = r by omega]; exact q3
    · rintro f n ⟨c, W⟩ hn ⟨s1, s2⟩ hk2
      have s1 : ∀ t j, t < 4 → (bl (W t) j = true ↔ bl (b_work t) j = true ∨ ∃ n', n' < n ∧ n' % 4 = t ∧ us_U g (n' / 4) ∧ rg_l g (n' / 4) = v ∧ j = 5 * (n' / 4) ∧ bt x t = true) := s1
      have s2 : (c = 0 ∧ W = b_work) ∨ (c = 1 ∧ yo_c b_work < yo_c W) := s2
      have d1 : nI n / 4 = nI (n / 4) := pk_div (d := 4) (by omega) (by decide) (by decide)
      have d2 : nI n - nI n / 4 * 4 = nI (n % 4) := pk_rem (d := 4) (by omega) (by decide) (by decide)
      have ct : (nI (n % 4)).toNatClampNeg = n % 4 := nI_clamp (by omega)
      have it : vp_in (nI (n % 4)) 4 := vp_in_nI (by omega) (by decide)
      have e5 : (5 : Int32) * nI (n / 4) = nI (5 * (n / 4)) := pk_mul 5 (n / 4)
      -- nothing fresh
      have skip : (us_U g (n / 4) → rg_l g (n / 4) = v → bt x (n % 4) = true → bl (W (n % 4)) (5 * (n / 4)) = true) → ∀ m : Int64, wY_addRules_119 post (wY_addRules_44 post (nI v) x h_made h_depth h_length h_tokenCount h_wrong h_letterCount h_ruleCount h_makingCount u h_stateCount h_wideCount h_useCount h_result f) (nI v) x c (nI n) m h_made h_depth h_length h_tokenCount h_wrong h_letterCount h_ruleCount h_makingCount u h_stateCount h_wideCount h_useCount h_result b_ops b_firsts b_seconds b_sizes b_stack b_roots b_text b_ends b_tokenKinds b_tokenSizes b_letters b_begins b_closes b_empties b_nexts b_sets b_leads b_classes b_newClasses b_lefts b_rights b_counts b_making b_firstSets b_followSets b_states b_looks b_wides W b_met b_tasks b_held b_uses b_reach := by
        intro z m
        have same : vp_updL W (n % 4) (W (n % 4)) = W := by
          funext j
          unfold vp_updL
          split
          · rename_i e; rw [e]
          · rfl
        have go : ∀ c', c' = c → wY_addRules_44 post (nI v) x h_made h_depth h_length h_tokenCount h_wrong h_letterCount h_ruleCount h_makingCount u h_stateCount h_wideCount h_useCount h_result f c' (nI (n + 1)) b_ops b_firsts b_seconds b_sizes b_stack b_roots b_text b_ends b_tokenKinds b_tokenSizes b_letters b_begins b_closes b_empties b_nexts b_sets b_leads b_classes b_newClasses b_lefts b_rights b_counts b_making b_firstSets b_followSets b_states b_looks b_wides W b_met b_tasks b_held b_uses b_reach := by
          rintro c' rfl
          refine hk2 (c', W) ⟨fun t j ht => ?_, s2⟩
          show bl (W t) j = true ↔ _
          rw [s1 t j ht]
          constructor
          · rintro (w | ⟨n', q1, q2⟩)
            · exact Or.inl w
            · exact Or.inr ⟨n', by omega, q2⟩
          · rintro (w | ⟨n', q1, q2, q3, q4, q5, q6⟩)
            · exact Or.inl w
            · by_cases e : n' = n
              · subst e
                subst q2
                rw [q5]
                exact (s1 _ _ ht).mp (z q3 q4 q6)
              · exact Or.inr ⟨n', by omega, q2, q3, q4, q5, q6⟩
        unfold wY_addRules_119 wY_addRules_120 wY_addRules_159
        rw [d2, ct]
        refine ⟨by decide, br_t rfl ⟨by decide, it, it, nm_r same ?_⟩⟩
        rcases s2 with ⟨q, _⟩ | ⟨q, _⟩
        · exact br_t q (br_t rfl (nm_r (nI_1 n) (go 0 q.symm)))
        · exact br_f (by rw [q]; decide) (nm_r (nI_1 n) (go 1 q.symm))
      refine br_f (nI_ge hn (by decide)) ⟨by decide, nm_r d1 (nm_e (br_c (fun z => ?_) (fun z => ?_)))⟩
      · have z := (hU _).mp ((b_test u (n := n / 4) (by omega)).mp z)
        obtain ⟨g1, g2, g3⟩ := hG (n / 4) (Or.inl z.1)
        have l := hg.2.1 _ z.1
        refine br_f (by decide) ⟨vp_in_nI (by omega) (by decide), ?_⟩
        rw [nI_clamp (by omega : n / 4 < 2 ^ 31), g1]
        refine pk_eq (rg_l g (n / 4)) v (fun y => ⟨by decide, ?_⟩) (fun y => skip (fun _ q _ => absurd q y) _)
        rw [d2]
        refine br_c (fun w => ⟨by decide, it, ?_⟩) (fun w => skip (fun _ _ q => absurd ((b_test x (by omega)).mpr q) w) _)
        have w := (b_test x (n := n % 4) (by omega)).mp w
        rw [ct, e5]
        have hone : ∀ j, bl ((1 : Int64) <<< ((nI (5 * (n / 4))).toInt64 &&& 63)) j = true ↔ j = 5 * (n / 4) := fun j => by rw [bl_one _ (by omega), decide_eq_true_eq]
        refine br_c (fun q => ?_) (fun q => skip (fun _ _ _ => ?_) _)
        · have q : ¬ bl (W (n % 4)) (5 * (n / 4)) = true := by
            intro q2
            have : bl (W (n % 4) &&& (1 : Int64) <<< ((nI (5 * (n / 4))).toInt64 &&& 63)) (5 * (n / 4)) = true := by rw [bl_and, q2, (hone _).mpr rfl]; rfl
            exact bl_no q _ this
          have e : ∀ t j, bl (vp_updL W (n % 4) (W (n % 4) ||| (1 : Int64) <<< ((nI (5 * (n / 4))).toInt64 &&& 63)) t) j = true ↔ bl (W t) j = true ∨ (t = n % 4 ∧ j = 5 * (n / 4)) := by
            intro t j
            by_cases e : t = n % 4
            · subst e
              rw [pk_uLs, bl_or, Bool.or_eq_true, hone]
              exact ⟨fun p => p.imp id (fun p => ⟨rfl, p⟩), fun p => p.imp id (fun p => p.2)⟩
            · rw [pk_uLn e]
              exact ⟨Or.inl, fun p => by
                rcases p with p | p
                · exact p
                · exact absurd p.1 e⟩
          have gr : yo_c b_work < yo_c (vp_updL W (n % 4) (W (n % 4) ||| (1 : Int64) <<< ((nI (5 * (n / 4))).toInt64 &&& 63))) := by
            have p1 := yo_lt (W := W) (fun t j _ hj => (e t j).mpr (Or.inl hj)) (t := n % 4) (r := n / 4) (by omega) (by omega) q ((e _ _).mpr (Or.inr ⟨rfl, rfl⟩))
            have p2 : yo_c b_work ≤ yo_c W := by
              rcases s2 with ⟨_, p⟩ | ⟨_, p⟩
              · rw [p]; omega
              · omega
            omega
          have go : wY_addRules_44 post (nI v) x h_made h_depth h_length h_tokenCount h_wrong h_letterCount h_ruleCount h_makingCount u h_stateCount h_wideCount h_useCount h_result f 1 (nI (n + 1)) b_ops b_firsts b_seconds b_sizes b_stack b_roots b_text b_ends b_tokenKinds b_tokenSizes b_letters b_begins b_closes b_empties b_nexts b_sets b_leads b_classes b_newClasses b_lefts b_rights b_counts b_making b_firstSets b_followSets b_states b_looks b_wides (vp_updL W (n % 4) (W (n % 4) ||| (1 : Int64) <<< ((nI (5 * (n / 4))).toInt64 &&& 63))) b_met b_tasks b_held b_uses b_reach := by
            refine hk2 (1, vp_updL W (n % 4) (W (n % 4) ||| (1 : Int64) <<< ((nI (5 * (n / 4))).toInt64 &&& 63))) ⟨fun t j ht => ?_, Or.inr ⟨rfl, gr⟩⟩
            show bl (vp_updL W (n % 4) (W (n % 4) ||| (1 : Int64) <<< ((nI (5 * (n / 4))).toInt64 &&& 63)) t) j = true ↔ _
            rw [e t j, s1 t j ht]
            constructor
            · rintro ((p | ⟨n', p1, p2⟩) | ⟨p1, p2⟩)
              · exact Or.inl p
              · exact Or.inr ⟨n', by omega, p2⟩
              · exact Or.inr ⟨n, by omega, p1.symm, z, y, p2, by rw [p1]; exact w⟩
            · rintro (p | ⟨n', p1, p2, p3, p4, p5, p6⟩)
              · exact Or.inl (Or.inl p)
              · by_cases en : n' = n
                · subst en; exact Or.inr ⟨p2.symm, p5⟩
                · exact Or.inl (Or.inr ⟨n', by omega, p2, p3, p4, p5, p6⟩)
          unfold wY_addRules_120 wY_addRules_159
          rw [d2, ct]
          refine ⟨by decide, br_f (by decide) ⟨by decide, it, it, nm_e ?_⟩⟩
          rcases s2 with ⟨p, _⟩ | ⟨p, _⟩
          · exact br_t p (br_f (by decide) (nm_r (nI_1 n) go))
          · exact br_f (by show ¬ c = 0; rw [p]; decide) (nm_r (nI_1 n) go)
        · obtain ⟨j, hj⟩ := bl_ne q
          rw [bl_and, Bool.and_eq_true, hone] at hj
          rw [← hj.2]; exact hj.1
      · have z : ¬ us_U g (n / 4) := fun y => z ((b_test u (by omega)).mpr ((hU _).mpr y))
        exact br_t rfl (skip (fun y => absurd y z) _)
  refine ⟨by decide, by decide, ?_⟩
  rw [e1, ← e1, e2, e1, nI_1]
  refine yw_firstFrom hg hG h4 hr' (by omega) (fun x hx => ?_)
  have hx : ∀ b, bt x b = true ↔ fs_b (fi_F g) (rg_h g (k / 5)) (rg_c g (k / 5) - (k % 5 + 1)) (k % 5 + 1) b := fun b => by rw [hx b]; exact fs_iff7 b5 hF _ _ _ (by omega)
  refine br_c (fun z => lp x fun t ht => ?_) (fun z => nm_e (lp _ fun t ht => ?_))
  · have z := (b_and8 _).mp z
    have n3 : ¬ fs_b (fi_F g) (rg_h g (k / 5)) (rg_c g (k / 5) - (k % 5 + 1)) (k % 5 + 1) 3 := fun q => by rw [(hx 3).mpr q] at z; cases z
    rw [hx t]
    constructor
    · intro q
      have : t ≠ 3 := fun e => n3 (by rw [← e]; exact q)
      exact Or.inl ⟨by omega, q⟩
    · rintro (⟨_, q⟩ | ⟨q, _⟩)
      · exact q
      · exact absurd q n3
  · have z : bt x 3 = true := ts_nf fun q => z ((b_and8 _).mpr q)
    rw [b_or, Bool.or_eq_true, b_and, Bool.and_eq_true, b_7b, decide_eq_true_eq, hx t, b_one _ (by omega), decide_eq_true_eq]
    constructor
    · rintro (⟨q1, q2⟩ | q)
      · exact Or.inl ⟨q2, q1⟩
      · exact Or.inr ⟨(hx 3).mp z, q⟩
    · rintro (⟨q1, q2⟩ | ⟨_, q⟩)
      · exact Or.inl ⟨q2, q1⟩
      · exact Or.inr q
/-- item k with look t opens nothing that is not there -/
def yo_s (g : rg_T) (W : Nat → Int64) (k t0 : Nat) : Prop := bl (W t0) k = true → ∀ r t, us_U g r → im_nx g k (rg_l g r) → fs_t (fi_F g) (rg_h g (k / 5)) (rg_c g (k / 5) - (k % 5 + 1)) (k % 5 + 1) t0 t → bl (W t) (5 * r) = true
theorem yo_end (hg : rg_ok g) {W S : Nat → Int64} (hS : xo_io g S) (h1 : ∀ t k, t < 4 → bl (S t) k = true → bl (W t) k = true) (h2 : ∀ t k, t < 4 → bl (W t) k = true → cw_0 g (xo_S S) t k) (h3 : ∀ k t, k < 50 → t < 4 → yo_s g W k t) {t : Nat} (ht : t < 4) : W t = mk_l (cw_0 g (xo_S S) t) := by
  apply bl_ext
  intro i _
  have hin : ∀ t k, xo_S S t k → tw_in g t k := fun t k z => hS t k z.1 z.2
  have e1 := tw_mk hg hin ht i
  rw [w4_tm ht] at e1
  have e2 : bl (W t) i = true ↔ cw_0 g (xo_S S) t i := by
    refine ⟨h2 t i ht, fun z => (z (fun t k => t < 4 ∧ bl (W t) k = true) (fun t k w => ⟨w.1, h1 t k w.1 w.2⟩) fun t k r t' hk hU hn hf => ?_).2⟩
    have ht' : t' < 4 := by have := fs_t_le (t := t) (by omega) hf; omega
    have := im_lt hg (cw_ok hg hin (h2 t k hk.1 hk.2)).1
    exact ⟨ht', h3 k t (by omega) hk.1 hk.2 r t' hU hn hf⟩
  rw [← e1] at e2
  cases c1 : bl (W t) i <;> cases c2 : bl (mk_l (cw_0 g (xo_S S) t)) i
  · rfl
  · rw [c1, c2] at e2; exact absurd (e2.mpr rfl) (by decide)
  · rw [c1, c2] at e2; exact absurd (e2.mp rfl) (by decide)
  · rfl
theorem yw_closeWork (hg : rg_ok g) (hG : xg_G g b_lefts b_rights b_counts) {u : Int32} (hU : yg_U g u) (h4 : xb_4 b_firstSets) (hF : xb_ok g b_firstSets) (hS : xo_io g b_work) {post : SY → Prop} (h : ∀ W, (∀ t, t < 4 → W t = mk_l (cw_0 g (xo_S b_work) t)) → post (h_made, h_depth, h_length, h_tokenCount, h_wrong, h_letterCount, h_ruleCount, h_makingCount, u, h_stateCount, h_wideCount, h_useCount, h_result, b_ops, b_firsts, b_seconds, b_sizes, b_stack, b_roots, b_text, b_ends, b_tokenKinds, b_tokenSizes, b_letters, b_begins, b_closes, b_empties, b_nexts, b_sets, b_leads, b_classes, b_newClasses, b_lefts, b_rights, b_counts, b_making, b_firstSets, b_followSets, b_states, b_looks, b_wides, W, b_met, b_tasks, b_held, b_uses, b_reach)) : wpY_closeWork post (h_made, h_depth, h_length, h_tokenCount, h_wrong, h_letterCount, h_ruleCount, h_makingCount, u, h_stateCount, h_wideCount, h_useCount, h_result, b_ops, b_firsts, b_seconds, b_sizes, b_stack, b_roots, b_text, b_ends, b_tokenKinds, b_tokenSizes, b_letters, b_begins, b_closes, b_empties, b_nexts, b_sets, b_leads, b_classes, b_newClasses, b_lefts, b_rights, b_counts, b_making, b_firstSets, b_followSets, b_states, b_looks, b_wides, b_work, b_met, b_tasks, b_held, b_uses, b_reach) := by
  have hin : ∀ t k, xo_S b_work t k → tw_in g t k := fun t k z => hS t k z.1 z.2
  have key : ∀ d q, q + d = 38 → ∀ (c : Int32) (W : Nat → Int64), (∀ t k, t < 4 → bl (b_work t) k = true → bl (W t) k = true) → (∀ t k, t < 4 → bl (W t) k = true → cw_0 g (xo_S b_work) t k) → ((c = 0 ∧ ∀ k t, k < 50 → t < 4 → yo_s g W k t) ∨ (¬ c = 0 ∧ q ≤ yo_c W)) → wY_closeWork_2 post (d + 1) c h_made h_depth h_length h_tokenCount h_wrong h_letterCount h_ruleCount h_makingCount u h_stateCount h_wideCount h_useCount h_result b_ops b_firsts b_seconds b_sizes b_stack b_roots b_text b_ends b_tokenKinds b_tokenSizes b_letters b_begins b_closes b_empties b_nexts b_sets b_leads b_classes b_newClasses b_lefts b_rights b_counts b_making b_firstSets b_followSets b_states b_looks b_wides W b_met b_tasks b_held b_uses b_reach := by
    intro d
    induction d with
    | zero =>
      intro q hq c W h1 h2 h3
      rcases h3 with ⟨e, h3⟩ | ⟨_, h3⟩
      · exact br_t e (h W fun t ht => yo_end hg hS h1 h2 h3 ht)
      · have : yo_c W ≤ 36 := cn_le _ 36
        omega
    | succ d ih =>
      intro q hq c W h1 h2 h3
      rcases h3 with ⟨e, h3⟩ | ⟨e, h3⟩
      · exact br_t e (h W fun t ht => yo_end hg hS h1 h2 h3 ht)
      · refine br_f e ?_
        refine loop_0 (fun f n s => wY_closeWork_10 post (wY_closeWork_2 post (d + 1)) f s.1 (nI n) h_made h_depth h_length h_tokenCount h_wrong h_letterCount h_ruleCount h_makingCount u h_stateCount h_wideCount h_useCount h_result b_ops b_firsts b_seconds b_sizes b_stack b_roots b_text b_ends b_tokenKinds b_tokenSizes b_letters b_begins b_closes b_empties b_nexts b_sets b_leads b_classes b_newClasses b_lefts b_rights b_counts b_making b_firstSets b_followSets b_states b_looks b_wides s.2 b_met b_tasks b_held b_uses b_reach) (fun n s => (∀ t k, t < 4 → bl (b_work t) k = true → bl (s.2 t) k = true) ∧ (∀ t k, t < 4 → bl (s.2 t) k = true → cw_0 g (xo_S b_work) t k) ∧ ((s.1 = 0 ∧ s.2 = W ∧ ∀ n', n' < n → yo_s g W (n' / 4) (n' % 4)) ∨ (s.1 = 1 ∧ yo_c W < yo_c s.2))) 200 ((0 : Int32), W) ⟨h1, h2, Or.inl ⟨rfl, rfl, fun n' z => absurd z (Nat.not_lt_zero _)⟩⟩ ?_ ?_
        · rintro f ⟨c2, V⟩ ⟨s1, s2, s3⟩
          refine br_t (nI_le (Nat.le_refl 200) (by decide)) (ih (q + 1) (by omega) c2 V s1 s2 ?_)
          rcases s3 with ⟨e1, e2, e3⟩ | ⟨e1, e2⟩
          · have e1 : c2 = 0 := e1
            have e2 : V = W := e2
            subst e2
            refine Or.inl ⟨e1, fun k t hk ht => ?_⟩
            have := e3 (k * 4 + t) (by omega)
            rw [show (k * 4 + t) / 4 = k by omega, show (k * 4 + t) % 4 = t by omega] at this
            exact this
          · have e1 : c2 = 1 := e1
            have e2 : yo_c W < yo_c V := e2
            exact Or.inr ⟨by rw [e1]; decide, by omega⟩
        · rintro f n ⟨c2, V⟩ hn ⟨s1, s2, s3⟩ hk
          have s1 : ∀ t k, t < 4 → bl (b_work t) k = true → bl (V t) k = true := s1
          have s2 : ∀ t k, t < 4 → bl (V t) k = true → cw_0 g (xo_S b_work) t k := s2
          have s3 : (c2 = 0 ∧ V = W ∧ ∀ n', n' < n → yo_s g W (n' / 4) (n' % 4)) ∨ (c2 = 1 ∧ yo_c W < yo_c V) := s3
          have d1 : nI n / 4 = nI (n / 4) := pk_div (d := 4) (by omega) (by decide) (by decide)
          have d2 : nI n - nI n / 4 * 4 = nI (n % 4) := pk_rem (d := 4) (by omega) (by decide) (by decide)
          have ct : (nI (n % 4)).toNatClampNeg = n % 4 := nI_clamp (by omega)
          have keep : yo_s g V (n / 4) (n % 4) → wY_closeWork_68 post (wY_closeWork_2 post (d + 1)) (wY_closeWork_10 post (wY_closeWork_2 post (d + 1)) f) c2 (nI n) h_made h_depth h_length h_tokenCount h_wrong h_letterCount h_ruleCount h_makingCount u h_stateCount h_wideCount h_useCount h_result b_ops b_firsts b_seconds b_sizes b_stack b_roots b_text b_ends b_tokenKinds b_tokenSizes b_letters b_begins b_closes b_empties b_nexts b_sets b_leads b_classes b_newClasses b_lefts b_rights b_counts b_making b_firstSets b_followSets b_states b_looks b_wides V b_met b_tasks b_held b_uses b_reach := by
            intro z
            have go : wY_closeWork_10 post (wY_closeWork_2 post (d + 1)) f c2 (nI (n + 1)) h_made h_depth h_length h_tokenCount h_wrong h_letterCount h_ruleCount h_makingCount u h_stateCount h_wideCount h_useCount h_result b_ops b_firsts b_seconds b_sizes b_stack b_roots b_text b_ends b_tokenKinds b_tokenSizes b_letters b_begins b_closes b_empties b_nexts b_sets b_leads b_classes b_newClasses b_lefts b_rights b_counts b_making b_firstSets b_followSets b_states b_looks b_wides V b_met b_tasks b_held b_uses b_reach := by
              refine hk (c2, V) ⟨s1, s2, ?_⟩
              rcases s3 with ⟨e1, e2, e3⟩ | e
              · refine Or.inl ⟨e1, e2, fun n' hn' => ?_⟩
                by_cases en : n' = n
                · subst en; rw [← e2]; exact z
                · exact e3 n' (by omega)
              · exact Or.inr e
            rcases s3 with ⟨e1, _⟩ | ⟨e1, _⟩
            · rw [e1] at go ⊢
              exact br_t rfl (nm_r (nI_1 n) go)
            · rw [e1] at go ⊢
              exact br_f (by decide) (nm_r (nI_1 n) go)
          refine br_f (nI_ge hn (by decide)) ⟨by decide, nm_r d1 ⟨by decide, ?_⟩⟩
          rw [d2]
          refine ⟨vp_in_nI (by omega) (by decide), ?_⟩
          rw [ct]
          refine br_c (fun z => ?_) (fun z => br_t (by decide) (keep fun y => absurd ((bl_test _ (by omega)).mpr y) z))
          have z := (bl_test (V (n % 4)) (n := n / 4) (by omega)).mp z
          have io := (cw_ok hg hin (s2 _ _ (by omega) z)).1
          refine yw_nextOf hg hG io (fun v hv v7 => pk_le v 2 (fun y => keep fun _ r t hr hn' => ?_) (fun y => ⟨by decide, ?_⟩)) (fun hc => br_t (by decide) (keep fun _ r t hr hn' => ?_))
          · have := (hg.2.1 r hr.1).1
            have := hv.2.symm.trans hn'.2
            omega
          · rw [d2]
            refine yw_addRules (b_work := V) hg hG hU h4 hF io hv v7 (by omega) (fun c' W' hW' hc' => ?_)
            have w1 : ∀ t k, t < 4 → bl (b_work t) k = true → bl (W' t) k = true := fun t k ht hk => (hW' t k ht).mpr (Or.inl (s1 t k ht hk))
            have w2 : ∀ t k, t < 4 → bl (W' t) k = true → cw_0 g (xo_S b_work) t k := by
              intro t k ht hk
              rcases (hW' t k ht).mp hk with p | ⟨r, p1, p2, rfl, p4⟩
              · exact s2 t k ht p
              · exact cw_self g _ _ _ r t (s2 _ _ (by omega) z) p1 (by rw [p2]; exact hv) p4
            rcases hc' with ⟨c0, e0⟩ | ⟨c1, e1⟩
            · rw [c0, e0]
              refine br_t rfl (keep fun _ r t hr hn' hft => ?_)
              have ht : t < 4 := by have := fs_t_le (t := n % 4) (by omega) hft; omega
              have := (hW' t (5 * r) ht).mpr (Or.inr ⟨r, hr, hn'.2.symm.trans hv.2, rfl, hft⟩)
              rw [e0] at this
              exact this
            · rw [c1]
              refine br_f (by decide) (nm_r (nI_1 n) (hk (1, W') ⟨w1, w2, Or.inr ⟨rfl, ?_⟩⟩))
              show yo_c W < yo_c W'
              rcases s3 with ⟨_, e2, _⟩ | ⟨_, e2⟩
              · rw [← e2]; exact e1
              · omega
          · have := hn'.1
            omega
  exact ⟨39, key 38 0 rfl 1 b_work (fun _ _ _ z => z) (fun t k ht hk => cw_sub ⟨ht, hk⟩) (Or.inr ⟨by decide, by omega⟩)⟩
end
end
section
/-! the reference's wide states -/
variable {h_made h_depth h_length h_tokenCount h_wrong h_letterCount h_ruleCount h_makingCount h_usefulRules h_stateCount h_wideCount h_useCount h_result : Int32} {b_ops b_firsts b_seconds b_sizes b_stack b_roots b_text b_ends b_tokenKinds b_tokenSizes b_letters b_begins b_closes b_empties b_nexts b_sets b_leads b_classes b_newClasses b_lefts b_rights b_counts b_making b_firstSets b_followSets b_tasks b_held b_uses b_reach : Nat → Int32} {b_states b_looks b_wides b_work b_met : Nat → Int64}
section
variable {g : rg_T}
theorem yw_isWide {w : Nat} (hw : w ≤ 80) {post : Int32 → Prop} (h1 : xz_w b_wides w = w4_mk b_work → post 1) (h0 : xz_w b_wides w ≠ w4_mk b_work → post 0) : wpY_isWide post (h_made, h_depth, h_length, h_tokenCount, h_wrong, h_letterCount, h_ruleCount, h_makingCount, h_usefulRules, h_stateCount, h_wideCount, h_useCount, h_result, b_ops, b_firsts, b_seconds, b_sizes, b_stack, b_roots, b_text, b_ends, b_tokenKinds, b_tokenSizes, b_letters, b_begins, b_closes, b_empties, b_nexts, b_sets, b_leads, b_classes, b_newClasses, b_lefts, b_rights, b_counts, b_making, b_firstSets, b_followSets, b_states, b_looks, b_wides, b_work, b_met, b_tasks, b_held, b_uses, b_reach) (nI w) := by
  have e0 : (4 : Int32) * nI w = nI (w * 4 + 0) := by rw [Nat.add_zero, Nat.mul_comm]; exact pk_mul 4 w
  have e1 : (4 : Int32) * nI w + 1 = nI (w * 4 + 1) := ix_l4 w 1
  have e2 : (4 : Int32) * nI w + 2 = nI (w * 4 + 2) := ix_l4 w 2
  have e3 : (4 : Int32) * nI w + 3 = nI (w * 4 + 3) := ix_l4 w 3
  have ne : ∀ t, t < 4 → b_wides (w * 4 + t) ≠ b_work t → post 0 := by
    intro t ht z
    refine h0 fun e => z ?_
    have : w4_t (xz_w b_wides w) t = w4_t (w4_mk b_work) t := by rw [e]
    unfold xz_w at this
    rw [w4_tm ht, w4_tm ht] at this
    exact this
  refine ⟨pk_in (w * 4 + 0) 324 (by omega) e0, ?_⟩
  rw [pk_cl (w * 4 + 0) e0]
  refine br_c (fun z0 => ⟨pk_in (w * 4 + 1) 324 (by omega) e1, ?_⟩) (fun z => ne 0 (by omega) z)
  rw [pk_cl (w * 4 + 1) e1]
  refine br_c (fun z1 => ⟨pk_in (w * 4 + 2) 324 (by omega) e2, ?_⟩) (fun z => ne 1 (by omega) z)
  rw [pk_cl (w * 4 + 2) e2]
  refine br_c (fun z2 => ⟨pk_in (w * 4 + 3) 324 (by omega) e3, ?_⟩) (fun z => ne 2 (by omega) z)
  rw [pk_cl (w * 4 + 3) e3]
  refine br_c (fun z3 => h1 (w4_ext fun t ht => ?_)) (fun z => ne 3 (by omega) z)
  unfold xz_w
  rw [w4_tm ht, w4_tm ht]
  have : t = 0 ∨ t = 1 ∨ t = 2 ∨ t = 3 := by omega
  rcases this with rfl | rfl | rfl | rfl
  · exact z0
  · exact z1
  · exact z2
  · exact z3
theorem yw_noteWide {n : Nat} (hn : n ≤ 80) {post : SY → Prop} (h1 : (∃ w, w < n ∧ xz_w b_wides w = w4_mk b_work) → post (h_made, h_depth, h_length, h_tokenCount, h_wrong, h_letterCount, h_ruleCount, h_makingCount, h_usefulRules, h_stateCount, (nI n), h_useCount, h_result, b_ops, b_firsts, b_seconds, b_sizes, b_stack, b_roots, b_text, b_ends, b_tokenKinds, b_tokenSizes, b_letters, b_begins, b_closes, b_empties, b_nexts, b_sets, b_leads, b_classes, b_newClasses, b_lefts, b_rights, b_counts, b_making, b_firstSets, b_followSets, b_states, b_looks, b_wides, b_work, b_met, b_tasks, b_held, b_uses, b_reach)) (h2 : (∀ w, w < n → xz_w b_wides w ≠ w4_mk b_work) → post (h_made, h_depth, h_length, h_tokenCount, h_wrong, h_letterCount, h_ruleCount, h_makingCount, h_usefulRules, h_stateCount, (nI (n + 1)), h_useCount, h_result, b_ops, b_firsts, b_seconds, b_sizes, b_stack, b_roots, b_text, b_ends, b_tokenKinds, b_tokenSizes, b_letters, b_begins, b_closes, b_empties, b_nexts, b_sets, b_leads, b_classes, b_newClasses, b_lefts, b_rights, b_counts, b_making, b_firstSets, b_followSets, b_states, b_looks, (ax_set b_wides (n * 4) 4 b_work), b_work, b_met, b_tasks, b_held, b_uses, b_reach)) : wpY_noteWide post (h_made, h_depth, h_length, h_tokenCount, h_wrong, h_letterCount, h_ruleCount, h_makingCount, h_usefulRules, h_stateCount, (nI n), h_useCount, h_result, b_ops, b_firsts, b_seconds, b_sizes, b_stack, b_roots, b_text, b_ends, b_tokenKinds, b_tokenSizes, b_letters, b_begins, b_closes, b_empties, b_nexts, b_sets, b_leads, b_classes, b_newClasses, b_lefts, b_rights, b_counts, b_making, b_firstSets, b_followSets, b_states, b_looks, b_wides, b_work, b_met, b_tasks, b_held, b_uses, b_reach) := by
  refine loop_0 (fun f i (_ : Unit) => wY_noteWide_2 post h_made h_depth h_length h_tokenCount h_wrong h_letterCount h_ruleCount h_makingCount h_usefulRules h_stateCount (nI n) h_useCount h_result b_ops b_firsts b_seconds b_sizes b_stack b_roots b_text b_ends b_tokenKinds b_tokenSizes b_letters b_begins b_closes b_empties b_nexts b_sets b_leads b_classes b_newClasses b_lefts b_rights b_counts b_making b_firstSets b_followSets b_states b_looks b_wides b_work b_met b_tasks b_held b_uses b_reach f (nI i)) (fun i _ => ∀ w, w < i → xz_w b_wides w ≠ w4_mk b_work) n () (fun s hs => absurd hs (Nat.not_lt_zero s)) ?_ ?_
  · intro f _ hs
    refine br_t (nI_le (Nat.le_refl _) (by omega)) (br_t rfl ?_)
    refine loop_0 (fun f t s => wY_noteWide_34 post h_made h_depth h_length h_tokenCount h_wrong h_letterCount h_ruleCount h_makingCount h_usefulRules h_stateCount (nI n) h_useCount h_result f (nI t) b_ops b_firsts b_seconds b_sizes b_stack b_roots b_text b_ends b_tokenKinds b_tokenSizes b_letters b_begins b_closes b_empties b_nexts b_sets b_leads b_classes b_newClasses b_lefts b_rights b_counts b_making b_firstSets b_followSets b_states b_looks s b_work b_met b_tasks b_held b_uses b_reach) (fun t s => s = ax_set b_wides (n * 4) t b_work) 4 b_wides (ax_0 _ _ _).symm ?_ ?_
    · rintro f s rfl
      exact br_t (nI_le (Nat.le_refl 4) (by decide)) (nm_r (nI_1 n) (h2 hs))
    · rintro f t s ht rfl hk
      exact br_f (nI_ge ht (by decide)) ⟨vp_in_nI ht (by decide), pk_in (n * 4 + t) 324 (by omega) (ix_l4 n t), nm_r (by rw [pk_cl (n * 4 + t) (ix_l4 n t), nI_clamp (by omega : t < 2 ^ 31)]; exact ax_sL _ _ _ _) (nm_r (nI_1 t) (hk _ rfl))⟩
  · intro f i _ hi hs hk
    refine br_f (nI_ge hi (by omega)) (yw_isWide (by omega) (fun z => br_f (by decide) (br_f (fun e => ?_) (h1 ⟨i, hi, z⟩))) (fun z => br_t rfl (nm_r (nI_1 i) (hk () fun w hw => ?_))))
    · have := (nI_eq (a := i) (b := n) (by omega) (by omega)).mp e; omega
    · by_cases e : w = i
      · subst e; exact z
      · exact hs w (by omega)
def yz_k (g : rg_T) (k n : Nat) (arr : Nat → Int64) : Prop := (wb_B g k).2 = n ∧ ∀ i, i < n → xz_w arr i = (wb_B g k).1 i
def yz_ok (g : rg_T) (cnt : Int32) (arr : Nat → Int64) : Prop := ∃ k n, yz_k g k n arr ∧ n ≤ 81 ∧ (n * 7 ≤ k ∨ n = 81) ∧ cnt = nI n
theorem yw_makeWides (hg : rg_ok g) (hG : xg_G g b_lefts b_rights b_counts) {u : Int32} (hU : yg_U g u) (h4 : xb_4 b_firstSets) (hF : xb_ok g b_firstSets) {post : SY → Prop} (h : ∀ cnt arr W, yz_ok g cnt arr → post (h_made, h_depth, h_length, h_tokenCount, h_wrong, h_letterCount, h_ruleCount, h_makingCount, u, h_stateCount, cnt, h_useCount, h_result, b_ops, b_firsts, b_seconds, b_sizes, b_stack, b_roots, b_text, b_ends, b_tokenKinds, b_tokenSizes, b_letters, b_begins, b_closes, b_empties, b_nexts, b_sets, b_leads, b_classes, b_newClasses, b_lefts, b_rights, b_counts, b_making, b_firstSets, b_followSets, b_states, b_looks, arr, W, b_met, b_tasks, b_held, b_uses, b_reach)) : wpY_makeWides post (h_made, h_depth, h_length, h_tokenCount, h_wrong, h_letterCount, h_ruleCount, h_makingCount, u, h_stateCount, h_wideCount, h_useCount, h_result, b_ops, b_firsts, b_seconds, b_sizes, b_stack, b_roots, b_text, b_ends, b_tokenKinds, b_tokenSizes, b_letters, b_begins, b_closes, b_empties, b_nexts, b_sets, b_leads, b_classes, b_newClasses, b_lefts, b_rights, b_counts, b_making, b_firstSets, b_followSets, b_states, b_looks, b_wides, b_work, b_met, b_tasks, b_held, b_uses, b_reach) := by
  have fin : ∀ k n arr W, yz_k g k n arr → n ≤ 81 → (n * 7 ≤ k ∨ n = 81) → post (h_made, h_depth, h_length, h_tokenCount, h_wrong, h_letterCount, h_ruleCount, h_makingCount, u, h_stateCount, (nI n), h_useCount, h_result, b_ops, b_firsts, b_seconds, b_sizes, b_stack, b_roots, b_text, b_ends, b_tokenKinds, b_tokenSizes, b_letters, b_begins, b_closes, b_empties, b_nexts, b_sets, b_leads, b_classes, b_newClasses, b_lefts, b_rights, b_counts, b_making, b_firstSets, b_followSets, b_states, b_looks, arr, W, b_met, b_tasks, b_held, b_uses, b_reach) := fun k n arr W h1 h2 h3 => h _ arr W ⟨k, n, h1, h2, h3, rfl⟩
  have key : ∀ d s, s + d = 81 → ∀ k n arr W, s ≤ n → n ≤ 81 → yz_k g k n arr → (k = s * 7 ∨ n = 81) → wY_makeWides_46 post (d + 1) (nI s) h_made h_depth h_length h_tokenCount h_wrong h_letterCount h_ruleCount h_makingCount u h_stateCount (nI n) h_useCount h_result b_ops b_firsts b_seconds b_sizes b_stack b_roots b_text b_ends b_tokenKinds b_tokenSizes b_letters b_begins b_closes b_empties b_nexts b_sets b_leads b_classes b_newClasses b_lefts b_rights b_counts b_making b_firstSets b_followSets b_states b_looks arr W b_met b_tasks b_held b_uses b_reach := by
    intro d
    induction d with
    | zero =>
      intro s hs k n arr W h1 h2 h3 h5
      exact br_t (nI_le (by omega) (by omega)) (fin k n arr W h3 h2 (by omega))
    | succ d ih =>
      intro s hs k n arr W h1 h2 h3 h5
      refine pk_le n s (fun z => fin k n arr W h3 h2 (by omega)) (fun z => pk_le 81 n (fun y => fin k n arr W h3 h2 (by omega)) (fun y => ?_))
      have h5 : k = s * 7 := by omega
      subst h5
      refine loop_0 (fun f x σ => wY_makeWides_65 post (wY_makeWides_46 post (d + 1)) (nI s) f (nI x) h_made h_depth h_length h_tokenCount h_wrong h_letterCount h_ruleCount h_makingCount u h_stateCount (nI σ.1) h_useCount h_result b_ops b_firsts b_seconds b_sizes b_stack b_roots b_text b_ends b_tokenKinds b_tokenSizes b_letters b_begins b_closes b_empties b_nexts b_sets b_leads b_classes b_newClasses b_lefts b_rights b_counts b_making b_firstSets b_followSets b_states b_looks σ.2.1 σ.2.2 b_met b_tasks b_held b_uses b_reach) (fun x σ => s < σ.1 ∧ σ.1 ≤ 81 ∧ ∃ k, yz_k g k σ.1 σ.2.1 ∧ (k = s * 7 + x ∨ σ.1 = 81)) 7 (n, arr, W) ⟨z, h2, s * 7, h3, Or.inl rfl⟩ ?_ ?_
      · rintro f ⟨n, arr, W⟩ ⟨a1, a2, k, a3, a4⟩
        have a4 : k = s * 7 + 7 ∨ n = 81 := a4
        exact br_t (nI_le (Nat.le_refl 7) (by decide)) (nm_r (nI_1 s) (ih (s + 1) (by omega) k n arr W a1 a2 a3 (by omega)))
      · rintro f x ⟨n, arr, W⟩ hx ⟨a1, a2, k, a3, a4⟩ hk
        have a1 : s < n := a1
        have a2 : n ≤ 81 := a2
        have a3 : yz_k g k n arr := a3
        have a4 : k = s * 7 + x ∨ n = 81 := a4
        refine br_f (nI_ge hx (by decide)) (pk_le 81 n (fun y => ?_) (fun y => ?_))
        · exact nm_r (nI_1 s) (ih (s + 1) (by omega) k n arr W a1 a2 a3 (by omega))
        · have a4 : k = s * 7 + x := by omega
          subst a4
          have q1 : (s * 7 + x) / 7 = s := by omega
          have q2 : (s * 7 + x) % 7 = x := by omega
          have hn := a3.1
          have his := a3.2 s a1
          have hio : tw_io g ((wb_B g (s * 7 + x)).1 s) := wb_io hg _ s (by omega)
          have eB : wb_B g (s * 7 + x + 1) = bf_st (tw_to g) (s * 7 + x) (wb_B g (s * 7 + x)) := rfl
          have hat : ∀ t, t < 4 → arr (s * 4 + t) = w4_t ((wb_B g (s * 7 + x)).1 s) t := by
            intro t ht
            rw [← his]
            unfold xz_w
            rw [w4_tm ht]
          have keep : wb_B g (s * 7 + x + 1) = wb_B g (s * 7 + x) → s < n ∧ n ≤ 81 ∧ ∃ k, yz_k g k n arr ∧ (k = s * 7 + (x + 1) ∨ n = 81) := by
            intro e
            refine ⟨a1, a2, s * 7 + x + 1, ?_, Or.inl rfl⟩
            unfold yz_k
            rw [e]; exact a3
          refine loop_0 (fun f' t σ => wY_makeWides_85 post (wY_makeWides_46 post (d + 1)) (wY_makeWides_65 post (wY_makeWides_46 post (d + 1)) (nI s) f) (nI s) (nI x) h_made h_depth h_length h_tokenCount h_wrong h_letterCount h_ruleCount h_makingCount u h_stateCount (nI n) h_useCount h_result f' σ.1 (nI t) b_ops b_firsts b_seconds b_sizes b_stack b_roots b_text b_ends b_tokenKinds b_tokenSizes b_letters b_begins b_closes b_empties b_nexts b_sets b_leads b_classes b_newClasses b_lefts b_rights b_counts b_making b_firstSets b_followSets b_states b_looks arr σ.2 b_met b_tasks b_held b_uses b_reach) (fun t σ => (∀ j, bl σ.1 j = true ↔ ∃ t', t' < t ∧ tw_mv g ((wb_B g (s * 7 + x)).1 s) x t' j) ∧ ∀ t' j, t' < t → (bl (σ.2 t') j = true ↔ tw_mv g ((wb_B g (s * 7 + x)).1 s) x t' j)) 4 ((0 : Int64), W) ⟨fun j => ?_, fun t' j z => absurd z (Nat.not_lt_zero _)⟩ ?_ ?_
          · show bl 0 j = true ↔ _
            rw [bl_0]; exact ⟨(fun z => by cases z), fun ⟨t', z, _⟩ => absurd z (Nat.not_lt_zero _)⟩
          · rintro f' ⟨A, M⟩ ⟨m1, m2⟩
            have m1 : ∀ j, bl A j = true ↔ ∃ t', t' < 4 ∧ tw_mv g ((wb_B g (s * 7 + x)).1 s) x t' j := m1
            have m2 : ∀ t' j, t' < 4 → (bl (M t') j = true ↔ tw_mv g ((wb_B g (s * 7 + x)).1 s) x t' j) := m2
            refine br_t (nI_le (Nat.le_refl 4) (by decide)) (br_c (fun z => ?_) (fun z => ?_))
            · have no : tw_to g ((wb_B g (s * 7 + x)).1 s) x = none := if_neg fun ⟨t, j, hj⟩ => bl_no z j ((m1 j).mpr ⟨t, hj.1, hj⟩)
              exact nm_r (nI_1 x) (hk (n, arr, M) (keep (eB.trans (bf_none (by rw [q1, q2]; exact no)))))
            · obtain ⟨j0, hj0⟩ := bl_ne z
              obtain ⟨t0, ht0, hm0⟩ := (m1 j0).mp hj0
              have ioM : xo_io g M := fun t j ht hj => tw_mv_ok hg hio ((m2 t j ht).mp hj)
              have eM : xo_S M = tw_mv g ((wb_B g (s * 7 + x)).1 s) x := by
                funext t j
                exact propext ⟨fun q => (m2 t j q.1).mp q.2, fun q => ⟨q.1, (m2 t j q.1).mpr q⟩⟩
              have sm : tw_to g ((wb_B g (s * 7 + x)).1 s) x = some (w4_mk fun t => mk_l (cw_0 g (tw_mv g ((wb_B g (s * 7 + x)).1 s) x) t)) := tw_ex hm0
              refine yw_closeWork (b_work := M) hg hG hU h4 hF ioM (fun C hC => ?_)
              rw [eM] at hC
              have eC : w4_mk C = w4_mk fun t => mk_l (cw_0 g (tw_mv g ((wb_B g (s * 7 + x)).1 s) x) t) := w4_ext fun t ht => by rw [w4_tm ht, w4_tm ht]; exact hC t ht
              refine yw_noteWide (b_wides := arr) (b_work := C) (by omega) (fun q => nm_r (nI_1 x) (hk (n, arr, C) (keep (eB.trans ?_)))) (fun q => nm_r (nI_1 x) (hk (n + 1, ax_set arr (n * 4) 4 C, C) ⟨by show s < n + 1; omega, by show n + 1 ≤ 81; omega, s * 7 + x + 1, ?_, Or.inl rfl⟩))
              · obtain ⟨w, w1, w2⟩ := q
                rw [eC, a3.2 w w1] at w2
                exact bf_old (by rw [q1, q2]; exact sm) ⟨w, by omega, w2⟩
              · have new : ¬ ∃ s', s' < (wb_B g (s * 7 + x)).2 ∧ (wb_B g (s * 7 + x)).1 s' = w4_mk fun t => mk_l (cw_0 g (tw_mv g ((wb_B g (s * 7 + x)).1 s) x) t) := by
                  rintro ⟨s', z1, z2⟩
                  exact q s' (by omega) (by rw [eC, a3.2 s' (by omega)]; exact z2)
                have eN := eB.trans (bf_new (by rw [q1]; omega) (by rw [q1, q2]; exact sm) new)
                unfold yz_k
                rw [eN, hn]
                refine ⟨rfl, fun i hi => ?_⟩
                have hi : i < n + 1 := hi
                show xz_w (ax_set arr (n * 4) 4 C) i = if i = n then _ else _
                by_cases e : i = n
                · subst e; rw [if_pos rfl, xz_in]; exact eC
                · rw [if_neg e, xz_out (by omega)]; exact a3.2 i (by omega)
          · rintro f' t ⟨A, M⟩ ht ⟨m1, m2⟩ hk2
            have m1 : ∀ j, bl A j = true ↔ ∃ t', t' < t ∧ tw_mv g ((wb_B g (s * 7 + x)).1 s) x t' j := m1
            have m2 : ∀ t' j, t' < t → (bl (M t') j = true ↔ tw_mv g ((wb_B g (s * 7 + x)).1 s) x t' j) := m2
            have ct : (nI t).toNatClampNeg = t := nI_clamp (by omega)
            refine br_f (nI_ge ht (by decide)) ⟨pk_in (s * 4 + t) 324 (by omega) (ix_l4 s t), ?_⟩
            rw [pk_cl (s * 4 + t) (ix_l4 s t)]
            have ioS : tb_io g (arr (s * 4 + t)) := fun i hi => (hio t i ht (by rw [← hat t ht]; exact hi)).1
            refine yw_moved hg hG ioS hx (fun T hT => ⟨vp_in_nI ht (by decide), nm_r (e' := vp_updL M t T) (by rw [ct]) ⟨vp_in_nI ht (by decide), nm_r (e' := A ||| T) (by rw [ct, pk_uLs]) (nm_r (nI_1 t) (hk2 (A ||| T, vp_updL M t T) ⟨fun j => ?_, fun t' j ht' => ?_⟩))⟩⟩)
            · show bl (A ||| T) j = true ↔ _
              rw [bl_or, Bool.or_eq_true, m1 j, hT j, hat t ht]
              constructor
              · rintro (⟨t', z⟩ | z)
                · exact ⟨t', by omega, z.2⟩
                · exact ⟨t, by omega, ht, z⟩
              · rintro ⟨t', z1, z2⟩
                by_cases e : t' = t
                · subst e; exact Or.inr z2.2
                · exact Or.inl ⟨t', by omega, z2⟩
            · show bl (vp_updL M t T t') j = true ↔ _
              by_cases e : t' = t
              · subst e
                rw [pk_uLs, hT j, hat t' ht]
                exact ⟨fun z => ⟨ht, z⟩, fun z => z.2⟩
              · rw [pk_uLn e]; exact m2 t' j (by omega)
  refine loop_0 (fun f t s => wY_makeWides_2 post h_made h_depth h_length h_tokenCount h_wrong h_letterCount h_ruleCount h_makingCount u h_stateCount h_wideCount h_useCount h_result f (nI t) b_ops b_firsts b_seconds b_sizes b_stack b_roots b_text b_ends b_tokenKinds b_tokenSizes b_letters b_begins b_closes b_empties b_nexts b_sets b_leads b_classes b_newClasses b_lefts b_rights b_counts b_making b_firstSets b_followSets b_states b_looks b_wides s b_met b_tasks b_held b_uses b_reach) (fun t s => ∀ t', t' < t → ∀ k, bl (s t') k = true ↔ t' = 3 ∧ k = 45) 4 b_work (fun t' z => absurd z (Nat.not_lt_zero _)) ?_ ?_
  · intro f s hs
    have eS : xo_S s = fun t k => t = 3 ∧ k = 45 := by
      funext t k
      exact propext ⟨fun z => (hs t z.1 k).mp z.2, fun z => ⟨by omega, (hs t (by omega) k).mpr z⟩⟩
    have io0 : xo_io g s := fun t k ht hk => tw_45 t k ((hs t ht k).mp hk)
    refine br_t (nI_le (Nat.le_refl 4) (by decide)) (yw_closeWork (b_work := s) hg hG hU h4 hF io0 (fun C hC => ?_))
    rw [eS] at hC
    have eC : w4_mk C = tw_a0 g := w4_ext fun t ht => by
      unfold tw_a0
      rw [w4_tm ht, w4_tm ht]; exact hC t ht
    refine yw_noteWide (n := 0) (b_wides := b_wides) (b_work := C) (by omega) (fun ⟨w, q, _⟩ => absurd q (Nat.not_lt_zero _)) (fun _ => ⟨82, key 81 0 rfl 0 1 _ C (by omega) (by omega) ⟨rfl, fun i hi => ?_⟩ (Or.inl rfl)⟩)
    have hi : i = 0 := by omega
    subst hi
    rw [xz_in]; exact eC
  · intro f t s ht hs hk
    have ct : (nI t).toNatClampNeg = t := nI_clamp (by omega)
    refine br_f (nI_ge ht (by decide)) (pk_eq t 3 (fun z => ?_) (fun z => ?_))
    · refine ⟨vp_in_nI (by omega) (by decide), nm_r (by rw [ct]) (nm_r (nI_1 t) (hk _ fun t' ht' k => ?_))⟩
      by_cases e : t' = t
      · subst e; rw [pk_uLs, bl_45, decide_eq_true_eq]; exact ⟨fun y => ⟨z, y⟩, fun y => y.2⟩
      · rw [pk_uLn e]; exact hs t' (by omega) k
    · refine ⟨vp_in_nI (by omega) (by decide), nm_r (by rw [ct]) (nm_r (nI_1 t) (hk _ fun t' ht' k => ?_))⟩
      by_cases e : t' = t
      · subst e; rw [pk_uLs, bl_0]; exact ⟨(fun y => by cases y), fun y => absurd y.1 z⟩
      · rw [pk_uLn e]; exact hs t' (by omega) k
end
end
section
/-! the reference's looks in the states -/
variable {h_made h_depth h_length h_tokenCount h_wrong h_letterCount h_ruleCount h_makingCount h_usefulRules h_stateCount h_wideCount h_useCount h_result : Int32} {b_ops b_firsts b_seconds b_sizes b_stack b_roots b_text b_ends b_tokenKinds b_tokenSizes b_letters b_begins b_closes b_empties b_nexts b_sets b_leads b_classes b_newClasses b_lefts b_rights b_counts b_making b_firstSets b_followSets b_tasks b_held b_uses b_reach : Nat → Int32} {b_states b_looks b_wides b_work b_met : Nat → Int64}
section
variable {g : rg_T}
theorem tb_no45 (hg : rg_ok g) {S T : Int64} {x : Nat} (hS : tb_io g S) (h : tb_to g S x = some T) : ¬ bl T 45 = true := by
  intro z
  have := (tb_blt hg hS h 45).mp z
  refine this (fun k => k ≠ 45) ?_ ?_ rfl
  · rintro k ⟨i, rfl, h1, h2⟩ e
    have e : i = 44 := by omega
    subst e
    have := h2.1
    have c4 : rg_c g (44 / 5) ≤ 4 := by
      have io := hS 44 h1
      exact ((tg_ok hg).2.1 _ io.1).1
    omega
  · rintro k r _ hU _ e
    have := hU.1
    have := hg.1
    omega
/-- every state but the first is led to -/
theorem tb_led (hg : rg_ok g) {f : Nat → Int64} {n : Nat} (hf : tb_full g f n) {s' : Nat} (hs' : s' < n) : s' = 0 ∨ ∃ s x, s < n ∧ x < 7 ∧ tb_to g (f s) x = some (f s') := by
  have := hf.2.2.2.1 (fun a => (∃ s, s < n ∧ f s = a) ∧ (a = tb_a0 g ∨ ∃ s x, s < n ∧ x < 7 ∧ tb_to g (f s) x = some a)) ⟨⟨0, hf.1, hf.2.1⟩, Or.inl rfl⟩ (fun a x b hx ⟨⟨s, h1, h2⟩, _⟩ hto => ?_) s' hs'
  · rcases this.2 with e | e
    · exact Or.inl (hf.2.2.1 s' 0 hs' hf.1 (by rw [e, hf.2.1]))
    · exact Or.inr e
  · obtain ⟨s1, q1, q2⟩ := hf.2.2.2.2 s x b h1 hx (by rw [h2]; exact hto)
    exact ⟨⟨s1, q1, q2⟩, Or.inr ⟨s, x, h1, hx, by rw [h2]; exact hto⟩⟩
theorem yw_pass (hg : rg_ok g) (hG : xg_G g b_lefts b_rights b_counts) {u : Int32} (hU : yg_U g u) (h4 : xb_4 b_firstSets) (hF : xb_ok g b_firstSets) {f : Nat → Int64} {n s x : Nat} (hn : n ≤ 60) (hf : tb_full g f n) (hst : ∀ i, i < n → b_states i = f i) (hs : s < n) (hx : x < 7) (hA : sp_in g f n b_looks) {post : Int32 → SY → Prop}
    (h0 : ∀ W, sp_ps g f n b_looks s x → (∀ s', s' < n → tb_to g (f s) x = some (f s') → sp_cl g b_looks s') → post 0 (h_made, h_depth, h_length, h_tokenCount, h_wrong, h_letterCount, h_ruleCount, h_makingCount, u, (nI n), h_wideCount, h_useCount, h_result, b_ops, b_firsts, b_seconds, b_sizes, b_stack, b_roots, b_text, b_ends, b_tokenKinds, b_tokenSizes, b_letters, b_begins, b_closes, b_empties, b_nexts, b_sets, b_leads, b_classes, b_newClasses, b_lefts, b_rights, b_counts, b_making, b_firstSets, b_followSets, b_states, b_looks, b_wides, W, b_met, b_tasks, b_held, b_uses, b_reach))
    (h1 : ∀ W B, sp_le n b_looks B → sp_in g f n B → sp_c n b_looks < sp_c n B → (∀ t, t < 4 → B (0 * 4 + t) = b_looks (0 * 4 + t)) → post 1 (h_made, h_depth, h_length, h_tokenCount, h_wrong, h_letterCount, h_ruleCount, h_makingCount, u, (nI n), h_wideCount, h_useCount, h_result, b_ops, b_firsts, b_seconds, b_sizes, b_stack, b_roots, b_text, b_ends, b_tokenKinds, b_tokenSizes, b_letters, b_begins, b_closes, b_empties, b_nexts, b_sets, b_leads, b_classes, b_newClasses, b_lefts, b_rights, b_counts, b_making, b_firstSets, b_followSets, b_states, B, b_wides, W, b_met, b_tasks, b_held, b_uses, b_reach)) : wpY_pass post (h_made, h_depth, h_length, h_tokenCount, h_wrong, h_letterCount, h_ruleCount, h_makingCount, u, (nI n), h_wideCount, h_useCount, h_result, b_ops, b_firsts, b_seconds, b_sizes, b_stack, b_roots, b_text, b_ends, b_tokenKinds, b_tokenSizes, b_letters, b_begins, b_closes, b_empties, b_nexts, b_sets, b_leads, b_classes, b_newClasses, b_lefts, b_rights, b_counts, b_making, b_firstSets, b_followSets, b_states, b_looks, b_wides, b_work, b_met, b_tasks, b_held, b_uses, b_reach) (nI s) (nI x) := by
  have cs : (nI s).toNatClampNeg = s := nI_clamp (by omega)
  have hio := tb_fio hg hf hs
  refine ⟨vp_in_nI (by omega) (by decide), ?_⟩
  rw [cs, hst s hs]
  refine yw_moved hg hG hio hx (fun M hM => br_c (fun z => ?_) (fun z => ?_))
  · have no : tb_to g (f s) x = none := if_neg fun ⟨k, hk⟩ => bl_no z k ((hM k).mpr hk)
    refine h0 b_work (fun s' t k _ q => ?_) (fun s' _ q => ?_)
    · rw [no] at q; cases q
    · rw [no] at q; cases q
  · obtain ⟨k0, hk0⟩ := bl_ne z
    have ioM : tb_io g M := fun i hi => tb_mv_ok hg hio ((hM i).mp hi)
    have eM : (fun i => bl M i = true) = tb_mv g (f s) x := by
      funext i
      exact propext (hM i)
    have sm := tb_ex ((hM k0).mp hk0)
    obtain ⟨s', w0, w1⟩ := hf.2.2.2.2 s x _ hs hx sm
    refine yw_closure hg hG hU ioM ?_
    rw [eM, ← w1]
    rw [← w1] at sm
    refine yw_findState (by omega) (fun s2 q1 q2 => ?_) (fun q => absurd (hst s' w0) (q s' w0))
    have e2 : s2 = s' := hf.2.2.1 s2 s' q1 w0 (by rw [← hst s2 q1]; exact q2)
    subst e2
    have s0 : s2 ≠ 0 := by
      intro e
      refine tb_no45 hg hio sm ?_
      rw [e, hf.2.1]
      exact (tb_bl0 hg 45).mpr (cl_sub rfl)
    -- what is put together
    have ioB := sp_io hg hf hA w0
    have ioA := sp_io hg hf hA hs
    refine loop_0 (fun fu t W => wY_pass_37 post (nI s) (nI x) (nI s2) 0 h_made h_depth h_length h_tokenCount h_wrong h_letterCount h_ruleCount h_makingCount u (nI n) h_wideCount h_useCount h_result fu (nI t) b_ops b_firsts b_seconds b_sizes b_stack b_roots b_text b_ends b_tokenKinds b_tokenSizes b_letters b_begins b_closes b_empties b_nexts b_sets b_leads b_classes b_newClasses b_lefts b_rights b_counts b_making b_firstSets b_followSets b_states b_looks b_wides W b_met b_tasks b_held b_uses b_reach) (fun t W => ∀ t' k, t' < t → (bl (W t') k = true ↔ bl (b_looks (s2 * 4 + t')) k = true ∨ tb_mv g (b_looks (s * 4 + t')) x k)) 4 b_work (fun t' k q => absurd q (Nat.not_lt_zero _)) ?_ ?_
    · intro fu W hW
      have ioW : xo_io g W := by
        intro t k ht hk
        rcases (hW t k ht).mp hk with q | ⟨i, rfl, q1, q2⟩
        · exact ioB t k ht q
        · have p := ioA t i ht q1
          have p2 := im_s hg p.1 q2
          exact ⟨p2.1, p.2.1, fun e => p.2.2 (by rw [← p2.2.1]; exact e)⟩
      have hinW : ∀ t k, xo_S W t k → tw_in g t k := fun t k q => ioW t k q.1 q.2
      refine br_t (nI_le (Nat.le_refl 4) (by decide)) (yw_closeWork (b_work := W) hg hG hU h4 hF ioW (fun C hC => ?_))
      have bC : ∀ t, t < 4 → ∀ k, bl (C t) k = true ↔ cw_0 g (xo_S W) t k := by
        intro t ht k
        rw [hC t ht]
        have := tw_mk hg hinW ht k
        rw [w4_tm ht] at this
        exact this
      have eO : ∀ s3 t, s3 ≠ s2 → t < 4 → ax_set b_looks (s2 * 4) 4 C (s3 * 4 + t) = b_looks (s3 * 4 + t) := fun s3 t hne ht => ax_out (by omega)
      have le : sp_le n b_looks (ax_set b_looks (s2 * 4) 4 C) := by
        intro s3 t k p1 p2 p3
        by_cases e : s3 = s2
        · subst e
          rw [ax_in p2]
          exact (bC t p2 k).mpr (cw_sub ⟨p2, (hW t k p2).mpr (Or.inl p3)⟩)
        · rw [eO s3 t e p2]; exact p3
      have inn : sp_in g f n (ax_set b_looks (s2 * 4) 4 C) := by
        intro s3 t k p1 p2 p3
        by_cases e : s3 = s2
        · subst e
          rw [ax_in p2] at p3
          refine (bC t p2 k).mp p3 (la_L g f n s3) (fun t k q => ?_) ((la_self g f n).2.1 s3 p1)
          rcases (hW t k q.1).mp q.2 with w | ⟨i, rfl, w2, w3⟩
          · exact hA s3 t k p1 q.1 w
          · exact (la_self g f n).2.2 s t i x s3 hs p1 (hA s t i hs q.1 w2) w3 sm
        · rw [eO s3 t e p2] at p3; exact hA s3 t k p1 p2 p3
      -- the store of the four
      refine loop_0 (fun fu t σ => wY_pass_92 post (nI s2) h_made h_depth h_length h_tokenCount h_wrong h_letterCount h_ruleCount h_makingCount u (nI n) h_wideCount h_useCount h_result fu σ.1 (nI t) b_ops b_firsts b_seconds b_sizes b_stack b_roots b_text b_ends b_tokenKinds b_tokenSizes b_letters b_begins b_closes b_empties b_nexts b_sets b_leads b_classes b_newClasses b_lefts b_rights b_counts b_making b_firstSets b_followSets b_states σ.2 b_wides C b_met b_tasks b_held b_uses b_reach) (fun t σ => σ.2 = ax_set b_looks (s2 * 4) t C ∧ ((σ.1 = 0 ∧ ∀ t', t' < t → C t' = b_looks (s2 * 4 + t')) ∨ (σ.1 = 1 ∧ ∃ t', t' < 4 ∧ C t' ≠ b_looks (s2 * 4 + t')))) 4 ((0 : Int32), b_looks) ⟨(ax_0 _ _ _).symm, Or.inl ⟨rfl, fun t' q => absurd q (Nat.not_lt_zero _)⟩⟩ ?_ ?_
      · rintro fu ⟨c, B⟩ ⟨e1, e2⟩
        have e1 : B = ax_set b_looks (s2 * 4) 4 C := e1
        subst e1
        refine br_t (nI_le (Nat.le_refl 4) (by decide)) ?_
        rcases e2 with ⟨c0, e2⟩ | ⟨c1, t, ht, e2⟩
        · have c0 : c = 0 := c0
          subst c0
          have same : ax_set b_looks (s2 * 4) 4 C = b_looks := by
            funext j
            unfold ax_set
            by_cases q : s2 * 4 ≤ j ∧ j < s2 * 4 + 4
            · rw [if_pos q, e2 _ (by omega), show s2 * 4 + (j - s2 * 4) = j by omega]
            · rw [if_neg q]
          refine ⟨nb_0, ?_⟩
          have := h0 C (fun s3 t k p1 p2 p3 p4 p5 => ?_) (fun s3 p1 p2 => ?_)
          · rw [← same] at this
            have same2 : ax_set (ax_set b_looks (s2 * 4) 4 C) (s2 * 4) 4 C = ax_set b_looks (s2 * 4) 4 C := ax_ax _ _ _ _ _
            rw [same] at this ⊢
            exact this
          · have e3 : s3 = s2 := hf.2.2.1 s3 s2 p1 w0 (by rw [sm] at p2; exact (Option.some.inj p2).symm)
            subst e3
            rw [← e2 t p3]
            exact (bC t p3 _).mpr (cw_sub ⟨p3, (hW t _ p3).mpr (Or.inr ⟨k, rfl, p4, p5⟩)⟩)
          · have e3 : s3 = s2 := hf.2.2.1 s3 s2 p1 w0 (by rw [sm] at p2; exact (Option.some.inj p2).symm)
            subst e3
            intro t k r t' q1 q2 q3 q4
            have ht' : t' < 4 := by have := fs_t_le (t := t) (by omega) q4; omega
            rw [← e2 t q1.1] at q1
            exact ⟨ht', by rw [← e2 t' ht']; exact (bC t' ht' _).mpr (cw_self g _ t k r t' ((bC t q1.1 k).mp q1.2) q2 q3 q4)⟩
        · have c1 : c = 1 := c1
          subst c1
          refine ⟨nb_1, h1 C _ le inn ?_ (fun t ht => eO 0 t (fun q => s0 q.symm) ht)⟩
          have : ∃ k, bl (C t) k = true ∧ ¬ bl (b_looks (s2 * 4 + t)) k = true := by
            refine Classical.byContradiction fun q => e2 (bl_ext fun i _ => ?_)
            have up := le s2 t i w0 ht
            rw [ax_in ht] at up
            cases c1 : bl (C t) i
            · cases c2 : bl (b_looks (s2 * 4 + t)) i
              · rfl
              · rw [up c2] at c1; cases c1
            · cases c2 : bl (b_looks (s2 * 4 + t)) i
              · exact absurd ⟨i, c1, by rw [c2]; intro q3; cases q3⟩ q
              · rfl
          obtain ⟨k, p1, p2⟩ := this
          refine sp_lt hn le w0 ht ?_ p2 (by show bl (ax_set b_looks (s2 * 4) 4 C (s2 * 4 + t)) k = true; rw [ax_in ht]; exact p1)
          exact im_lt hg (cw_ok hg hinW ((bC t ht k).mp p1)).1
      · rintro fu t ⟨c, B⟩ ht ⟨e1, e2⟩ hk
        have e1 : B = ax_set b_looks (s2 * 4) t C := e1
        subst e1
        have e2 : (c = 0 ∧ ∀ t', t' < t → C t' = b_looks (s2 * 4 + t')) ∨ (c = 1 ∧ ∃ t', t' < 4 ∧ C t' ≠ b_looks (s2 * 4 + t')) := e2
        have ct : (nI t).toNatClampNeg = t := nI_clamp (by omega)
        have ii : vp_in (4 * nI s2 + nI t) 244 := pk_in (s2 * 4 + t) 244 (by omega) (ix_l4 s2 t)
        have ci : (4 * nI s2 + nI t).toNatClampNeg = s2 * 4 + t := pk_cl (s2 * 4 + t) (ix_l4 s2 t)
        have st : ∀ c' : Int32, ((c' = 0 ∧ ∀ t', t' < t + 1 → C t' = b_looks (s2 * 4 + t')) ∨ (c' = 1 ∧ ∃ t', t' < 4 ∧ C t' ≠ b_looks (s2 * 4 + t'))) → wY_pass_131 post (wY_pass_92 post (nI s2) h_made h_depth h_length h_tokenCount h_wrong h_letterCount h_ruleCount h_makingCount u (nI n) h_wideCount h_useCount h_result fu) (nI s2) (nI t) c' h_made h_depth h_length h_tokenCount h_wrong h_letterCount h_ruleCount h_makingCount u (nI n) h_wideCount h_useCount h_result b_ops b_firsts b_seconds b_sizes b_stack b_roots b_text b_ends b_tokenKinds b_tokenSizes b_letters b_begins b_closes b_empties b_nexts b_sets b_leads b_classes b_newClasses b_lefts b_rights b_counts b_making b_firstSets b_followSets b_states (ax_set b_looks (s2 * 4) t C) b_wides C b_met b_tasks b_held b_uses b_reach := by
          intro c' hc'
          exact ⟨vp_in_nI ht (by decide), ii, nm_r (by rw [ci, ct]; exact ax_sL _ _ _ _) (nm_r (nI_1 t) (hk (c', ax_set b_looks (s2 * 4) (t + 1) C) ⟨rfl, hc'⟩))⟩
        refine br_f (nI_ge ht (by decide)) (br_c (fun q => ⟨vp_in_nI ht (by decide), ii, ?_⟩) (fun q => ?_))
        · have q : c = 0 := q
          rw [ci, ct]
          refine br_c (fun p => st 0 (Or.inl ⟨rfl, fun t' ht' => ?_⟩)) (fun p => st 1 (Or.inr ⟨rfl, t, ht, ?_⟩))
          · have p : C t = ax_set b_looks (s2 * 4) t C (s2 * 4 + t) := p
            rw [ax_out (by omega)] at p
            by_cases e : t' = t
            · subst e; exact p
            · rcases e2 with ⟨_, e2⟩ | ⟨e2, _⟩
              · exact e2 t' (by omega)
              · rw [q] at e2; exact absurd e2 (by decide)
          · intro p2
            apply p
            show C t = ax_set b_looks (s2 * 4) t C (s2 * 4 + t)
            rw [ax_out (by omega)]; exact p2
        · have q : ¬ c = 0 := q
          rcases e2 with ⟨e2, _⟩ | ⟨_, e2⟩
          · exact absurd e2 q
          · exact st 1 (Or.inr ⟨rfl, e2⟩)
    · intro fu t W ht hW hk
      have ct : (nI t).toNatClampNeg = t := nI_clamp (by omega)
      refine br_f (nI_ge ht (by decide)) ⟨pk_in (s2 * 4 + t) 244 (by omega) (ix_l4 s2 t), pk_in (s * 4 + t) 244 (by omega) (ix_l4 s t), ?_⟩
      rw [pk_cl (s2 * 4 + t) (ix_l4 s2 t), pk_cl (s * 4 + t) (ix_l4 s t)]
      have ioS : tb_io g (b_looks (s * 4 + t)) := fun i hi => (ioA t i ht hi).1
      refine yw_moved hg hG ioS hx (fun T hT => ⟨vp_in_nI ht (by decide), nm_r (e' := vp_updL W t (b_looks (s2 * 4 + t) ||| T)) (by rw [ct]) (nm_r (nI_1 t) (hk _ fun t' k ht' => ?_))⟩)
      by_cases e : t' = t
      · subst e; rw [pk_uLs, bl_or, Bool.or_eq_true, hT k]
      · rw [pk_uLn e]; exact hW t' k (by omega)
/-- one round -/
def yp_I (g : rg_T) (f : Nat → Int64) (n : Nat) (A : Nat → Int64) (m : Nat) (σ : Int32 × (Nat → Int64)) : Prop := sp_le n A σ.2 ∧ sp_in g f n σ.2 ∧ bl (σ.2 3) 45 = true ∧ sp_cl g σ.2 0 ∧ ((σ.1 = 0 ∧ σ.2 = A ∧ ∀ m', m' < m → sp_ps g f n A (m' / 7) (m' % 7) ∧ ∀ s', s' < n → tb_to g (f (m' / 7)) (m' % 7) = some (f s') → sp_cl g A s') ∨ (σ.1 = 1 ∧ sp_c n A < sp_c n σ.2))
theorem yp_I0 {f : Nat → Int64} {n : Nat} {A : Nat → Int64} (hA : sp_in g f n A) (h0 : bl (A 3) 45 = true) (hc : sp_cl g A 0) : yp_I g f n A 0 ((0 : Int32), A) := ⟨fun _ _ _ _ _ z => z, hA, h0, hc, Or.inl ⟨rfl, rfl, fun m' q => absurd q (Nat.not_lt_zero _)⟩⟩
theorem sp_cl0 {A B : Nat → Int64} {s : Nat} (e : ∀ t, t < 4 → B (s * 4 + t) = A (s * 4 + t)) (h : sp_cl g A s) : sp_cl g B s := by
  intro t k r t' q1 q2 q3 q4
  rw [e t q1.1] at q1
  have := h t k r t' q1 q2 q3 q4
  exact ⟨this.1, by rw [e t' this.1]; exact this.2⟩
theorem yw_round (hg : rg_ok g) (hG : xg_G g b_lefts b_rights b_counts) {u : Int32} (hU : yg_U g u) (h4 : xb_4 b_firstSets) (hF : xb_ok g b_firstSets) {f : Nat → Int64} {n : Nat} (hn : n ≤ 60) (hf : tb_full g f n) (hst : ∀ i, i < n → b_states i = f i) {A W : Nat → Int64} (hA : sp_in g f n A) (h0 : bl (A 3) 45 = true) (hc : sp_cl g A 0) {post : SY → Prop} {J : Int32 → Int32 → Int32 → Int32 → Int32 → Int32 → Int32 → Int32 → Int32 → Int32 → Int32 → Int32 → Int32 → Int32 → (Nat → Int32) → (Nat → Int32) → (Nat → Int32) → (Nat → Int32) → (Nat → Int32) → (Nat → Int32) → (Nat → Int32) → (Nat → Int32) → (Nat → Int32) → (Nat → Int32) → (Nat → Int32) → (Nat → Int32) → (Nat → Int32) → (Nat → Int32) → (Nat → Int32) → (Nat → Int32) → (Nat → Int32) → (Nat → Int32) → (Nat → Int32) → (Nat → Int32) → (Nat → Int32) → (Nat → Int32) → (Nat → Int32) → (Nat → Int32) → (Nat → Int32) → (Nat → Int64) → (Nat → Int64) → (Nat → Int64) → (Nat → Int64) → (Nat → Int64) → (Nat → Int32) → (Nat → Int32) → (Nat → Int32) → (Nat → Int32) → Prop}
    (hJ : ∀ c B W, yp_I g f n A (n * 7) (c, B) → J c h_made h_depth h_length h_tokenCount h_wrong h_letterCount h_ruleCount h_makingCount u (nI n) h_wideCount h_useCount h_result b_ops b_firsts b_seconds b_sizes b_stack b_roots b_text b_ends b_tokenKinds b_tokenSizes b_letters b_begins b_closes b_empties b_nexts b_sets b_leads b_classes b_newClasses b_lefts b_rights b_counts b_making b_firstSets b_followSets b_states B b_wides W b_met b_tasks b_held b_uses b_reach) : ∃ fu, wY_findLooks_95 post J fu 0 0 h_made h_depth h_length h_tokenCount h_wrong h_letterCount h_ruleCount h_makingCount u (nI n) h_wideCount h_useCount h_result b_ops b_firsts b_seconds b_sizes b_stack b_roots b_text b_ends b_tokenKinds b_tokenSizes b_letters b_begins b_closes b_empties b_nexts b_sets b_leads b_classes b_newClasses b_lefts b_rights b_counts b_making b_firstSets b_followSets b_states A b_wides W b_met b_tasks b_held b_uses b_reach := by
  refine loop_0 (fun fu m σ => wY_findLooks_95 post J fu σ.1.1 (nI m) h_made h_depth h_length h_tokenCount h_wrong h_letterCount h_ruleCount h_makingCount u (nI n) h_wideCount h_useCount h_result b_ops b_firsts b_seconds b_sizes b_stack b_roots b_text b_ends b_tokenKinds b_tokenSizes b_letters b_begins b_closes b_empties b_nexts b_sets b_leads b_classes b_newClasses b_lefts b_rights b_counts b_making b_firstSets b_followSets b_states σ.1.2 b_wides σ.2 b_met b_tasks b_held b_uses b_reach) (fun m σ => yp_I g f n A m σ.1) (n * 7) (((0 : Int32), A), W) (yp_I0 hA h0 hc) ?_ ?_
  · rintro fu ⟨⟨c, B⟩, W⟩ hs
    refine br_t ?_ (hJ c B W hs)
    rw [show (7 : Int32) * nI n = nI (n * 7) by rw [Nat.mul_comm]; exact pk_mul 7 n]
    exact nI_le (Nat.le_refl _) (by omega)
  · rintro fu m ⟨⟨c, B⟩, W⟩ hm ⟨s1, s2, s3, s4, s5⟩ hk
    have s1 : sp_le n A B := s1
    have s2 : sp_in g f n B := s2
    have s3 : bl (B 3) 45 = true := s3
    have s4 : sp_cl g B 0 := s4
    have s5 : (c = 0 ∧ B = A ∧ ∀ m', m' < m → sp_ps g f n A (m' / 7) (m' % 7) ∧ ∀ s', s' < n → tb_to g (f (m' / 7)) (m' % 7) = some (f s') → sp_cl g A s') ∨ (c = 1 ∧ sp_c n A < sp_c n B) := s5
    have d1 : nI m / 7 = nI (m / 7) := pk_div (d := 7) (by omega) (by decide) (by decide)
    have d2 : nI m - nI m / 7 * 7 = nI (m % 7) := pk_rem (d := 7) (by omega) (by decide) (by decide)
    refine br_f ?_ ⟨by decide, by decide, ?_⟩
    · rw [show (7 : Int32) * nI n = nI (n * 7) by rw [Nat.mul_comm]; exact pk_mul 7 n]
      exact nI_ge hm (by omega)
    rw [d2, d1]
    refine yw_pass (b_looks := B) (b_work := W) hg hG hU h4 hF hn hf hst (by omega) (Nat.mod_lt _ (by omega)) s2 (fun W' p1 p2 => br_t rfl ?_) (fun W' D d1 d2 d3 d4 => br_f (by decide) (nm_r (nI_1 m) (hk ((1, D), W') ⟨fun s t k q1 q2 q3 => d1 s t k q1 q2 (s1 s t k q1 q2 q3), d2, d1 0 3 45 hf.1 (by omega) s3, sp_cl0 d4 s4, Or.inr ⟨rfl, ?_⟩⟩)))
    · have go : ∀ c' : Int32, c' = c → wY_findLooks_95 post J fu c' (nI (m + 1)) h_made h_depth h_length h_tokenCount h_wrong h_letterCount h_ruleCount h_makingCount u (nI n) h_wideCount h_useCount h_result b_ops b_firsts b_seconds b_sizes b_stack b_roots b_text b_ends b_tokenKinds b_tokenSizes b_letters b_begins b_closes b_empties b_nexts b_sets b_leads b_classes b_newClasses b_lefts b_rights b_counts b_making b_firstSets b_followSets b_states B b_wides W' b_met b_tasks b_held b_uses b_reach := by
        rintro c' rfl
        refine hk ((c', B), W') ⟨s1, s2, s3, s4, ?_⟩
        rcases s5 with ⟨e1, e2, e3⟩ | e
        · refine Or.inl ⟨e1, e2, fun m' hm' => ?_⟩
          by_cases e : m' = m
          · subst e; rw [← e2]; exact ⟨p1, p2⟩
          · exact e3 m' (by omega)
        · exact Or.inr e
      rcases s5 with ⟨e1, _⟩ | ⟨e1, _⟩
      · exact br_t e1 (nm_r (nI_1 m) (go 0 e1.symm))
      · exact br_f (by show ¬ c = 0; rw [e1]; decide) (nm_r (nI_1 m) (go 1 e1.symm))
    · have := sp_mono s1
      show sp_c n A < sp_c n D
      omega
theorem yw_findLooks (hg : rg_ok g) (hG : xg_G g b_lefts b_rights b_counts) {u : Int32} (hU : yg_U g u) (h4 : xb_4 b_firstSets) (hF : xb_ok g b_firstSets) {f : Nat → Int64} {n : Nat} (hn : n ≤ 60) (hf : tb_full g f n) (hst : ∀ i, i < n → b_states i = f i) {post : SY → Prop} (h : ∀ A W, sp_ok g f n A → post (h_made, h_depth, h_length, h_tokenCount, h_wrong, h_letterCount, h_ruleCount, h_makingCount, u, (nI n), h_wideCount, h_useCount, h_result, b_ops, b_firsts, b_seconds, b_sizes, b_stack, b_roots, b_text, b_ends, b_tokenKinds, b_tokenSizes, b_letters, b_begins, b_closes, b_empties, b_nexts, b_sets, b_leads, b_classes, b_newClasses, b_lefts, b_rights, b_counts, b_making, b_firstSets, b_followSets, b_states, A, b_wides, W, b_met, b_tasks, b_held, b_uses, b_reach)) : wpY_findLooks post (h_made, h_depth, h_length, h_tokenCount, h_wrong, h_letterCount, h_ruleCount, h_makingCount, u, (nI n), h_wideCount, h_useCount, h_result, b_ops, b_firsts, b_seconds, b_sizes, b_stack, b_roots, b_text, b_ends, b_tokenKinds, b_tokenSizes, b_letters, b_begins, b_closes, b_empties, b_nexts, b_sets, b_leads, b_classes, b_newClasses, b_lefts, b_rights, b_counts, b_making, b_firstSets, b_followSets, b_states, b_looks, b_wides, b_work, b_met, b_tasks, b_held, b_uses, b_reach) := by
  have key : ∀ d q, q + d = 11282 → ∀ (c : Int32) (A W : Nat → Int64), bl (A 3) 45 = true → sp_in g f n A → sp_cl g A 0 → ((c = 0 ∧ (∀ s, s < n → sp_cl g A s) ∧ (∀ s x, s < n → x < 7 → sp_ps g f n A s x)) ∨ (¬ c = 0 ∧ q ≤ sp_c n A)) → wY_findLooks_87 post (d + 1) c h_made h_depth h_length h_tokenCount h_wrong h_letterCount h_ruleCount h_makingCount u (nI n) h_wideCount h_useCount h_result b_ops b_firsts b_seconds b_sizes b_stack b_roots b_text b_ends b_tokenKinds b_tokenSizes b_letters b_begins b_closes b_empties b_nexts b_sets b_leads b_classes b_newClasses b_lefts b_rights b_counts b_making b_firstSets b_followSets b_states A b_wides W b_met b_tasks b_held b_uses b_reach := by
    have fin : ∀ A W, bl (A 3) 45 = true → sp_in g f n A → (∀ s, s < n → sp_cl g A s) → (∀ s x, s < n → x < 7 → sp_ps g f n A s x) → post (h_made, h_depth, h_length, h_tokenCount, h_wrong, h_letterCount, h_ruleCount, h_makingCount, u, (nI n), h_wideCount, h_useCount, h_result, b_ops, b_firsts, b_seconds, b_sizes, b_stack, b_roots, b_text, b_ends, b_tokenKinds, b_tokenSizes, b_letters, b_begins, b_closes, b_empties, b_nexts, b_sets, b_leads, b_classes, b_newClasses, b_lefts, b_rights, b_counts, b_making, b_firstSets, b_followSets, b_states, A, b_wides, W, b_met, b_tasks, b_held, b_uses, b_reach) := by
      intro A W h0 h1 h2 h3
      refine h A W (sp_end hf.1 h0 h1 h2 h3 fun k x hx ⟨s, t, q1, q2, q3⟩ => ?_)
      have io := (sp_io hg hf h1 q1 t k q2 q3).1
      rw [← hx.2]
      exact ((tg_ok hg).2.1 _ io.1).2 _ hx.1
    intro d
    induction d with
    | zero =>
      intro q hq c A W h0 h1 h2 h3
      rcases h3 with ⟨e, h3, h5⟩ | ⟨_, h3⟩
      · exact br_t e (fin A W h0 h1 h3 h5)
      · have : sp_c n A ≤ 11280 := cn_le _ 11280
        omega
    | succ d ih =>
      intro q hq c A W h0 h1 h2 h3
      rcases h3 with ⟨e, h3, h5⟩ | ⟨e, h3⟩
      · exact br_t e (fin A W h0 h1 h3 h5)
      · refine br_f e (yw_round hg hG hU h4 hF hn hf hst h1 h0 h2 (fun c2 B W2 hI => ?_))
        obtain ⟨s1, s2, s3, s4, s5⟩ := hI
        refine ih (q + 1) (by omega) c2 B W2 s3 s2 s4 ?_
        rcases s5 with ⟨e1, e2, e3⟩ | ⟨e1, e2⟩
        · have e2 : B = A := e2
          subst e2
          have at1 : ∀ s x, s < n → x < 7 → sp_ps g f n B s x ∧ ∀ s', s' < n → tb_to g (f s) x = some (f s') → sp_cl g B s' := by
            intro s x hs hx
            have := e3 (s * 7 + x) (by omega)
            rw [show (s * 7 + x) / 7 = s by omega, show (s * 7 + x) % 7 = x by omega] at this
            exact this
          refine Or.inl ⟨e1, fun s hs => ?_, fun s x hs hx => (at1 s x hs hx).1⟩
          rcases tb_led hg hf hs with rfl | ⟨s1, x, p1, p2, p3⟩
          · exact h2
          · exact (at1 s1 x p1 p2).2 s hs p3
        · have e1 : c2 = 1 := e1
          have e2 : sp_c n A < sp_c n B := e2
          exact Or.inr ⟨by rw [e1]; decide, by omega⟩
  refine loop_0 (fun fu i A => wY_findLooks_2 post h_made h_depth h_length h_tokenCount h_wrong h_letterCount h_ruleCount h_makingCount u (nI n) h_wideCount h_useCount h_result fu (nI i) b_ops b_firsts b_seconds b_sizes b_stack b_roots b_text b_ends b_tokenKinds b_tokenSizes b_letters b_begins b_closes b_empties b_nexts b_sets b_leads b_classes b_newClasses b_lefts b_rights b_counts b_making b_firstSets b_followSets b_states A b_wides b_work b_met b_tasks b_held b_uses b_reach) (fun i A => ∀ j, j < i → A j = 0) (n * 4) b_looks (fun j q => absurd q (Nat.not_lt_zero _)) ?_ ?_
  · intro fu A hA
    refine br_t (by rw [show (4 : Int32) * nI n = nI (n * 4) by rw [Nat.mul_comm]; exact pk_mul 4 n]; exact nI_le (Nat.le_refl _) (by omega)) ?_
    refine loop_0 (fun fu t s => wY_findLooks_27 post h_made h_depth h_length h_tokenCount h_wrong h_letterCount h_ruleCount h_makingCount u (nI n) h_wideCount h_useCount h_result fu (nI t) b_ops b_firsts b_seconds b_sizes b_stack b_roots b_text b_ends b_tokenKinds b_tokenSizes b_letters b_begins b_closes b_empties b_nexts b_sets b_leads b_classes b_newClasses b_lefts b_rights b_counts b_making b_firstSets b_followSets b_states A b_wides s b_met b_tasks b_held b_uses b_reach) (fun t s => ∀ t', t' < t → ∀ k, bl (s t') k = true ↔ t' = 3 ∧ k = 45) 4 b_work (fun t' z => absurd z (Nat.not_lt_zero _)) ?_ ?_
    · intro fu s hs
      have eS : xo_S s = fun t k => t = 3 ∧ k = 45 := by
        funext t k
        exact propext ⟨fun z => (hs t z.1 k).mp z.2, fun z => ⟨by omega, (hs t (by omega) k).mpr z⟩⟩
      have io0 : xo_io g s := fun t k ht hk => tw_45 t k ((hs t ht k).mp hk)
      refine br_t (nI_le (Nat.le_refl 4) (by decide)) (yw_closeWork (b_work := s) hg hG hU h4 hF io0 (fun C hC => ?_))
      rw [eS] at hC
      have bC : ∀ t, t < 4 → ∀ k, bl (C t) k = true ↔ cw_0 g (fun t k => t = 3 ∧ k = 45) t k := by
        intro t ht k
        rw [hC t ht]
        have := tw_mk hg tw_45 ht k
        rw [w4_tm ht] at this
        exact this
      refine loop_0 (fun fu t B => wY_findLooks_62 post h_made h_depth h_length h_tokenCount h_wrong h_letterCount h_ruleCount h_makingCount u (nI n) h_wideCount h_useCount h_result fu (nI t) b_ops b_firsts b_seconds b_sizes b_stack b_roots b_text b_ends b_tokenKinds b_tokenSizes b_letters b_begins b_closes b_empties b_nexts b_sets b_leads b_classes b_newClasses b_lefts b_rights b_counts b_making b_firstSets b_followSets b_states B b_wides C b_met b_tasks b_held b_uses b_reach) (fun t B => B = ax_set A 0 t C) 4 A (ax_0 _ _ _).symm ?_ ?_
      · rintro fu B rfl
        have at0 : ∀ t, t < 4 → ax_set A 0 4 C (0 * 4 + t) = C t := fun t ht => by
          have := ax_in (a := A) (b := 0) (n := 4) (j := t) (v := C) ht
          rw [Nat.zero_mul]; exact this
        refine br_t (nI_le (Nat.le_refl 4) (by decide)) ⟨11283, key 11282 0 rfl 1 _ C ?_ ?_ ?_ (Or.inr ⟨by decide, by omega⟩)⟩
        · have := at0 3 (by omega)
          rw [show (3 : Nat) = 0 * 4 + 3 from rfl, this]
          exact (bC 3 (by omega) 45).mpr (cw_sub ⟨rfl, rfl⟩)
        · intro s2 t k q1 q2 q3
          by_cases e : s2 = 0
          · subst e
            rw [at0 t q2] at q3
            refine (bC t q2 k).mp q3 (la_L g f n 0) (fun t k p => ?_) ((la_self g f n).2.1 0 hf.1)
            obtain ⟨rfl, rfl⟩ := p
            exact (la_self g f n).1
          · rw [ax_out (by omega), hA _ (by omega)] at q3
            exact absurd q3 (bl_no rfl k)
        · intro t k r t' q1 q2 q3 q4
          have ht' : t' < 4 := by have := fs_t_le (t := t) (by omega) q4; omega
          rw [at0 t q1.1] at q1
          exact ⟨ht', by rw [at0 t' ht']; exact (bC t' ht' _).mpr (cw_self g _ t k r t' ((bC t q1.1 k).mp q1.2) q2 q3 q4)⟩
      · rintro fu t B ht rfl hk
        have ct : (nI t).toNatClampNeg = t := nI_clamp (by omega)
        refine br_f (nI_ge ht (by decide)) ⟨vp_in_nI ht (by decide), vp_in_nI (by omega) (by decide), nm_r ?_ (nm_r (nI_1 t) (hk _ rfl))⟩
        rw [ct]
        have := ax_sL A 0 t C
        rw [Nat.zero_add] at this
        exact this
    · intro fu t s ht hs hk
      have ct : (nI t).toNatClampNeg = t := nI_clamp (by omega)
      refine br_f (nI_ge ht (by decide)) (pk_eq t 3 (fun z => ?_) (fun z => ?_))
      · refine ⟨vp_in_nI (by omega) (by decide), nm_r (by rw [ct]) (nm_r (nI_1 t) (hk _ fun t' ht' k => ?_))⟩
        by_cases e : t' = t
        · subst e; rw [pk_uLs, bl_45, decide_eq_true_eq]; exact ⟨fun y => ⟨z, y⟩, fun y => y.2⟩
        · rw [pk_uLn e]; exact hs t' (by omega) k
      · refine ⟨vp_in_nI (by omega) (by decide), nm_r (by rw [ct]) (nm_r (nI_1 t) (hk _ fun t' ht' k => ?_))⟩
        by_cases e : t' = t
        · subst e; rw [pk_uLs, bl_0]; exact ⟨(fun y => by cases y), fun y => absurd y.1 z⟩
        · rw [pk_uLn e]; exact hs t' (by omega) k
  · intro fu i A hi hA hk
    refine br_f (by rw [show (4 : Int32) * nI n = nI (n * 4) by rw [Nat.mul_comm]; exact pk_mul 4 n]; exact nI_ge hi (by omega)) ⟨vp_in_nI (by omega) (by decide), nm_r (by rw [nI_clamp (by omega)]) (nm_r (nI_1 i) (hk _ fun v hv => ?_))⟩
    by_cases e : v = i
    · subst e; exact pk_uLs
    · rw [pk_uLn e]; exact hA v (by omega)
end
end
section
/-! the reference's clashes and grade -/
variable {h_made h_depth h_length h_tokenCount h_wrong h_letterCount h_ruleCount h_makingCount h_usefulRules h_stateCount h_wideCount h_useCount h_result : Int32} {b_ops b_firsts b_seconds b_sizes b_stack b_roots b_text b_ends b_tokenKinds b_tokenSizes b_letters b_begins b_closes b_empties b_nexts b_sets b_leads b_classes b_newClasses b_lefts b_rights b_counts b_making b_firstSets b_followSets b_tasks b_held b_uses b_reach : Nat → Int32} {b_states b_looks b_wides b_work b_met : Nat → Int64}
theorem cn_st {P : Nat → Prop} {i : Nat} (h : P i) : cn_c P (i + 1) = cn_c P i + 1 := by show cn_c P i + cn_b (P i) = _; rw [cn_bt h]
theorem cn_sf {P : Nat → Prop} {i : Nat} (h : ¬ P i) : cn_c P (i + 1) = cn_c P i := by show cn_c P i + cn_b (P i) = _; rw [cn_bf h]; omega
theorem cn_pos {P : Nat → Prop} : ∀ {N : Nat}, 0 < cn_c P N ↔ ∃ k, k < N ∧ P k := by
  intro N
  constructor
  · intro h
    induction N with
    | zero => exact absurd h (Nat.lt_irrefl _)
    | succ N ih =>
      rcases Classical.em (P N) with z | z
      · exact ⟨N, by omega, z⟩
      · rw [cn_sf z] at h
        obtain ⟨k, a, b⟩ := ih h
        exact ⟨k, by omega, b⟩
  · rintro ⟨k, a, b⟩
    have := cn_lt (P := fun _ => False) (Q := P) (a := k) id b (N := N) (fun _ _ z => z.elim) a
    omega
theorem cn_two {P : Nat → Prop} {N : Nat} : 1 < cn_c P N ↔ ∃ k k', k < N ∧ k' < N ∧ k ≠ k' ∧ P k ∧ P k' := by
  constructor
  · intro h
    obtain ⟨y, y1, y2⟩ := cn_pos.mp (by omega : 0 < cn_c P N)
    rw [cn_del y2 y1] at h
    obtain ⟨k, a, b⟩ := cn_pos.mp (by omega : 0 < cn_c (fun k => P k ∧ k ≠ y) N)
    exact ⟨k, y, a, y1, b.2, b.1, y2⟩
  · rintro ⟨k, k', a, b, c, d, e⟩
    rw [cn_del e b]
    have := cn_pos.mpr (⟨k, a, d, c⟩ : ∃ k, k < N ∧ (P k ∧ k ≠ k'))
    omega
section
variable {g : rg_T}
/-- the reference's clash of a set M of items, C those that count, way and look -/
def yk_x (g : rg_T) (M : Int64) (C : Nat → Prop) (way t : Nat) : Prop :=
  (∃ k k', k ≠ k' ∧ (bl M k = true ∧ k % 5 = rg_c g (k / 5) ∧ C k) ∧ (bl M k' = true ∧ k' % 5 = rg_c g (k' / 5) ∧ C k')) ∨
  ((∃ k, bl M k = true ∧ k % 5 = rg_c g (k / 5) ∧ C k) ∧ ∃ k, bl M k = true ∧ ∃ v, v < 3 ∧ im_nx g k v ∧ (way = 0 ∨ v = t))
theorem yw_comesBehind (hg : rg_ok g) (hG : xg_G g b_lefts b_rights b_counts) (hl : ∀ r, r < 9 → ∃ v, v < 7 ∧ b_lefts r = nI v) (hW : yf_ok g b_followSets) {k t : Nat} (hk : k < 50) (ht : t < 4) {post : Int32 → Prop} (h : ∀ c : Nat, c ≤ 1 → (im_ok g k → (c = 1 ↔ cs_C1 g t k)) → post (nI c)) : wpY_comesBehind post (h_made, h_depth, h_length, h_tokenCount, h_wrong, h_letterCount, h_ruleCount, h_makingCount, h_usefulRules, h_stateCount, h_wideCount, h_useCount, h_result, b_ops, b_firsts, b_seconds, b_sizes, b_stack, b_roots, b_text, b_ends, b_tokenKinds, b_tokenSizes, b_letters, b_begins, b_closes, b_empties, b_nexts, b_sets, b_leads, b_classes, b_newClasses, b_lefts, b_rights, b_counts, b_making, b_firstSets, b_followSets, b_states, b_looks, b_wides, b_work, b_met, b_tasks, b_held, b_uses, b_reach) (nI k) (nI t) := by
  have e1 : nI k / 5 = nI (k / 5) := pk_div (d := 5) (by omega) (by decide) (by decide)
  have fin : ∀ x : Int32, (im_ok g k → (bt x t = true ↔ cs_C1 g t k)) → wY_comesBehind_26 post (nI t) x h_made h_depth h_length h_tokenCount h_wrong h_letterCount h_ruleCount h_makingCount h_usefulRules h_stateCount h_wideCount h_useCount h_result b_ops b_firsts b_seconds b_sizes b_stack b_roots b_text b_ends b_tokenKinds b_tokenSizes b_letters b_begins b_closes b_empties b_nexts b_sets b_leads b_classes b_newClasses b_lefts b_rights b_counts b_making b_firstSets b_followSets b_states b_looks b_wides b_work b_met b_tasks b_held b_uses b_reach := by
    intro x hx
    refine br_c (fun z => h 1 (by omega) fun io => ⟨fun _ => (hx io).mp ((b_test x (n := t) (by omega)).mp z), fun _ => rfl⟩) (fun z => h 0 (by omega) fun io => ⟨fun q => by omega, fun q => absurd ((b_test x (by omega)).mpr ((hx io).mpr q)) z⟩)
  refine ⟨by decide, ?_⟩
  rw [e1]
  refine pk_eq (k / 5) 9 (fun z => fin 8 fun _ => ?_) (fun z => ⟨by decide, vp_in_nI (by omega) (by decide), ?_⟩)
  · unfold cs_C1
    rw [if_pos z, b_8b, decide_eq_true_eq]
  · obtain ⟨v, v7, hv⟩ := hl (k / 5) (by omega)
    rw [nI_clamp (by omega : k / 5 < 2 ^ 31), hv]
    refine ⟨vp_in_nI v7 (by decide), fin _ fun io => ?_⟩
    rw [nI_clamp (by omega : v < 2 ^ 31)]
    unfold cs_C1
    rw [if_neg z]
    rcases io.1 with q | q
    · have := (hG _ (Or.inl q.1)).1
      have l := hg.2.1 _ q.1
      have ev : v = rg_l g (k / 5) := by
        rw [hv] at this
        exact (nI_eq (by omega) (by omega)).mp this
      rw [ev]
      exact hW _ _ l.2.1
    · exact absurd q z
theorem yw_clashes (hg : rg_ok g) (hG : xg_G g b_lefts b_rights b_counts) (hl : ∀ r, r < 9 → ∃ v, v < 7 ∧ b_lefts r = nI v) (hW : yf_ok g b_followSets) {s way t : Nat} (hs : s < 61 ∨ (way = 3 ∧ s < 81)) (hw : way ≤ 3) (ht : t < 4) {M : Int64} (hM : tb_io g M)
    (hM0 : way ≠ 3 → b_states s = M) (hM3 : way = 3 → ∀ k, bl M k = true ↔ ∃ u, u < 4 ∧ bl (b_wides (s * 4 + u)) k = true) {C : Nat → Prop}
    (hC : ∀ k, im_ok g k → (C k ↔ way = 0 ∨ (way = 1 ∧ cs_C1 g t k) ∨ (way = 2 ∧ bl (b_looks (s * 4 + t)) k = true) ∨ (way = 3 ∧ bl (b_wides (s * 4 + t)) k = true)))
    {post : Int32 → Prop} (h0 : ¬ yk_x g M C way t → post 0) (h1 : yk_x g M C way t → post 1) : wpY_clashes post (h_made, h_depth, h_length, h_tokenCount, h_wrong, h_letterCount, h_ruleCount, h_makingCount, h_usefulRules, h_stateCount, h_wideCount, h_useCount, h_result, b_ops, b_firsts, b_seconds, b_sizes, b_stack, b_roots, b_text, b_ends, b_tokenKinds, b_tokenSizes, b_letters, b_begins, b_closes, b_empties, b_nexts, b_sets, b_leads, b_classes, b_newClasses, b_lefts, b_rights, b_counts, b_making, b_firstSets, b_followSets, b_states, b_looks, b_wides, b_work, b_met, b_tasks, b_held, b_uses, b_reach) (nI s) (nI way) (nI t) := by
  have E50 : ∀ k, bl M k = true → k < 50 := fun k hk => by have := im_lt hg (hM k hk); omega
  refine loop_0 (fun f i (_ : Unit) => wY_clashes_9 post (nI s) (nI way) (nI t) h_made h_depth h_length h_tokenCount h_wrong h_letterCount h_ruleCount h_makingCount h_usefulRules h_stateCount h_wideCount h_useCount h_result b_ops b_firsts b_seconds b_sizes b_stack b_roots b_text b_ends b_tokenKinds b_tokenSizes b_letters b_begins b_closes b_empties b_nexts b_sets b_leads b_classes b_newClasses b_lefts b_rights b_counts b_making b_firstSets b_followSets b_states b_looks b_wides b_work b_met b_tasks b_held b_uses b_reach f (nI (cn_c (fun k => bl M k = true ∧ k % 5 = rg_c g (k / 5) ∧ C k) i)) (nI (cn_c (fun k => bl M k = true ∧ ∃ v, v < 3 ∧ im_nx g k v ∧ (way = 0 ∨ v = t)) i)) (nI i)) (fun _ _ => True) 50 () trivial ?_ ?_
  · intro f _ _
    have cE := cn_le (fun k => bl M k = true ∧ k % 5 = rg_c g (k / 5) ∧ C k) 50
    have cG := cn_le (fun k => bl M k = true ∧ ∃ v, v < 3 ∧ im_nx g k v ∧ (way = 0 ∨ v = t)) 50
    refine br_t (nI_le (Nat.le_refl 50) (by decide)) (pk_lt 1 _ (fun z => h1 ?_) (fun z => pk_eq _ 1 (fun y => pk_le _ 0 (fun w => h0 ?_) (fun w => h1 ?_)) (fun y => h0 ?_)))
    · obtain ⟨k, k', _, _, a, b, c⟩ := cn_two.mp z
      exact Or.inl ⟨k, k', a, b, c⟩
    · rintro (⟨k, k', a, b, c⟩ | ⟨_, k, b, c⟩)
      · have := (cn_two (P := fun k => bl M k = true ∧ k % 5 = rg_c g (k / 5) ∧ C k)).mpr ⟨k, k', E50 k b.1, E50 k' c.1, a, b, c⟩
        omega
      · have := cn_pos.mpr (⟨k, E50 k b, b, c⟩ : ∃ k, k < 50 ∧ (bl M k = true ∧ ∃ v, v < 3 ∧ im_nx g k v ∧ (way = 0 ∨ v = t)))
        omega
    · obtain ⟨k, _, a⟩ := cn_pos.mp (by omega : 0 < cn_c (fun k => bl M k = true ∧ k % 5 = rg_c g (k / 5) ∧ C k) 50)
      obtain ⟨k', _, b⟩ := cn_pos.mp w
      exact Or.inr ⟨⟨k, a⟩, k', b⟩
    · rintro (⟨k, k', a, b, c⟩ | ⟨⟨k, b⟩, _⟩)
      · have := (cn_two (P := fun k => bl M k = true ∧ k % 5 = rg_c g (k / 5) ∧ C k)).mpr ⟨k, k', E50 k b.1, E50 k' c.1, a, b, c⟩
        omega
      · have := cn_pos.mpr (⟨k, E50 k b.1, b⟩ : ∃ k, k < 50 ∧ (bl M k = true ∧ k % 5 = rg_c g (k / 5) ∧ C k))
        omega
  · intro f i _ hi _ hk
    have go := hk () trivial
    -- one item, its next symbol known
    have step : ∀ nx : Int32, ((nx = -2 ∧ ¬ bl M i = true) ∨ (nx = -1 ∧ bl M i = true ∧ i % 5 = rg_c g (i / 5)) ∨ ∃ v, nx = nI v ∧ v < 7 ∧ bl M i = true ∧ im_nx g i v) → wY_clashes_83 post (wY_clashes_9 post (nI s) (nI way) (nI t) h_made h_depth h_length h_tokenCount h_wrong h_letterCount h_ruleCount h_makingCount h_usefulRules h_stateCount h_wideCount h_useCount h_result b_ops b_firsts b_seconds b_sizes b_stack b_roots b_text b_ends b_tokenKinds b_tokenSizes b_letters b_begins b_closes b_empties b_nexts b_sets b_leads b_classes b_newClasses b_lefts b_rights b_counts b_making b_firstSets b_followSets b_states b_looks b_wides b_work b_met b_tasks b_held b_uses b_reach f) (nI s) (nI way) (nI t) (nI (cn_c (fun k => bl M k = true ∧ k % 5 = rg_c g (k / 5) ∧ C k) i)) (nI (cn_c (fun k => bl M k = true ∧ ∃ v, v < 3 ∧ im_nx g k v ∧ (way = 0 ∨ v = t)) i)) (nI i) nx h_made h_depth h_length h_tokenCount h_wrong h_letterCount h_ruleCount h_makingCount h_usefulRules h_stateCount h_wideCount h_useCount h_result b_ops b_firsts b_seconds b_sizes b_stack b_roots b_text b_ends b_tokenKinds b_tokenSizes b_letters b_begins b_closes b_empties b_nexts b_sets b_leads b_classes b_newClasses b_lefts b_rights b_counts b_making b_firstSets b_followSets b_states b_looks b_wides b_work b_met b_tasks b_held b_uses b_reach := by
      intro nx hnx
      -- the tail, once it is known whether the item counts
      have tail : ∀ c : Nat, c ≤ 1 → (im_ok g i → (c = 1 ↔ C i)) → wY_clashes_150 post (wY_clashes_9 post (nI s) (nI way) (nI t) h_made h_depth h_length h_tokenCount h_wrong h_letterCount h_ruleCount h_makingCount h_usefulRules h_stateCount h_wideCount h_useCount h_result b_ops b_firsts b_seconds b_sizes b_stack b_roots b_text b_ends b_tokenKinds b_tokenSizes b_letters b_begins b_closes b_empties b_nexts b_sets b_leads b_classes b_newClasses b_lefts b_rights b_counts b_making b_firstSets b_followSets b_states b_looks b_wides b_work b_met b_tasks b_held b_uses b_reach f) (nI s) (nI way) (nI t) (nI (cn_c (fun k => bl M k = true ∧ k % 5 = rg_c g (k / 5) ∧ C k) i)) (nI (cn_c (fun k => bl M k = true ∧ ∃ v, v < 3 ∧ im_nx g k v ∧ (way = 0 ∨ v = t)) i)) (nI i) nx (nI c) h_made h_depth h_length h_tokenCount h_wrong h_letterCount h_ruleCount h_makingCount h_usefulRules h_stateCount h_wideCount h_useCount h_result b_ops b_firsts b_seconds b_sizes b_stack b_roots b_text b_ends b_tokenKinds b_tokenSizes b_letters b_begins b_closes b_empties b_nexts b_sets b_leads b_classes b_newClasses b_lefts b_rights b_counts b_making b_firstSets b_followSets b_states b_looks b_wides b_work b_met b_tasks b_held b_uses b_reach := by
        intro c hc1 hc
        rcases hnx with ⟨rfl, q⟩ | ⟨rfl, q1, q2⟩ | ⟨v, rfl, v7, q1, q2⟩
        · rw [cn_sf (i := i) (P := fun k => bl M k = true ∧ k % 5 = rg_c g (k / 5) ∧ C k) (fun w => q w.1), cn_sf (i := i) (P := fun k => bl M k = true ∧ ∃ v, v < 3 ∧ im_nx g k v ∧ (way = 0 ∨ v = t)) (fun w => q w.1)] at go
          exact br_f (by decide) (br_t (by decide) (nm_r (nI_1 i) go))
        · have io := hM i q1
          rw [cn_sf (i := i) (P := fun k => bl M k = true ∧ ∃ v, v < 3 ∧ im_nx g k v ∧ (way = 0 ∨ v = t)) (fun ⟨_, v, _, w, _⟩ => by have := w.1; omega)] at go
          refine br_t rfl (pk_eq c 0 (fun z => ?_) (fun z => ?_))
          · rw [cn_sf (i := i) (P := fun k => bl M k = true ∧ k % 5 = rg_c g (k / 5) ∧ C k) (fun w => by have := (hc io).mpr w.2.2; omega)] at go
            exact br_t (by decide) (nm_r (nI_1 i) go)
          · rw [cn_st (i := i) (P := fun k => bl M k = true ∧ k % 5 = rg_c g (k / 5) ∧ C k) ⟨q1, q2, (hc io).mp (by omega)⟩, ← nI_1] at go
            exact br_t (by decide) (nm_r (nI_1 i) go)
        · rw [cn_sf (i := i) (P := fun k => bl M k = true ∧ k % 5 = rg_c g (k / 5) ∧ C k) (fun w => by have := w.2.1; have := q2.1; omega)] at go
          refine br_f (ne_neg (by omega) (by decide)) (br_f (nI_pos (by omega)) (pk_le 3 v (fun z => ?_) (fun z => pk_eq way 0 (fun y => ?_) (fun y => pk_eq v t (fun w => ?_) (fun w => ?_)))))
          · rw [cn_sf (i := i) (P := fun k => bl M k = true ∧ ∃ v, v < 3 ∧ im_nx g k v ∧ (way = 0 ∨ v = t)) (fun ⟨_, v', p1, p2, _⟩ => by have := q2.2.symm.trans p2.2; omega)] at go
            exact nm_r (nI_1 i) go
          · rw [cn_st (i := i) (P := fun k => bl M k = true ∧ ∃ v, v < 3 ∧ im_nx g k v ∧ (way = 0 ∨ v = t)) ⟨q1, v, z, q2, Or.inl y⟩] at go
            exact nm_r (nI_1 _) (nm_r (nI_1 i) go)
          · rw [cn_st (i := i) (P := fun k => bl M k = true ∧ ∃ v, v < 3 ∧ im_nx g k v ∧ (way = 0 ∨ v = t)) ⟨q1, v, z, q2, Or.inr w⟩] at go
            exact nm_r (nI_1 _) (nm_r (nI_1 i) go)
          · rw [cn_sf (i := i) (P := fun k => bl M k = true ∧ ∃ v, v < 3 ∧ im_nx g k v ∧ (way = 0 ∨ v = t)) (fun ⟨_, v', p1, p2, p3⟩ => by
              have e := q2.2.symm.trans p2.2
              rcases p3 with p3 | p3
              · exact y p3
              · omega)] at go
            exact nm_r (nI_1 i) go
      have bits : ∀ L : Int64, (im_ok g i → (bl L i = true ↔ C i)) → wY_clashes_135 post (wY_clashes_9 post (nI s) (nI way) (nI t) h_made h_depth h_length h_tokenCount h_wrong h_letterCount h_ruleCount h_makingCount h_usefulRules h_stateCount h_wideCount h_useCount h_result b_ops b_firsts b_seconds b_sizes b_stack b_roots b_text b_ends b_tokenKinds b_tokenSizes b_letters b_begins b_closes b_empties b_nexts b_sets b_leads b_classes b_newClasses b_lefts b_rights b_counts b_making b_firstSets b_followSets b_states b_looks b_wides b_work b_met b_tasks b_held b_uses b_reach f) (nI s) (nI way) (nI t) (nI (cn_c (fun k => bl M k = true ∧ k % 5 = rg_c g (k / 5) ∧ C k) i)) (nI (cn_c (fun k => bl M k = true ∧ ∃ v, v < 3 ∧ im_nx g k v ∧ (way = 0 ∨ v = t)) i)) (nI i) nx L h_made h_depth h_length h_tokenCount h_wrong h_letterCount h_ruleCount h_makingCount h_usefulRules h_stateCount h_wideCount h_useCount h_result b_ops b_firsts b_seconds b_sizes b_stack b_roots b_text b_ends b_tokenKinds b_tokenSizes b_letters b_begins b_closes b_empties b_nexts b_sets b_leads b_classes b_newClasses b_lefts b_rights b_counts b_making b_firstSets b_followSets b_states b_looks b_wides b_work b_met b_tasks b_held b_uses b_reach := by
        intro L hL
        refine br_c (fun z => tail 1 (by omega) fun io => ⟨fun _ => (hL io).mp ((bl_test L (n := i) (by omega)).mp z), fun _ => rfl⟩) (fun z => tail 0 (by omega) fun io => ⟨fun q => by omega, fun q => absurd ((bl_test L (by omega)).mpr ((hL io).mpr q)) z⟩)
      refine pk_eq way 0 (fun w0 => tail 1 (by omega) fun io => ⟨fun _ => (hC i io).mpr (Or.inl w0), fun _ => rfl⟩) (fun w0 => pk_eq way 1 (fun w1 => ?_) (fun w1 => pk_eq way 2 (fun w2 => ⟨pk_in (s * 4 + t) 244 (by omega) (ix_l4 s t), ?_⟩) (fun w2 => ⟨pk_in (s * 4 + t) 324 (by omega) (ix_l4 s t), ?_⟩)))
      · refine yw_comesBehind hg hG hl hW hi ht (fun c hc1 hc => ?_)
        have hc2 : im_ok g i → (c = 1 ↔ C i) := fun io => by
          rw [hc io, hC i io]
          exact ⟨fun q => Or.inr (Or.inl ⟨w1, q⟩), fun q => by
            rcases q with q | q | q | q
            · omega
            · exact q.2
            · omega
            · omega⟩
        refine pk_eq c 0 (fun z => ?_) (fun z => ?_)
        · have := tail c hc1 hc2
          rw [z] at this
          exact this
        · have := tail c hc1 hc2
          rw [show c = 1 by omega] at this
          exact this
      · rw [pk_cl (s * 4 + t) (ix_l4 s t)]
        exact bits _ fun io => by
          rw [hC i io]
          exact ⟨fun q => Or.inr (Or.inr (Or.inl ⟨w2, q⟩)), fun q => by
            rcases q with q | q | q | q
            · omega
            · omega
            · exact q.2
            · omega⟩
      · rw [pk_cl (s * 4 + t) (ix_l4 s t)]
        exact bits _ fun io => by
          rw [hC i io]
          exact ⟨fun q => Or.inr (Or.inr (Or.inr ⟨by omega, q⟩)), fun q => by
            rcases q with q | q | q | q
            · omega
            · omega
            · omega
            · exact q.2⟩
    have inn : bl M i = true → wY_clashes_65 post (wY_clashes_9 post (nI s) (nI way) (nI t) h_made h_depth h_length h_tokenCount h_wrong h_letterCount h_ruleCount h_makingCount h_usefulRules h_stateCount h_wideCount h_useCount h_result b_ops b_firsts b_seconds b_sizes b_stack b_roots b_text b_ends b_tokenKinds b_tokenSizes b_letters b_begins b_closes b_empties b_nexts b_sets b_leads b_classes b_newClasses b_lefts b_rights b_counts b_making b_firstSets b_followSets b_states b_looks b_wides b_work b_met b_tasks b_held b_uses b_reach f) (nI s) (nI way) (nI t) (nI (cn_c (fun k => bl M k = true ∧ k % 5 = rg_c g (k / 5) ∧ C k) i)) (nI (cn_c (fun k => bl M k = true ∧ ∃ v, v < 3 ∧ im_nx g k v ∧ (way = 0 ∨ v = t)) i)) (nI i) 1 h_made h_depth h_length h_tokenCount h_wrong h_letterCount h_ruleCount h_makingCount h_usefulRules h_stateCount h_wideCount h_useCount h_result b_ops b_firsts b_seconds b_sizes b_stack b_roots b_text b_ends b_tokenKinds b_tokenSizes b_letters b_begins b_closes b_empties b_nexts b_sets b_leads b_classes b_newClasses b_lefts b_rights b_counts b_making b_firstSets b_followSets b_states b_looks b_wides b_work b_met b_tasks b_held b_uses b_reach := by
      intro q
      exact br_f (by decide) (yw_nextOf hg hG (hM i q) (fun v hv v7 => step _ (Or.inr (Or.inr ⟨v, rfl, v7, q, hv⟩))) (fun hc => step _ (Or.inr (Or.inl ⟨rfl, q, hc⟩))))
    have out : ¬ bl M i = true → wY_clashes_65 post (wY_clashes_9 post (nI s) (nI way) (nI t) h_made h_depth h_length h_tokenCount h_wrong h_letterCount h_ruleCount h_makingCount h_usefulRules h_stateCount h_wideCount h_useCount h_result b_ops b_firsts b_seconds b_sizes b_stack b_roots b_text b_ends b_tokenKinds b_tokenSizes b_letters b_begins b_closes b_empties b_nexts b_sets b_leads b_classes b_newClasses b_lefts b_rights b_counts b_making b_firstSets b_followSets b_states b_looks b_wides b_work b_met b_tasks b_held b_uses b_reach f) (nI s) (nI way) (nI t) (nI (cn_c (fun k => bl M k = true ∧ k % 5 = rg_c g (k / 5) ∧ C k) i)) (nI (cn_c (fun k => bl M k = true ∧ ∃ v, v < 3 ∧ im_nx g k v ∧ (way = 0 ∨ v = t)) i)) (nI i) 0 h_made h_depth h_length h_tokenCount h_wrong h_letterCount h_ruleCount h_makingCount h_usefulRules h_stateCount h_wideCount h_useCount h_result b_ops b_firsts b_seconds b_sizes b_stack b_roots b_text b_ends b_tokenKinds b_tokenSizes b_letters b_begins b_closes b_empties b_nexts b_sets b_leads b_classes b_newClasses b_lefts b_rights b_counts b_making b_firstSets b_followSets b_states b_looks b_wides b_work b_met b_tasks b_held b_uses b_reach := fun q => br_t rfl (step _ (Or.inl ⟨rfl, q⟩))
    refine br_f (nI_ge hi (by decide)) (pk_eq way 3 (fun w => ?_) (fun w => ⟨vp_in_nI (by omega) (by decide), ?_⟩))
    · have e0 : (4 : Int32) * nI s = nI (s * 4 + 0) := by rw [Nat.add_zero, Nat.mul_comm]; exact pk_mul 4 s
      have e1 : (4 : Int32) * nI s + 1 = nI (s * 4 + 1) := ix_l4 s 1
      have e2 : (4 : Int32) * nI s + 2 = nI (s * 4 + 2) := ix_l4 s 2
      have e3 : (4 : Int32) * nI s + 3 = nI (s * 4 + 3) := ix_l4 s 3
      refine ⟨pk_in (s * 4 + 0) 324 (by omega) e0, pk_in (s * 4 + 1) 324 (by omega) e1, pk_in (s * 4 + 2) 324 (by omega) e2, pk_in (s * 4 + 3) 324 (by omega) e3, ?_⟩
      rw [pk_cl (s * 4 + 0) e0, pk_cl (s * 4 + 1) e1, pk_cl (s * 4 + 2) e2, pk_cl (s * 4 + 3) e3]
      have bM : bl (b_wides (s * 4 + 0) ||| b_wides (s * 4 + 1) ||| b_wides (s * 4 + 2) ||| b_wides (s * 4 + 3)) i = true ↔ bl M i = true := by
        rw [hM3 w i, bl_or, bl_or, bl_or, Bool.or_eq_true, Bool.or_eq_true, Bool.or_eq_true]
        constructor
        · rintro (((q | q) | q) | q)
          · exact ⟨0, by omega, q⟩
          · exact ⟨1, by omega, q⟩
          · exact ⟨2, by omega, q⟩
          · exact ⟨3, by omega, q⟩
        · rintro ⟨u, q1, q2⟩
          have : u = 0 ∨ u = 1 ∨ u = 2 ∨ u = 3 := by omega
          rcases this with rfl | rfl | rfl | rfl
          · exact Or.inl (Or.inl (Or.inl q2))
          · exact Or.inl (Or.inl (Or.inr q2))
          · exact Or.inl (Or.inr q2)
          · exact Or.inr q2
      exact br_c (fun q => inn (bM.mp ((bl_test _ (n := i) (by omega)).mp q))) (fun q => out fun q2 => q ((bl_test _ (by omega)).mpr (bM.mpr q2)))
    · rw [nI_clamp (by omega : s < 2 ^ 31), hM0 w]
      exact br_c (fun q => inn ((bl_test _ (n := i) (by omega)).mp q)) (fun q => out fun q2 => q ((bl_test _ (by omega)).mpr q2))
end
end
section
/-! the reference's grade -/
variable {h_made h_depth h_length h_tokenCount h_wrong h_letterCount h_ruleCount h_makingCount h_usefulRules h_stateCount h_wideCount h_useCount h_result : Int32} {b_ops b_firsts b_seconds b_sizes b_stack b_roots b_text b_ends b_tokenKinds b_tokenSizes b_letters b_begins b_closes b_empties b_nexts b_sets b_leads b_classes b_newClasses b_lefts b_rights b_counts b_making b_firstSets b_followSets b_tasks b_held b_uses b_reach : Nat → Int32} {b_states b_looks b_wides b_work b_met : Nat → Int64}
section
variable {g : rg_T}
theorem yw_isClear (hg : rg_ok g) (hG : xg_G g b_lefts b_rights b_counts) (hl : ∀ r, r < 9 → ∃ v, v < 7 ∧ b_lefts r = nI v) (hW : yf_ok g b_followSets) {n way : Nat} (hn : n ≤ 60 ∨ (way = 3 ∧ n ≤ 80)) (hw : way ≤ 3) (hcnt : (way = 3 → h_wideCount = nI n) ∧ (way ≠ 3 → h_stateCount = nI n)) {M : Nat → Int64} (hM : ∀ s, s < n → tb_io g (M s)) (hM0 : way ≠ 3 → ∀ s, s < n → b_states s = M s) (hM3 : way = 3 → ∀ s, s < n → ∀ k, bl (M s) k = true ↔ ∃ u, u < 4 ∧ bl (b_wides (s * 4 + u)) k = true) {C : Nat → Nat → Nat → Prop}
    (hC : ∀ s t k, s < n → t < 4 → im_ok g k → (C s t k ↔ way = 0 ∨ (way = 1 ∧ cs_C1 g t k) ∨ (way = 2 ∧ bl (b_looks (s * 4 + t)) k = true) ∨ (way = 3 ∧ bl (b_wides (s * 4 + t)) k = true)))
    {post : Int32 → Prop} (h1 : (¬ ∃ s t, s < n ∧ t < 4 ∧ yk_x g (M s) (C s t) way t) → post 1) (h0 : (∃ s t, s < n ∧ t < 4 ∧ yk_x g (M s) (C s t) way t) → post 0) : wpY_isClear post (h_made, h_depth, h_length, h_tokenCount, h_wrong, h_letterCount, h_ruleCount, h_makingCount, h_usefulRules, h_stateCount, h_wideCount, h_useCount, h_result, b_ops, b_firsts, b_seconds, b_sizes, b_stack, b_roots, b_text, b_ends, b_tokenKinds, b_tokenSizes, b_letters, b_begins, b_closes, b_empties, b_nexts, b_sets, b_leads, b_classes, b_newClasses, b_lefts, b_rights, b_counts, b_making, b_firstSets, b_followSets, b_states, b_looks, b_wides, b_work, b_met, b_tasks, b_held, b_uses, b_reach) (nI way) := by
  have lp : ∃ f, wY_isClear_19 post (nI way) (nI n) h_made h_depth h_length h_tokenCount h_wrong h_letterCount h_ruleCount h_makingCount h_usefulRules h_stateCount h_wideCount h_useCount h_result b_ops b_firsts b_seconds b_sizes b_stack b_roots b_text b_ends b_tokenKinds b_tokenSizes b_letters b_begins b_closes b_empties b_nexts b_sets b_leads b_classes b_newClasses b_lefts b_rights b_counts b_making b_firstSets b_followSets b_states b_looks b_wides b_work b_met b_tasks b_held b_uses b_reach f 0 := by
    have e4 : (4 : Int32) * nI n = nI (n * 4) := by rw [Nat.mul_comm]; exact pk_mul 4 n
    refine loop_0 (fun f m (_ : Unit) => wY_isClear_19 post (nI way) (nI n) h_made h_depth h_length h_tokenCount h_wrong h_letterCount h_ruleCount h_makingCount h_usefulRules h_stateCount h_wideCount h_useCount h_result b_ops b_firsts b_seconds b_sizes b_stack b_roots b_text b_ends b_tokenKinds b_tokenSizes b_letters b_begins b_closes b_empties b_nexts b_sets b_leads b_classes b_newClasses b_lefts b_rights b_counts b_making b_firstSets b_followSets b_states b_looks b_wides b_work b_met b_tasks b_held b_uses b_reach f (nI m)) (fun m _ => ¬ ∃ m', m' < m ∧ yk_x g (M (m' / 4)) (C (m' / 4) (m' % 4)) way (m' % 4)) (n * 4) () (fun ⟨m', q, _⟩ => absurd q (Nat.not_lt_zero _)) ?_ ?_
    · intro f _ hm
      refine br_t (by rw [e4]; exact nI_le (Nat.le_refl _) (by omega)) (h1 ?_)
      rintro ⟨s, t, q1, q2, q3⟩
      refine hm ⟨s * 4 + t, by omega, ?_⟩
      rw [show (s * 4 + t) / 4 = s by omega, show (s * 4 + t) % 4 = t by omega]; exact q3
    · intro f m _ hm hno hk
      have hs61 : m / 4 < 61 ∨ (way = 3 ∧ m / 4 < 81) := by clear hno h0 h1; omega
      have hm31 : m < 2 ^ 31 := by clear hno h0 h1; omega
      have hn31 : n * 4 < 2 ^ 31 := by clear hno h0 h1; omega
      have hmn : m / 4 < n := by clear hno h0 h1; omega
      have hm4 : m % 4 < 4 := Nat.mod_lt _ (by decide)
      have d1 : nI m / 4 = nI (m / 4) := pk_div (d := 4) hm31 (by decide) (by decide)
      have d2 : nI m - nI m / 4 * 4 = nI (m % 4) := pk_rem (d := 4) hm31 (by decide) (by decide)
      refine br_f (by rw [e4]; exact nI_ge hm hn31) ⟨by decide, by decide, ?_⟩
      rw [d2, d1]
      refine yw_clashes hg hG hl hW (s := m / 4) hs61 hw hm4 (hM _ hmn) (fun w => hM0 w _ hmn) (fun w => hM3 w _ hmn) (C := C (m / 4) (m % 4)) (fun k io => hC _ _ k hmn hm4 io) (fun q => br_t rfl (nm_r (nI_1 m) (hk () ?_))) (fun q => br_f (by decide) (h0 ⟨m / 4, m % 4, hmn, hm4, q⟩))
      rintro ⟨m', p1, p2⟩
      by_cases e : m' = m
      · subst e; exact q p2
      · exact hno ⟨m', Nat.lt_of_le_of_ne (Nat.le_of_lt_succ p1) e, p2⟩
  refine pk_eq way 3 (fun w => ?_) (fun w => ?_)
  · rw [← hcnt.1 w] at lp; exact lp
  · rw [← hcnt.2 w] at lp; exact lp
/-- the grade, as both sides find it -/
def yg_R (g : rg_T) (r : Int32) : Prop := ((¬ ∃ r, us_U g r) ∧ r = -4) ∨ ((∃ r, us_U g r) ∧ (∃ k, 60 < (sb_B g k).2) ∧ r = -5) ∨ ((∃ r, us_U g r) ∧ ∃ f n, bf_fin (tb_a0 g) (tb_to g) f n ∧ n ≤ 60 ∧ gd_R g f n r)
theorem yg_no {f : Nat → Int64} {n : Nat} (h : bf_fin (tb_a0 g) (tb_to g) f n) (hn : n ≤ 60) : ¬ ∃ k, 60 < (sb_B g k).2 := by
  rintro ⟨k, hk⟩
  have := bf_big (k := k) h
  have hk : 60 < (bf_at (tb_a0 g) (tb_to g) k).2 := hk
  omega
theorem yg_one {r r' : Int32} (h : yg_R g r) (h' : yg_R g r') : r = r' := by
  rcases h with ⟨a1, a2⟩ | ⟨a1, a2, a3⟩ | ⟨a1, f, n, a2, a3, a4⟩ <;> rcases h' with ⟨b1, b2⟩ | ⟨b1, b2, b3⟩ | ⟨b1, f', n', b2, b3, b4⟩
  · rw [a2, b2]
  · exact absurd b1 a1
  · exact absurd b1 a1
  · exact absurd a1 b1
  · rw [a3, b3]
  · exact absurd a2 (yg_no b2 b3)
  · exact absurd a1 b1
  · exact absurd b2 (yg_no a2 a3)
  · obtain ⟨rfl, rfl⟩ := bf_one a2 b2
    exact gd_one a4 b4
/-- the reference's clashes are those told by cs -/
theorem yk_0 (hg : rg_ok g) {f : Nat → Int64} {n : Nat} (hn : 1 ≤ n) : (∃ s t, s < n ∧ t < 4 ∧ yk_x g (f s) (fun _ => True) 0 t) ↔ cs_0 g f n := by
  constructor
  · rintro ⟨s, t, q1, q2, ⟨k, k', a, b, c⟩ | ⟨⟨k, a⟩, k', b, v, v3, c, _⟩⟩
    · exact ⟨s, t, q1, q2, Or.inl ⟨k, k', a, b.1, c.1, trivial, trivial, b.2.1, c.2.1⟩⟩
    · exact ⟨s, v, q1, by omega, Or.inr ⟨v3, k, k', a.1, trivial, a.2.1, b, c⟩⟩
  · rintro ⟨s, t, q1, q2, ⟨k, k', a, b, c, _, _, d, e⟩ | ⟨t3, k, k', a, _, b, c, d⟩⟩
    · exact ⟨s, t, q1, q2, Or.inl ⟨k, k', a, ⟨b, d, trivial⟩, ⟨c, e, trivial⟩⟩⟩
    · exact ⟨s, t, q1, q2, Or.inr ⟨⟨k, a, b, trivial⟩, k', c, t, t3, d, Or.inl rfl⟩⟩
theorem yk_c {M : Int64} {N : Nat → Prop} {C : Nat → Nat → Prop} {way t : Nat} (hN : ∀ k, bl M k = true ↔ N k) (hw : way ≠ 0) : yk_x g M (C t) way t ↔ cs_x g N C t := by
  constructor
  · rintro (⟨k, k', a, b, c⟩ | ⟨⟨k, a⟩, k', b, v, v3, c, e⟩)
    · exact Or.inl ⟨k, k', a, (hN k).mp b.1, (hN k').mp c.1, b.2.2, c.2.2, b.2.1, c.2.1⟩
    · rcases e with e | rfl
      · exact absurd e hw
      · exact Or.inr ⟨v3, k, k', (hN k).mp a.1, a.2.2, a.2.1, (hN k').mp b, c⟩
  · rintro (⟨k, k', a, b, c, p, q, d, e⟩ | ⟨t3, k, k', a, p, b, c, d⟩)
    · exact Or.inl ⟨k, k', a, ⟨(hN k).mpr b, d, p⟩, ⟨(hN k').mpr c, e, q⟩⟩
    · exact Or.inr ⟨⟨k, (hN k).mpr a, b, p⟩, k', (hN k').mpr c, t, t3, d, Or.inr rfl⟩
theorem yw_findGrade (hg : rg_ok g) (hG : xg_G g b_lefts b_rights b_counts) (hl : ∀ r, r < 9 → ∃ v, v < 7 ∧ b_lefts r = nI v) {post : Int32 → SY → Prop} (h : ∀ r u sc wc fi fo st lo wi wo, yg_R g r → yg_U g u → xb_ok g fi → xb_4 fi → post r (h_made, h_depth, h_length, h_tokenCount, h_wrong, h_letterCount, (nI (rg_n g)), h_makingCount, u, sc, wc, h_useCount, h_result, b_ops, b_firsts, b_seconds, b_sizes, b_stack, b_roots, b_text, b_ends, b_tokenKinds, b_tokenSizes, b_letters, b_begins, b_closes, b_empties, b_nexts, b_sets, b_leads, b_classes, b_newClasses, b_lefts, b_rights, b_counts, b_making, fi, fo, st, lo, wi, wo, b_met, b_tasks, b_held, b_uses, b_reach)) : wpY_findGrade post (h_made, h_depth, h_length, h_tokenCount, h_wrong, h_letterCount, (nI (rg_n g)), h_makingCount, h_usefulRules, h_stateCount, h_wideCount, h_useCount, h_result, b_ops, b_firsts, b_seconds, b_sizes, b_stack, b_roots, b_text, b_ends, b_tokenKinds, b_tokenSizes, b_letters, b_begins, b_closes, b_empties, b_nexts, b_sets, b_leads, b_classes, b_newClasses, b_lefts, b_rights, b_counts, b_making, b_firstSets, b_followSets, b_states, b_looks, b_wides, b_work, b_met, b_tasks, b_held, b_uses, b_reach) := by
  refine yw_makeStates (h_usefulRules := h_usefulRules) (h_stateCount := h_stateCount) (b_firstSets := b_firstSets) (b_followSets := b_followSets) (b_states := b_states) hg hG (fun u fi fo sc st hU hF h4 hW hS => ?_)
  have e0 : u = 0 ↔ ¬ ∃ r, us_U g r := by
    constructor
    · rintro rfl ⟨r, hr⟩
      have := (hU r).mpr hr
      rw [b_0] at this; cases this
    · intro no
      rw [b_zero]
      intro i _
      cases e : bt u i
      · rfl
      · exact absurd ⟨i, (hU i).mp e⟩ no
  obtain ⟨k, n, ⟨hk1, hk2⟩, hn61, hk3, rfl⟩ := hS
  refine br_c (fun z => br_t z (h _ u _ _ fi fo st _ _ _ (Or.inl ⟨e0.mp z, rfl⟩) hU hF h4)) (fun z => pk_le n 60 (fun hn => ?_) (fun hn => br_f z (h _ u _ _ fi fo st _ _ _ (Or.inr (Or.inl ⟨Classical.byContradiction fun q => z (e0.mpr q), ⟨k, by omega⟩, rfl⟩)) hU hF h4)))
  have hu : ∃ r, us_U g r := Classical.byContradiction fun q => z (e0.mpr q)
  have hfin : bf_fin (tb_a0 g) (tb_to g) (sb_B g k).1 n := ⟨k, by rw [← hk1]; rfl, by omega⟩
  have hf := fin_full hfin
  generalize (sb_B g k).1 = f at hfin hf hk2
  refine yw_findLooks hg hG hU h4 hF hn hf hk2 (fun lo wo hlo => ?_)
  have end4 : ∀ r, gd_R g f n r → ∀ wc wi wo', post r (h_made, h_depth, h_length, h_tokenCount, h_wrong, h_letterCount, (nI (rg_n g)), h_makingCount, u, (nI n), wc, h_useCount, h_result, b_ops, b_firsts, b_seconds, b_sizes, b_stack, b_roots, b_text, b_ends, b_tokenKinds, b_tokenSizes, b_letters, b_begins, b_closes, b_empties, b_nexts, b_sets, b_leads, b_classes, b_newClasses, b_lefts, b_rights, b_counts, b_making, fi, fo, st, lo, wi, wo', b_met, b_tasks, b_held, b_uses, b_reach) := fun r hr wc wi wo' => h r u _ wc fi fo st lo wi wo' (Or.inr (Or.inr ⟨hu, f, n, hfin, hn, hr⟩)) hU hF h4
  have io : ∀ s, s < n → tb_io g (f s) := fun s hs => tb_fio hg hf hs
  -- way 3
  have w3 : cs_0 g f n → cs_1 g f n → cs_2 g f n → wY_findGrade_41 post h_made h_depth h_length h_tokenCount h_wrong h_letterCount (nI (rg_n g)) h_makingCount u (nI n) h_wideCount h_useCount h_result b_ops b_firsts b_seconds b_sizes b_stack b_roots b_text b_ends b_tokenKinds b_tokenSizes b_letters b_begins b_closes b_empties b_nexts b_sets b_leads b_classes b_newClasses b_lefts b_rights b_counts b_making fi fo st lo b_wides wo b_met b_tasks b_held b_uses b_reach 1 (nI 3) := by
    intro c0 c1 c2
    refine br_t (nI_le (Nat.le_refl 3) (by decide)) (yw_makeWides hg hG hU h4 hF (fun wc wi wo' hZ => ?_))
    obtain ⟨kw, nw, ⟨z1, z2⟩, z3, z4, rfl⟩ := hZ
    refine pk_le nw 80 (fun q => ?_) (fun q => end4 _ (Or.inr (Or.inr (Or.inr (Or.inl ⟨c0, c1, c2, ⟨kw, by omega⟩, rfl⟩)))) _ _ _)
    have hfw : bf_fin (tw_a0 g) (tw_to g) (wb_B g kw).1 nw := ⟨kw, by rw [← z1]; rfl, by omega⟩
    have hfull := fin_fullw hfw
    generalize (wb_B g kw).1 = fw at hfw hfull z2
    have eL : ∀ s, s < nw → ∀ u', u' < 4 → wi (s * 4 + u') = w4_t (fw s) u' := by
      intro s hs u' hu'
      rw [← z2 s hs]
      unfold xz_w
      rw [w4_tm hu']
    have eN : ∀ s, s < nw → ∀ k, bl (mk_l (fun k => ∃ u', u' < 4 ∧ bl (w4_t (fw s) u') k = true)) k = true ↔ ∃ u', u' < 4 ∧ bl (w4_t (fw s) u') k = true := by
      intro s hs k
      rcases Nat.lt_or_ge k 64 with q | q
      · exact mk_bl _ q
      · rw [bl_big q]
        refine ⟨(fun w => by cases w), fun ⟨u', w1, w2⟩ => ?_⟩
        rw [bl_big q] at w2; cases w2
    have eq3 : (∃ s t, s < nw ∧ t < 4 ∧ yk_x g (mk_l (fun k => ∃ u', u' < 4 ∧ bl (w4_t (fw s) u') k = true)) (fun k => bl (w4_t (fw s) t) k = true) 3 t) ↔ cs_3 g fw nw := by
      constructor
      · rintro ⟨s, t, p1, p2, p3⟩
        exact ⟨s, t, p1, p2, (yk_c (C := fun t k => bl (w4_t (fw s) t) k = true) (eN s p1) (by decide)).mp p3⟩
      · rintro ⟨s, t, p1, p2, p3⟩
        exact ⟨s, t, p1, p2, (yk_c (C := fun t k => bl (w4_t (fw s) t) k = true) (eN s p1) (by decide)).mpr p3⟩
    refine yw_isClear (way := 3) (n := nw) (b_wides := wi) hg hG hl hW (Or.inr ⟨rfl, q⟩) (by omega) ⟨fun _ => rfl, fun q => absurd rfl q⟩ (M := fun s => mk_l (fun k => ∃ u', u' < 4 ∧ bl (w4_t (fw s) u') k = true)) (fun s hs k hk => ?_) (fun q => absurd rfl q) (fun _ s hs k => ?_) (C := fun s t k => bl (w4_t (fw s) t) k = true) (fun s t k hs ht _ => ?_) (fun p => br_f (by decide) (end4 _ (Or.inr (Or.inr (Or.inr (Or.inr ⟨c0, c1, c2, fw, nw, hfw, q, Or.inl ⟨fun p2 => p (eq3.mpr p2), rfl⟩⟩)))) _ _ _)) (fun p => br_t rfl (end4 _ (Or.inr (Or.inr (Or.inr (Or.inr ⟨c0, c1, c2, fw, nw, hfw, q, Or.inr ⟨eq3.mp p, rfl⟩⟩)))) _ _ _))
    · obtain ⟨u', p1, p2⟩ := (eN s hs k).mp hk
      exact (tw_fio hg hfull hs u' k p1 p2).1
    · rw [eN s hs k]
      exact ⟨fun ⟨u', p1, p2⟩ => ⟨u', p1, by rw [eL s hs u' p1]; exact p2⟩, fun ⟨u', p1, p2⟩ => ⟨u', p1, by rw [← eL s hs u' p1]; exact p2⟩⟩
    · rw [eL s hs t ht]
      exact ⟨fun p => Or.inr (Or.inr (Or.inr ⟨rfl, p⟩)), fun p => by
        rcases p with p | p | p | p
        · omega
        · omega
        · omega
        · exact p.2⟩
  have w2 : cs_0 g f n → cs_1 g f n → wY_findGrade_41 post h_made h_depth h_length h_tokenCount h_wrong h_letterCount (nI (rg_n g)) h_makingCount u (nI n) h_wideCount h_useCount h_result b_ops b_firsts b_seconds b_sizes b_stack b_roots b_text b_ends b_tokenKinds b_tokenSizes b_letters b_begins b_closes b_empties b_nexts b_sets b_leads b_classes b_newClasses b_lefts b_rights b_counts b_making fi fo st lo b_wides wo b_met b_tasks b_held b_uses b_reach 2 (nI 2) := by
    intro c0 c1
    have eq2 : (∃ s t, s < n ∧ t < 4 ∧ yk_x g (f s) (la_L g f n s t) 2 t) ↔ cs_2 g f n := by
      constructor
      · rintro ⟨s, t, p1, p2, p3⟩
        exact ⟨s, t, p1, p2, (yk_c (C := la_L g f n s) (fun _ => Iff.rfl) (by decide)).mp p3⟩
      · rintro ⟨s, t, p1, p2, p3⟩
        exact ⟨s, t, p1, p2, (yk_c (C := la_L g f n s) (fun _ => Iff.rfl) (by decide)).mpr p3⟩
    refine br_f (nI_ge (a := 2) (b := 3) (by decide) (by decide)) (yw_isClear (way := 2) (n := n) (b_looks := lo) (b_states := st) hg hG hl hW (Or.inl hn) (by omega) ⟨fun q => absurd q (by decide), fun _ => rfl⟩ (M := f) io (fun _ s hs => hk2 s hs) (fun q => absurd q (by decide)) (C := fun s t k => la_L g f n s t k) (fun s t k hs ht _ => ?_) (fun p => br_f (by decide) (end4 _ (Or.inr (Or.inr (Or.inl ⟨c0, c1, fun p2 => p (eq2.mpr p2), rfl⟩))) _ _ _)) (fun p => br_t rfl (nm_r (nI_1 2) (w3 c0 c1 (eq2.mp p)))))
    rw [hlo s t k hs ht]
    exact ⟨fun p => Or.inr (Or.inr (Or.inl ⟨rfl, p⟩)), fun p => by
      rcases p with p | p | p | p
      · omega
      · omega
      · exact p.2
      · omega⟩
  have w1 : cs_0 g f n → wY_findGrade_41 post h_made h_depth h_length h_tokenCount h_wrong h_letterCount (nI (rg_n g)) h_makingCount u (nI n) h_wideCount h_useCount h_result b_ops b_firsts b_seconds b_sizes b_stack b_roots b_text b_ends b_tokenKinds b_tokenSizes b_letters b_begins b_closes b_empties b_nexts b_sets b_leads b_classes b_newClasses b_lefts b_rights b_counts b_making fi fo st lo b_wides wo b_met b_tasks b_held b_uses b_reach 3 (nI 1) := by
    intro c0
    have eq1 : (∃ s t, s < n ∧ t < 4 ∧ yk_x g (f s) (cs_C1 g t) 1 t) ↔ cs_1 g f n := by
      constructor
      · rintro ⟨s, t, p1, p2, p3⟩
        exact ⟨s, t, p1, p2, (yk_c (C := cs_C1 g) (fun _ => Iff.rfl) (by decide)).mp p3⟩
      · rintro ⟨s, t, p1, p2, p3⟩
        exact ⟨s, t, p1, p2, (yk_c (C := cs_C1 g) (fun _ => Iff.rfl) (by decide)).mpr p3⟩
    refine br_f (nI_ge (a := 1) (b := 3) (by decide) (by decide)) (yw_isClear (way := 1) (n := n) (b_states := st) hg hG hl hW (Or.inl hn) (by omega) ⟨fun q => absurd q (by decide), fun _ => rfl⟩ (M := f) io (fun _ s hs => hk2 s hs) (fun q => absurd q (by decide)) (C := fun s t k => cs_C1 g t k) (fun s t k hs ht _ => ?_) (fun p => br_f (by decide) (end4 _ (Or.inr (Or.inl ⟨c0, fun p2 => p (eq1.mpr p2), rfl⟩)) _ _ _)) (fun p => br_t rfl (nm_r (nI_1 1) (w2 c0 (eq1.mp p)))))
    exact ⟨fun p => Or.inr (Or.inl ⟨rfl, p⟩), fun p => by
      rcases p with p | p | p | p
      · omega
      · exact p.2
      · omega
      · omega⟩
  have eq0 := yk_0 hg (f := f) (n := n) hf.1
  refine ⟨4, br_f (nI_ge (a := 0) (b := 3) (by decide) (by decide)) (yw_isClear (way := 0) (n := n) (b_states := st) hg hG hl hW (Or.inl hn) (by omega) ⟨fun q => absurd q (by decide), fun _ => rfl⟩ (M := f) io (fun _ s hs => hk2 s hs) (fun q => absurd q (by decide)) (C := fun s t k => True) (fun s t k hs ht _ => ⟨fun _ => Or.inl rfl, fun _ => trivial⟩) (fun p => br_f (by decide) (end4 _ (Or.inl ⟨fun p2 => p (eq0.mpr p2), rfl⟩) _ _ _)) (fun p => br_t rfl (nm_r (nI_1 0) (w1 (eq0.mp p)))))⟩
/-- the component's grade is that -/
theorem xp_R {ru sc wc gf : Int32} {bs fs : Nat → Int32} {ni oi ri si : Nat → Int64} {ss : Nat → Int32} {sl : Nat → Int64} {ws : Nat → Int32} {wl : Nat → Int64} (h : xp_T g ru sc wc gf bs fs ni oi ri si ss sl ws wl) : yg_R g gf := by
  obtain ⟨_, _, _, _, h | h | ⟨h1, f, n, h2, h3, h4, h5, h6⟩⟩ := h
  · exact Or.inl ⟨h.1, h.2.2.2⟩
  · exact Or.inr (Or.inl ⟨h.1, h.2.1, h.2.2.2.2⟩)
  · exact Or.inr (Or.inr ⟨h1, f, n, h2.1, h2.2.1, h6⟩)
end
end
section
/-! the reference meets items along the tokens -/
variable {h_made h_depth h_length h_tokenCount h_wrong h_letterCount h_ruleCount h_makingCount h_usefulRules h_stateCount h_wideCount h_useCount h_result : Int32} {b_ops b_firsts b_seconds b_sizes b_stack b_roots b_text b_ends b_tokenKinds b_tokenSizes b_letters b_begins b_closes b_empties b_nexts b_sets b_leads b_classes b_newClasses b_lefts b_rights b_counts b_making b_firstSets b_followSets b_tasks b_held b_uses b_reach : Nat → Int32} {b_states b_looks b_wides b_work b_met : Nat → Int64}
section
variable {g : rg_T}
/-- symbol s over the places i to j, by what was met -/
def ym_d (g : rg_T) (w : Nat → Nat) (M : Nat → Int64) (s i j : Nat) : Prop := (s < 3 ∧ j = i + 1 ∧ w i = s) ∨ (3 ≤ s ∧ ∃ r, us_U g r ∧ rg_l g r = s ∧ bl (M (j * 25 + i)) (5 * r + rg_c g r) = true)
theorem yw_derives (hg : rg_ok g) (hG : xg_G g b_lefts b_rights b_counts) {u : Int32} (hU : yg_U g u) {w : Nat → Nat} {c s i j : Nat} (hc : c ≤ 24) (hw : ∀ i, i < c → b_tokenKinds i = nI (w i) ∧ w i < 3) (hs : s < 7) (hij : i ≤ j) (hj : j ≤ c) {post : Int32 → Prop} (h1 : ym_d g w b_met s i j → post 1) (h0 : ¬ ym_d g w b_met s i j → post 0) : wpY_derives post (h_made, h_depth, h_length, h_tokenCount, h_wrong, h_letterCount, h_ruleCount, h_makingCount, u, h_stateCount, h_wideCount, h_useCount, h_result, b_ops, b_firsts, b_seconds, b_sizes, b_stack, b_roots, b_text, b_ends, b_tokenKinds, b_tokenSizes, b_letters, b_begins, b_closes, b_empties, b_nexts, b_sets, b_leads, b_classes, b_newClasses, b_lefts, b_rights, b_counts, b_making, b_firstSets, b_followSets, b_states, b_looks, b_wides, b_work, b_met, b_tasks, b_held, b_uses, b_reach) (nI s) (nI i) (nI j) := by
  have h9 := hg.1
  refine pk_le 3 s (fun z => ?_) (fun z => ?_)
  · refine loop_0 (fun f r (_ : Unit) => wY_derives_31 post (nI s) (nI i) (nI j) h_made h_depth h_length h_tokenCount h_wrong h_letterCount h_ruleCount h_makingCount u h_stateCount h_wideCount h_useCount h_result b_ops b_firsts b_seconds b_sizes b_stack b_roots b_text b_ends b_tokenKinds b_tokenSizes b_letters b_begins b_closes b_empties b_nexts b_sets b_leads b_classes b_newClasses b_lefts b_rights b_counts b_making b_firstSets b_followSets b_states b_looks b_wides b_work b_met b_tasks b_held b_uses b_reach f (nI r)) (fun r _ => ∀ r', r' < r → us_U g r' → rg_l g r' = s → ¬ bl (b_met (j * 25 + i)) (5 * r' + rg_c g r') = true) 9 () (fun r' q => absurd q (Nat.not_lt_zero _)) ?_ ?_
    · intro f _ hr
      refine br_t (nI_le (Nat.le_refl 9) (by decide)) (h0 ?_)
      rintro (⟨q, _⟩ | ⟨_, r, q1, q2, q3⟩)
      · omega
      · exact hr r (by have := q1.1; omega) q1 q2 q3
    · intro f r _ hr hno hk
      have skip : ¬ (us_U g r ∧ rg_l g r = s ∧ bl (b_met (j * 25 + i)) (5 * r + rg_c g r) = true) → wY_derives_31 post (nI s) (nI i) (nI j) h_made h_depth h_length h_tokenCount h_wrong h_letterCount h_ruleCount h_makingCount u h_stateCount h_wideCount h_useCount h_result b_ops b_firsts b_seconds b_sizes b_stack b_roots b_text b_ends b_tokenKinds b_tokenSizes b_letters b_begins b_closes b_empties b_nexts b_sets b_leads b_classes b_newClasses b_lefts b_rights b_counts b_making b_firstSets b_followSets b_states b_looks b_wides b_work b_met b_tasks b_held b_uses b_reach f (nI (r + 1)) := by
        intro q
        refine hk () fun r' hr' p1 p2 p3 => ?_
        by_cases e : r' = r
        · subst e; exact q ⟨p1, p2, p3⟩
        · exact hno r' (by omega) p1 p2 p3
      refine br_f (nI_ge hr (by decide)) (br_c (fun q => ?_) (fun q => ?_))
      · have q := (hU r).mp ((b_test u (n := r) (by omega)).mp q)
        obtain ⟨g1, g2, g3⟩ := hG r (Or.inl q.1)
        have l := hg.2.1 r q.1
        have cr : (nI r).toNatClampNeg = r := nI_clamp (by omega)
        refine br_f (by decide) ⟨vp_in_nI (by omega) (by decide), ?_⟩
        rw [cr, g1]
        refine pk_eq (rg_l g r) s (fun e => ⟨pk_in (j * 25 + i) 625 (by omega) (ix_25 j i), vp_in_nI (by omega) (by decide), ?_⟩) (fun e => nm_r (nI_1 r) (skip fun p => e p.2.1))
        rw [pk_cl (j * 25 + i) (ix_25 j i), g2, show (5 : Int32) * nI r + nI (rg_c g r) = nI (r * 5 + rg_c g r) from ix_l5 r _]
        have e5 : r * 5 + rg_c g r = 5 * r + rg_c g r := by omega
        refine br_c (fun p => h1 (Or.inr ⟨z, r, q, e, ?_⟩)) (fun p => nm_r (nI_1 r) (skip fun p2 => p ?_))
        · rw [← e5]; exact (bl_test _ (n := r * 5 + rg_c g r) (by omega)).mp p
        · rw [bl_test _ (by omega), e5]; exact p2.2.2
      · have q : ¬ us_U g r := fun y => q ((b_test u (by omega)).mpr ((hU r).mpr y))
        exact br_t rfl (nm_r (nI_1 r) (skip fun p => q p.1))
  · rw [nI_1]
    refine pk_eq j (i + 1) (fun e => ⟨vp_in_nI (by omega) (by decide), ?_⟩) (fun e => h0 ?_)
    · obtain ⟨w1, w2⟩ := hw i (by omega)
      rw [nI_clamp (by omega : i < 2 ^ 31), w1]
      refine pk_eq (w i) s (fun q => h1 (Or.inl ⟨z, e, q⟩)) (fun q => h0 ?_)
      rintro (⟨_, _, p⟩ | ⟨p, _⟩)
      · exact q p
      · omega
    · rintro (⟨_, p, _⟩ | ⟨p, _⟩)
      · exact e p
      · omega
/-- sound up to row j -/
def ym_S (g : rg_T) (X : tx_T) (M : Nat → Int64) (j : Nat) : Prop := ∀ i' j' k, j' ≤ j → i' ≤ j' → bl (M (j' * 25 + i')) k = true → er_E (tg_G g) X i' j' (k / 5) (k % 5)
/-- more in row j, the rows before as they were -/
def ym_L (M M' : Nat → Int64) (j : Nat) : Prop := (∀ x, x < j * 25 ∨ j * 25 + j < x → M' x = M x) ∧ ∀ i' k, i' ≤ j → bl (M (j * 25 + i')) k = true → bl (M' (j * 25 + i')) k = true
noncomputable def ym_c (M : Nat → Int64) (j : Nat) : Nat := cn_c (fun x => x / 47 ≤ j ∧ bl (M (j * 25 + x / 47)) (x % 47) = true) 1175
theorem ym_lt {M M' : Nat → Int64} {j i k : Nat} (h : ym_L M M' j) (hj : j ≤ 24) (hi : i ≤ j) (hk : k < 47) (h1 : ¬ bl (M (j * 25 + i)) k = true) (h2 : bl (M' (j * 25 + i)) k = true) : ym_c M j < ym_c M' j := by
  have e1 : (i * 47 + k) / 47 = i := by omega
  have e2 : (i * 47 + k) % 47 = k := by omega
  exact cn_lt (a := i * 47 + k) (by rw [e1, e2]; exact fun q => h1 q.2) (by rw [e1, e2]; exact ⟨hi, h2⟩) (fun x _ q => ⟨q.1, h.2 _ _ q.1 q.2⟩) (by omega)
theorem ym_mono {M M' : Nat → Int64} {j : Nat} (h : ym_L M M' j) : ym_c M j ≤ ym_c M' j := cn_mono fun _ _ q => ⟨q.1, h.2 _ _ q.1 q.2⟩
theorem ym_tr {M M' M'' : Nat → Int64} {j : Nat} (h : ym_L M M' j) (h' : ym_L M' M'' j) : ym_L M M'' j := ⟨fun x hx => by rw [h'.1 x hx]; exact h.1 x hx, fun i' k hi hk => h'.2 i' k hi (h.2 i' k hi hk)⟩
theorem er_im {X : tx_T} (hX : tx_ok X) (hg : rg_ok g) {i j k : Nat} (h : er_E (tg_G g) X i j (k / 5) (k % 5)) : im_ok g k := by
  have := er_sound hX (tg_ok hg) h
  exact ⟨this.2.1, this.2.2.1⟩
/-- predicted: all that the items of row j from i open is there -/
def ym_P (g : rg_T) (M : Nat → Int64) (i j : Nat) : Prop := ∀ k r, bl (M (j * 25 + i)) k = true → us_U g r → im_nx g k (rg_l g r) → bl (M (j * 25 + j)) (5 * r) = true
/-- completed over the spans m to j -/
def ym_Q (g : rg_T) (w : Nat → Nat) (M : Nat → Int64) (i j m s : Nat) : Prop := ym_d g w M s m j → ∀ k, bl (M (m * 25 + i)) k = true → im_nx g k s → bl (M (j * 25 + i)) (k + 1) = true
theorem ym_up {X : tx_T} {M : Nat → Int64} {j i : Nat} {T : Int64} (hj24 : j ≤ 24) (hS : ym_S g X M j) (hi : i ≤ j) (hT : ∀ k, bl T k = true → er_E (tg_G g) X i j (k / 5) (k % 5)) : ym_S g X (vp_updL M (j * 25 + i) T) j := by
  intro i' j' k h1 h2 h3
  by_cases e : j' * 25 + i' = j * 25 + i
  · rw [e, pk_uLs] at h3
    by_cases q : j' = j
    · subst q
      have : i' = i := by omega
      subst this
      exact hT k h3
    · exfalso
      -- another row with the same place: not below 25
      have : i' ≤ j' := h2
      omega
  · rw [pk_uLn e] at h3
    exact hS i' j' k h1 h2 h3
/-- a place of row j with more in it -/
theorem ym_w {X : tx_T} (hX : tx_ok X) (hg : rg_ok g) {N : Nat → Int64} {j i : Nat} {V : Int64} (hj24 : j ≤ 24) (hi : i ≤ j) (hS : ym_S g X N j) (hV : ∀ k, bl V k = true → er_E (tg_G g) X i j (k / 5) (k % 5)) (hle : ∀ k, bl (N (j * 25 + i)) k = true → bl V k = true) :
    ym_S g X (vp_updL N (j * 25 + i) V) j ∧ ym_L N (vp_updL N (j * 25 + i) V) j ∧ (V = N (j * 25 + i) → vp_updL N (j * 25 + i) V = N) ∧ (¬ V = N (j * 25 + i) → ym_c N j < ym_c (vp_updL N (j * 25 + i) V) j) := by
  have hL : ym_L N (vp_updL N (j * 25 + i) V) j := by
    refine ⟨fun x hx => pk_uLn (by omega), fun i' k hi' hk => ?_⟩
    by_cases e : i' = i
    · subst e; rw [pk_uLs]; exact hle k hk
    · rw [pk_uLn (by omega)]; exact hk
  refine ⟨ym_up hj24 hS hi hV, hL, fun e => ?_, fun e => ?_⟩
  · funext x
    unfold vp_updL
    split
    · rename_i q; rw [q, e]
    · rfl
  · have : ∃ k, bl V k = true ∧ ¬ bl (N (j * 25 + i)) k = true := by
      refine Classical.byContradiction fun q => e (bl_ext fun k _ => ?_)
      cases c1 : bl V k
      · cases c2 : bl (N (j * 25 + i)) k
        · rfl
        · rw [hle k c2] at c1; cases c1
      · cases c2 : bl (N (j * 25 + i)) k
        · exact absurd ⟨k, c1, by rw [c2]; intro p; cases p⟩ q
        · rfl
    obtain ⟨k, p1, p2⟩ := this
    exact ym_lt hL hj24 hi (im_lt hg (er_im hX hg (hV k p1))) p2 (by rw [pk_uLs]; exact p1)
theorem yw_meetMore (hg : rg_ok g) (hG : xg_G g b_lefts b_rights b_counts) {u : Int32} (hU : yg_U g u) {w : Nat → Nat} {c i j : Nat} (hc : c ≤ 24) (hw : ∀ i, i < c → b_tokenKinds i = nI (w i) ∧ w i < 3) (hij : i ≤ j) (hj : j ≤ c) (hS : ym_S g (w, c) b_met j) {post : Int32 → SY → Prop}
    (h0 : ym_P g b_met i j → (∀ m s, i ≤ m → m ≤ j → 3 ≤ s → s < 7 → ym_Q g w b_met i j m s) → post 0 (h_made, h_depth, h_length, h_tokenCount, h_wrong, h_letterCount, h_ruleCount, h_makingCount, u, h_stateCount, h_wideCount, h_useCount, h_result, b_ops, b_firsts, b_seconds, b_sizes, b_stack, b_roots, b_text, b_ends, b_tokenKinds, b_tokenSizes, b_letters, b_begins, b_closes, b_empties, b_nexts, b_sets, b_leads, b_classes, b_newClasses, b_lefts, b_rights, b_counts, b_making, b_firstSets, b_followSets, b_states, b_looks, b_wides, b_work, b_met, b_tasks, b_held, b_uses, b_reach)) (h1 : ∀ M, ym_S g (w, c) M j → ym_L b_met M j → ym_c b_met j < ym_c M j → post 1 (h_made, h_depth, h_length, h_tokenCount, h_wrong, h_letterCount, h_ruleCount, h_makingCount, u, h_stateCount, h_wideCount, h_useCount, h_result, b_ops, b_firsts, b_seconds, b_sizes, b_stack, b_roots, b_text, b_ends, b_tokenKinds, b_tokenSizes, b_letters, b_begins, b_closes, b_empties, b_nexts, b_sets, b_leads, b_classes, b_newClasses, b_lefts, b_rights, b_counts, b_making, b_firstSets, b_followSets, b_states, b_looks, b_wides, b_work, M, b_tasks, b_held, b_uses, b_reach)) : wpY_meetMore post (h_made, h_depth, h_length, h_tokenCount, h_wrong, h_letterCount, h_ruleCount, h_makingCount, u, h_stateCount, h_wideCount, h_useCount, h_result, b_ops, b_firsts, b_seconds, b_sizes, b_stack, b_roots, b_text, b_ends, b_tokenKinds, b_tokenSizes, b_letters, b_begins, b_closes, b_empties, b_nexts, b_sets, b_leads, b_classes, b_newClasses, b_lefts, b_rights, b_counts, b_making, b_firstSets, b_followSets, b_states, b_looks, b_wides, b_work, b_met, b_tasks, b_held, b_uses, b_reach) (nI j) (nI i) := by
  have hX : tx_ok (w, c) := fun i hi => (hw i hi).2
  have S := er_self (tg_G g) (w, c)
  have cji : (25 * nI j + nI i).toNatClampNeg = j * 25 + i := pk_cl (j * 25 + i) (ix_25 j i)
  have cjj : (25 * nI j + nI j).toNatClampNeg = j * 25 + j := pk_cl (j * 25 + j) (ix_25 j j)
  have iji : vp_in (25 * nI j + nI i) 625 := pk_in (j * 25 + i) 625 (by omega) (ix_25 j i)
  have ijj : vp_in (25 * nI j + nI j) 625 := pk_in (j * 25 + j) 625 (by omega) (ix_25 j j)
  refine loop_0 (fun f k σ => wY_meetMore_5 post (nI j) (nI i) h_made h_depth h_length h_tokenCount h_wrong h_letterCount h_ruleCount h_makingCount u h_stateCount h_wideCount h_useCount h_result f σ.1 (nI k) b_ops b_firsts b_seconds b_sizes b_stack b_roots b_text b_ends b_tokenKinds b_tokenSizes b_letters b_begins b_closes b_empties b_nexts b_sets b_leads b_classes b_newClasses b_lefts b_rights b_counts b_making b_firstSets b_followSets b_states b_looks b_wides b_work σ.2 b_tasks b_held b_uses b_reach) (fun k σ => ym_S g (w, c) σ.2 j ∧ ym_L b_met σ.2 j ∧ ((σ.1 = 0 ∧ σ.2 = b_met ∧ ∀ k' r, k' < k → bl (b_met (j * 25 + i)) k' = true → us_U g r → im_nx g k' (rg_l g r) → bl (b_met (j * 25 + j)) (5 * r) = true) ∨ (σ.1 = 1 ∧ ym_c b_met j < ym_c σ.2 j))) 50 ((0 : Int32), b_met) ⟨hS, ⟨fun _ _ => rfl, fun _ _ _ z => z⟩, Or.inl ⟨rfl, rfl, fun k' r q => absurd q (Nat.not_lt_zero _)⟩⟩ ?_ ?_
  · rintro f ⟨cc, M⟩ ⟨s1, s2, s3⟩
    have s1 : ym_S g (w, c) M j := s1
    have s2 : ym_L b_met M j := s2
    have s3 : (cc = 0 ∧ M = b_met ∧ ∀ k' r, k' < 50 → bl (b_met (j * 25 + i)) k' = true → us_U g r → im_nx g k' (rg_l g r) → bl (b_met (j * 25 + j)) (5 * r) = true) ∨ (cc = 1 ∧ ym_c b_met j < ym_c M j) := s3
    have hP : cc = 0 → ym_P g b_met i j := by
      intro q k r p1 p2 p3
      rcases s3 with ⟨_, _, s3⟩ | ⟨s3, _⟩
      · exact s3 k r (by have := im_lt hg (er_im hX hg (hS i j k (Nat.le_refl _) hij p1)); omega) p1 p2 p3
      · rw [q] at s3; exact absurd s3 (by decide)
    refine br_t (nI_le (Nat.le_refl 50) (by decide)) ?_
    -- the spans
    refine pk_loop (fun f m σ => wY_meetMore_134 post (nI j) (nI i) h_made h_depth h_length h_tokenCount h_wrong h_letterCount h_ruleCount h_makingCount u h_stateCount h_wideCount h_useCount h_result f σ.1 (nI m) b_ops b_firsts b_seconds b_sizes b_stack b_roots b_text b_ends b_tokenKinds b_tokenSizes b_letters b_begins b_closes b_empties b_nexts b_sets b_leads b_classes b_newClasses b_lefts b_rights b_counts b_making b_firstSets b_followSets b_states b_looks b_wides b_work σ.2 b_tasks b_held b_uses b_reach) (fun m σ => i ≤ m ∧ ym_S g (w, c) σ.2 j ∧ ym_L b_met σ.2 j ∧ ((σ.1 = 0 ∧ σ.2 = b_met ∧ ym_P g b_met i j ∧ ∀ m' s, i ≤ m' → m' < m → 3 ≤ s → s < 7 → ym_Q g w b_met i j m' s) ∨ (σ.1 = 1 ∧ ym_c b_met j < ym_c σ.2 j))) (j + 1) i (cc, M) (by omega) ⟨Nat.le_refl _, s1, s2, ?_⟩ ?_ ?_
    · rcases s3 with ⟨q1, q2, _⟩ | q
      · exact Or.inl ⟨q1, q2, hP q1, fun m' s p1 p2 => by omega⟩
      · exact Or.inr q
    · rintro f ⟨c2, N⟩ ⟨_, n1, n2, n3⟩
      refine br_t (nI_lt (by omega) (by omega)) ?_
      rcases n3 with ⟨q1, q2, q3, q4⟩ | ⟨q1, q2⟩
      · have q1 : c2 = 0 := q1
        have q2 : N = b_met := q2
        subst q1 q2
        exact ⟨nb_0, h0 q3 fun m s p1 p2 p3 p4 => q4 m s p1 (by omega) p3 p4⟩
      · have q1 : c2 = 1 := q1
        subst q1
        exact ⟨nb_1, h1 N n1 n2 q2⟩
    · rintro f m ⟨c2, N⟩ hm ⟨him, n1, n2, n3⟩ hk
      have n3 : (c2 = 0 ∧ N = b_met ∧ ym_P g b_met i j ∧ ∀ m' s, i ≤ m' → m' < m → 3 ≤ s → s < 7 → ym_Q g w b_met i j m' s) ∨ (c2 = 1 ∧ ym_c b_met j < ym_c N j) := n3
      have n1 : ym_S g (w, c) N j := n1
      have n2 : ym_L b_met N j := n2
      · refine br_f (nI_nlt (by omega) (by omega)) ?_
        refine loop_0 (fun f' y σ => wY_meetMore_143 post (wY_meetMore_134 post (nI j) (nI i) h_made h_depth h_length h_tokenCount h_wrong h_letterCount h_ruleCount h_makingCount u h_stateCount h_wideCount h_useCount h_result f) (nI j) (nI i) (nI m) h_made h_depth h_length h_tokenCount h_wrong h_letterCount h_ruleCount h_makingCount u h_stateCount h_wideCount h_useCount h_result f' σ.1 (nI (3 + y)) b_ops b_firsts b_seconds b_sizes b_stack b_roots b_text b_ends b_tokenKinds b_tokenSizes b_letters b_begins b_closes b_empties b_nexts b_sets b_leads b_classes b_newClasses b_lefts b_rights b_counts b_making b_firstSets b_followSets b_states b_looks b_wides b_work σ.2 b_tasks b_held b_uses b_reach) (fun y σ => ym_S g (w, c) σ.2 j ∧ ym_L b_met σ.2 j ∧ ((σ.1 = 0 ∧ σ.2 = b_met ∧ ym_P g b_met i j ∧ (∀ m' s, i ≤ m' → m' < m → 3 ≤ s → s < 7 → ym_Q g w b_met i j m' s) ∧ ∀ s, 3 ≤ s → s < 3 + y → ym_Q g w b_met i j m s) ∨ (σ.1 = 1 ∧ ym_c b_met j < ym_c σ.2 j))) 4 (c2, N) ⟨n1, n2, n3.imp (fun q => ⟨q.1, q.2.1, q.2.2.1, q.2.2.2, fun s p1 p2 => by omega⟩) id⟩ ?_ ?_
        · rintro f' ⟨c3, P⟩ ⟨p1, p2, p3⟩
          refine br_t (nI_le (Nat.le_refl 7) (by decide)) (nm_r (nI_1 m) (hk (c3, P) ⟨by omega, p1, p2, p3.imp (fun q => ⟨q.1, q.2.1, q.2.2.1, fun m' s a b d e => ?_⟩) id⟩))
          by_cases em : m' = m
          · subst em; exact q.2.2.2.2 s d (by omega)
          · exact q.2.2.2.1 m' s a (by omega) d e
        · rintro f' y ⟨c3, P⟩ hy ⟨p1, p2, p3⟩ hk2
          have p1 : ym_S g (w, c) P j := p1
          have p2 : ym_L b_met P j := p2
          have p3 : (c3 = 0 ∧ P = b_met ∧ ym_P g b_met i j ∧ (∀ m' s, i ≤ m' → m' < m → 3 ≤ s → s < 7 → ym_Q g w b_met i j m' s) ∧ ∀ s, 3 ≤ s → s < 3 + y → ym_Q g w b_met i j m s) ∨ (c3 = 1 ∧ ym_c b_met j < ym_c P j) := p3
          -- the store, with what came
          have st : ∀ T : Int64, (∀ k, bl T k = true ↔ ym_d g w P (3 + y) m j ∧ tb_mv g (P (m * 25 + i)) (3 + y) k) → wY_meetMore_197 post (wY_meetMore_134 post (nI j) (nI i) h_made h_depth h_length h_tokenCount h_wrong h_letterCount h_ruleCount h_makingCount u h_stateCount h_wideCount h_useCount h_result f) (wY_meetMore_143 post (wY_meetMore_134 post (nI j) (nI i) h_made h_depth h_length h_tokenCount h_wrong h_letterCount h_ruleCount h_makingCount u h_stateCount h_wideCount h_useCount h_result f) (nI j) (nI i) (nI m) h_made h_depth h_length h_tokenCount h_wrong h_letterCount h_ruleCount h_makingCount u h_stateCount h_wideCount h_useCount h_result f') (nI j) (nI i) c3 (nI m) (nI (3 + y)) (P (j * 25 + i)) T h_made h_depth h_length h_tokenCount h_wrong h_letterCount h_ruleCount h_makingCount u h_stateCount h_wideCount h_useCount h_result b_ops b_firsts b_seconds b_sizes b_stack b_roots b_text b_ends b_tokenKinds b_tokenSizes b_letters b_begins b_closes b_empties b_nexts b_sets b_leads b_classes b_newClasses b_lefts b_rights b_counts b_making b_firstSets b_followSets b_states b_looks b_wides b_work P b_tasks b_held b_uses b_reach := by
            intro T hT
            have eV : ∀ k, bl (P (j * 25 + i) ||| T) k = true ↔ bl (P (j * 25 + i)) k = true ∨ bl T k = true := fun k => by rw [bl_or, Bool.or_eq_true]
            have sV : ∀ k, bl (P (j * 25 + i) ||| T) k = true → er_E (tg_G g) (w, c) i j (k / 5) (k % 5) := by
              intro k hk
              rcases (eV k).mp hk with q | q
              · exact p1 i j k (Nat.le_refl _) hij q
              · obtain ⟨q1, q0, rfl, q2, q3⟩ := (hT k).mp q
                have e0 := p1 i m q0 (by omega) him q2
                have io := er_im hX hg e0
                obtain ⟨_, e1, e2⟩ := im_s hg io q3
                rw [e1, e2]
                rcases q1 with ⟨q1, _⟩ | ⟨_, r, q4, q5, q6⟩
                · omega
                · have h47 := hg.2.1 r q4.1
                  have er := p1 m j (5 * r + rg_c g r) (Nat.le_refl _) (by omega) q6
                  rw [show (5 * r + rg_c g r) / 5 = r by omega, show (5 * r + rg_c g r) % 5 = rg_c g r by omega] at er
                  exact S.2.2.2 i m j _ _ r e0 q3.1 er q4 (q5.trans q3.2.symm)
            obtain ⟨w1, w2, w3, w4⟩ := ym_w hX hg (by omega) hij p1 sV (fun k hk => (eV k).mpr (Or.inl hk))
            have tr := ym_tr p2 w2
            have le := ym_mono p2
            refine ⟨iji, ?_⟩
            rw [cji]
            refine nm_e (br_c (fun q => ⟨iji, ?_⟩) (fun q => nm_r (nI_1 (3 + y)) (hk2 (1, vp_updL P (j * 25 + i) (P (j * 25 + i) ||| T)) ⟨w1, tr, Or.inr ⟨rfl, ?_⟩⟩)))
            · rw [pk_uLs]
              refine br_c (fun q2 => nm_r (nI_1 (3 + y)) ?_) (fun q2 => nm_r (nI_1 (3 + y)) (hk2 (1, vp_updL P (j * 25 + i) (P (j * 25 + i) ||| T)) ⟨w1, tr, Or.inr ⟨rfl, ?_⟩⟩))
              · rw [w3 q2]
                refine hk2 (0, P) ⟨p1, p2, ?_⟩
                rcases p3 with ⟨a1, a2, a3, a4, a5⟩ | ⟨a1, _⟩
                · refine Or.inl ⟨rfl, a2, a3, a4, fun s b1 b2 => ?_⟩
                  by_cases es : s = 3 + y
                  · subst es
                    rw [← a2]
                    intro d1 k d2 d3
                    have := (eV (k + 1)).mpr (Or.inr ((hT (k + 1)).mpr ⟨d1, k, rfl, d2, d3⟩))
                    rw [q2] at this
                    exact this
                  · exact a5 s b1 (by omega)
                · rw [q] at a1; exact absurd a1 (by decide)
              · have := w4 q2
                show ym_c b_met j < ym_c (vp_updL P (j * 25 + i) (P (j * 25 + i) ||| T)) j
                omega
            · have a : ym_c b_met j < ym_c P j := by
                rcases p3 with ⟨a1, _⟩ | ⟨_, a⟩
                · exact absurd a1 q
                · exact a
              have := ym_mono w2
              show ym_c b_met j < ym_c (vp_updL P (j * 25 + i) (P (j * 25 + i) ||| T)) j
              omega
          refine br_f (nI_ge (a := 3 + y) (b := 7) (by omega) (by decide)) ⟨iji, nm_r (e' := P (j * 25 + i)) (by rw [cji]) ?_⟩
          refine yw_derives (b_met := P) hg hG hU hc hw (by omega) (by omega) hj (fun q => br_f (by decide) ⟨pk_in (m * 25 + i) 625 (by omega) (ix_25 m i), ?_⟩) (fun q => br_t rfl (st 0 fun k => ?_))
          · rw [pk_cl (m * 25 + i) (ix_25 m i)]
            refine yw_moved hg hG (fun k hk => er_im hX hg (p1 i m k (by omega) him hk)) (by omega) (fun T hT => st T fun k => ?_)
            rw [hT k]
            exact ⟨fun z => ⟨q, z⟩, fun z => z.2⟩
          · rw [bl_0]; exact ⟨(fun z => by cases z), fun z => absurd z.1 q⟩
  · rintro f k ⟨cc, M⟩ hk50 ⟨s1, s2, s3⟩ hk
    have s1 : ym_S g (w, c) M j := s1
    have s2 : ym_L b_met M j := s2
    have s3 : (cc = 0 ∧ M = b_met ∧ ∀ k' r, k' < k → bl (b_met (j * 25 + i)) k' = true → us_U g r → im_nx g k' (rg_l g r) → bl (b_met (j * 25 + j)) (5 * r) = true) ∨ (cc = 1 ∧ ym_c b_met j < ym_c M j) := s3
    have keep : (cc = 0 → M = b_met → bl (b_met (j * 25 + i)) k = true → ∀ r, us_U g r → im_nx g k (rg_l g r) → bl (b_met (j * 25 + j)) (5 * r) = true) → wY_meetMore_5 post (nI j) (nI i) h_made h_depth h_length h_tokenCount h_wrong h_letterCount h_ruleCount h_makingCount u h_stateCount h_wideCount h_useCount h_result f cc (nI (k + 1)) b_ops b_firsts b_seconds b_sizes b_stack b_roots b_text b_ends b_tokenKinds b_tokenSizes b_letters b_begins b_closes b_empties b_nexts b_sets b_leads b_classes b_newClasses b_lefts b_rights b_counts b_making b_firstSets b_followSets b_states b_looks b_wides b_work M b_tasks b_held b_uses b_reach := by
      intro q
      refine hk (cc, M) ⟨s1, s2, ?_⟩
      rcases s3 with ⟨a1, a2, a3⟩ | a
      · refine Or.inl ⟨a1, a2, fun k' r b1 b2 b3 b4 => ?_⟩
        by_cases e : k' = k
        · subst e; exact q a1 a2 b2 r b3 b4
        · exact a3 k' r (by omega) b2 b3 b4
      · exact Or.inr a
    refine br_f (nI_ge hk50 (by decide)) ⟨iji, ?_⟩
    rw [cji]
    refine br_c (fun z => ?_) (fun z => br_t (by decide) (nm_r (nI_1 k) (keep fun _ e b => absurd ((bl_test _ (by omega)).mpr (by rw [show (cc, M).2 = M from rfl, e]; exact b)) z)))
    have z : bl (M (j * 25 + i)) k = true := (bl_test (M (j * 25 + i)) (n := k) (by omega)).mp z
    have eK := s1 i j k (Nat.le_refl _) hij z
    have io := er_im hX hg eK
    refine yw_nextOf hg hG io (fun v hv v7 => pk_le v 2 (fun y => nm_r (nI_1 k) (keep fun _ _ _ r hr hn => ?_)) (fun y => ⟨ijj, nm_r (e' := M (j * 25 + j)) (by rw [cjj]) ?_⟩)) (fun hcp => br_t (by decide) (nm_r (nI_1 k) (keep fun _ _ _ r hr hn => ?_)))
    · have := (hg.2.1 r hr.1).1
      have := hv.2.symm.trans hn.2
      omega
    · have eB : ∀ b, bl (M (j * 25 + j) ||| (1 : Int64) <<< ((nI k).toInt64 &&& 63)) b = true ↔ bl (M (j * 25 + j)) b = true ∨ b = k := fun b => by rw [bl_or, Bool.or_eq_true, bl_one _ (by omega), decide_eq_true_eq]
      have ioB : tb_io g (M (j * 25 + j) ||| (1 : Int64) <<< ((nI k).toInt64 &&& 63)) := by
        intro b hb
        rcases (eB b).mp hb with q | rfl
        · exact er_im hX hg (s1 j j b (Nat.le_refl _) (Nat.le_refl _) q)
        · exact io
      refine yw_closure hg hG hU ioB ⟨ijj, ?_⟩
      rw [cjj]
      -- what the place then holds
      have eR := tb_mk hg (S := fun i => bl (M (j * 25 + j) ||| (1 : Int64) <<< ((nI k).toInt64 &&& 63)) i = true) ioB
      generalize mk_l (cl_0 g (fun i => bl (M (j * 25 + j) ||| (1 : Int64) <<< ((nI k).toInt64 &&& 63)) i = true)) = R at eR ⊢
      have snd : ∀ b, cl_0 g (fun i => bl (M (j * 25 + j) ||| (1 : Int64) <<< ((nI k).toInt64 &&& 63)) i = true) b → b = k ∨ er_E (tg_G g) (w, c) j j (b / 5) (b % 5) := by
        intro b hb
        refine hb (fun b => b = k ∨ er_E (tg_G g) (w, c) j j (b / 5) (b % 5)) (fun b hb => ?_) (fun b r hb hr hn => Or.inr ?_)
        · rcases (eB b).mp hb with q | q
          · exact Or.inr (s1 j j b (Nat.le_refl _) (Nat.le_refl _) q)
          · exact Or.inl q
        · rw [show 5 * r / 5 = r by omega, show 5 * r % 5 = 0 by omega]
          rcases hb with rfl | hb
          · exact S.2.1 i j _ _ r eK hn.1 hr hn.2.symm
          · exact S.2.1 j j _ _ r hb hn.1 hr hn.2.symm
      have eV : ∀ b, bl ((R &&& ((1 : Int64) <<< ((nI k).toInt64 &&& 63) ^^^ (-1))) ||| M (j * 25 + j)) b = true ↔ bl (M (j * 25 + j)) b = true ∨ (b ≠ k ∧ bl R b = true) := by
        intro b
        rw [bl_or, Bool.or_eq_true, bl_and, Bool.and_eq_true]
        constructor
        · rintro (⟨q1, q2⟩ | q)
          · refine Or.inr ⟨fun e => ?_, q1⟩
            have b64 : b < 64 := by omega
            rw [bl_not _ b64, bl_one _ (by omega), e] at q2
            simp at q2
          · exact Or.inl q
        · rintro (q | ⟨q1, q2⟩)
          · exact Or.inr q
          · refine Or.inl ⟨q2, ?_⟩
            have b64 : b < 64 := by
              rcases Nat.lt_or_ge b 64 with p | p
              · exact p
              · rw [bl_big p] at q2; cases q2
            rw [bl_not _ b64, bl_one _ (by omega), decide_eq_false q1]; rfl
      obtain ⟨w1, w2, w3, w4⟩ := ym_w hX hg (by omega) (Nat.le_refl j) s1 (V := (R &&& ((1 : Int64) <<< ((nI k).toInt64 &&& 63) ^^^ (-1))) ||| M (j * 25 + j)) (fun b hb => by
        rcases (eV b).mp hb with q | ⟨q1, q2⟩
        · exact s1 j j b (Nat.le_refl _) (Nat.le_refl _) q
        · rcases snd b ((eR b).mp q2) with q | q
          · exact absurd q q1
          · exact q) (fun b hb => (eV b).mpr (Or.inl hb))
      have tr := ym_tr s2 w2
      have le := ym_mono s2
      refine nm_e (br_c (fun q => ⟨ijj, ?_⟩) (fun q => nm_r (nI_1 k) (hk (1, vp_updL M (j * 25 + j) ((R &&& ((1 : Int64) <<< ((nI k).toInt64 &&& 63) ^^^ (-1))) ||| M (j * 25 + j))) ⟨w1, tr, Or.inr ⟨rfl, ?_⟩⟩)))
      · dsimp only
        rw [pk_uLs]
        refine br_c (fun q2 => nm_r (nI_1 k) ?_) (fun q2 => nm_r (nI_1 k) (hk (1, vp_updL M (j * 25 + j) ((R &&& ((1 : Int64) <<< ((nI k).toInt64 &&& 63) ^^^ (-1))) ||| M (j * 25 + j))) ⟨w1, tr, Or.inr ⟨rfl, ?_⟩⟩))
        · rw [w3 q2]
          have q : cc = 0 := q
          have := keep fun _ e _ r hr hn => ?_
          · rw [q] at this; exact this
          · rw [← e]
            by_cases e5 : 5 * r = k
            · rw [e5]
              have k0 : k % 5 = 0 := by omega
              rw [k0] at eK
              have : i = j := (er_sound hX (tg_ok hg) eK).1
              rw [← this]
              rw [← this] at z
              exact z
            · have := (eV (5 * r)).mpr (Or.inr ⟨e5, (eR _).mpr (cl_self g _ k r (cl_sub ((eB k).mpr (Or.inr rfl))) hr hn)⟩)
              rw [q2] at this
              exact this
        · have := w4 q2
          show ym_c b_met j < ym_c (vp_updL M (j * 25 + j) ((R &&& ((1 : Int64) <<< ((nI k).toInt64 &&& 63) ^^^ (-1))) ||| M (j * 25 + j))) j
          omega
      · have a : ym_c b_met j < ym_c M j := by
          rcases s3 with ⟨a1, _⟩ | ⟨_, a⟩
          · exact absurd a1 q
          · exact a
        have := ym_mono w2
        show ym_c b_met j < ym_c (vp_updL M (j * 25 + j) ((R &&& ((1 : Int64) <<< ((nI k).toInt64 &&& 63) ^^^ (-1))) ||| M (j * 25 + j))) j
        omega
    · have := hn.1
      omega
end
end
section
/-! the reference meets the whole of a row, and the rows one after another -/
variable {h_made h_depth h_length h_tokenCount h_wrong h_letterCount h_ruleCount h_makingCount h_usefulRules h_stateCount h_wideCount h_useCount h_result : Int32} {b_ops b_firsts b_seconds b_sizes b_stack b_roots b_text b_ends b_tokenKinds b_tokenSizes b_letters b_begins b_closes b_empties b_nexts b_sets b_leads b_classes b_newClasses b_lefts b_rights b_counts b_making b_firstSets b_followSets b_tasks b_held b_uses b_reach : Nat → Int32} {b_states b_looks b_wides b_work b_met : Nat → Int64}
section
variable {g : rg_T}
/-- nothing more comes from i to row j -/
def ym_F (g : rg_T) (w : Nat → Nat) (M : Nat → Int64) (i j : Nat) : Prop := ym_P g M i j ∧ ∀ m s, i ≤ m → m ≤ j → 3 ≤ s → s < 7 → ym_Q g w M i j m s
theorem yw_meetAt (hg : rg_ok g) (hG : xg_G g b_lefts b_rights b_counts) {u : Int32} (hU : yg_U g u) {w : Nat → Nat} {c j : Nat} (hc : c ≤ 24) (hw : ∀ i, i < c → b_tokenKinds i = nI (w i) ∧ w i < 3) (hj : j ≤ c) (hS : ym_S g (w, c) b_met j) {post : SY → Prop}
    (h : ∀ M, ym_S g (w, c) M j → ym_L b_met M j → (∀ i, i ≤ j → ym_F g w M i j) → post (h_made, h_depth, h_length, h_tokenCount, h_wrong, h_letterCount, h_ruleCount, h_makingCount, u, h_stateCount, h_wideCount, h_useCount, h_result, b_ops, b_firsts, b_seconds, b_sizes, b_stack, b_roots, b_text, b_ends, b_tokenKinds, b_tokenSizes, b_letters, b_begins, b_closes, b_empties, b_nexts, b_sets, b_leads, b_classes, b_newClasses, b_lefts, b_rights, b_counts, b_making, b_firstSets, b_followSets, b_states, b_looks, b_wides, b_work, M, b_tasks, b_held, b_uses, b_reach)) : wpY_meetAt post (h_made, h_depth, h_length, h_tokenCount, h_wrong, h_letterCount, h_ruleCount, h_makingCount, u, h_stateCount, h_wideCount, h_useCount, h_result, b_ops, b_firsts, b_seconds, b_sizes, b_stack, b_roots, b_text, b_ends, b_tokenKinds, b_tokenSizes, b_letters, b_begins, b_closes, b_empties, b_nexts, b_sets, b_leads, b_classes, b_newClasses, b_lefts, b_rights, b_counts, b_making, b_firstSets, b_followSets, b_states, b_looks, b_wides, b_work, b_met, b_tasks, b_held, b_uses, b_reach) (nI j) := by
  refine loop_m (fun f (σ : Int32 × (Nat → Int64)) => wY_meetAt_2 post (nI j) f σ.1 h_made h_depth h_length h_tokenCount h_wrong h_letterCount h_ruleCount h_makingCount u h_stateCount h_wideCount h_useCount h_result b_ops b_firsts b_seconds b_sizes b_stack b_roots b_text b_ends b_tokenKinds b_tokenSizes b_letters b_begins b_closes b_empties b_nexts b_sets b_leads b_classes b_newClasses b_lefts b_rights b_counts b_making b_firstSets b_followSets b_states b_looks b_wides b_work σ.2 b_tasks b_held b_uses b_reach) (fun σ => ym_S g (w, c) σ.2 j ∧ ym_L b_met σ.2 j ∧ ((σ.1 = 0 ∧ ∀ i, i ≤ j → ym_F g w σ.2 i j) ∨ σ.1 = 1)) (fun σ => 2 * (1175 - ym_c σ.2 j) + (if σ.1 = 0 then 0 else 1)) ?_ (1, b_met) ⟨hS, ⟨fun _ _ => rfl, fun _ _ _ z => z⟩, Or.inr rfl⟩
  rintro f ⟨cc, M⟩ ⟨s1, s2, s3⟩ hk
  have s1 : ym_S g (w, c) M j := s1
  have s2 : ym_L b_met M j := s2
  rcases s3 with ⟨q, s3⟩ | q
  · have q : cc = 0 := q
    subst q
    exact br_t rfl (h M s1 s2 s3)
  · have q : cc = 1 := q
    subst q
    refine br_f (show ¬ (1 : Int32) = 0 by decide) ?_
    have lo : ∀ t (a : Int32) (N : Nat → Int64), t ≤ j + 1 → ym_S g (w, c) N j → ym_L M N j → ((a = 0 ∧ N = M ∧ ∀ i, t ≤ i → i ≤ j → ym_F g w M i j) ∨ (a = 1 ∧ ym_c M j < ym_c N j)) → wY_meetAt_10 post (wY_meetAt_2 post (nI j) f) (nI j) (t + 1) a (nI t + (-1)) h_made h_depth h_length h_tokenCount h_wrong h_letterCount h_ruleCount h_makingCount u h_stateCount h_wideCount h_useCount h_result b_ops b_firsts b_seconds b_sizes b_stack b_roots b_text b_ends b_tokenKinds b_tokenSizes b_letters b_begins b_closes b_empties b_nexts b_sets b_leads b_classes b_newClasses b_lefts b_rights b_counts b_making b_firstSets b_followSets b_states b_looks b_wides b_work N b_tasks b_held b_uses b_reach := by
      intro t
      induction t with
      | zero =>
        intro a N _ n1 n2 n3
        refine br_t (by decide) (hk (a, N) ⟨n1, ym_tr s2 n2, ?_⟩ ?_)
        · rcases n3 with ⟨e1, e2, e3⟩ | ⟨e1, _⟩
          · have e2 : N = M := e2
            subst e2
            exact Or.inl ⟨e1, fun i hi => e3 i (Nat.zero_le _) hi⟩
          · exact Or.inr e1
        · rcases n3 with ⟨e1, e2, e3⟩ | ⟨e1, e2⟩
          · have e2 : N = M := e2
            subst e1 e2
            show 2 * (1175 - ym_c N j) + 0 < 2 * (1175 - ym_c N j) + 1
            omega
          · subst e1
            have : ym_c N j ≤ 1175 := cn_le _ _
            show 2 * (1175 - ym_c N j) + 1 < 2 * (1175 - ym_c M j) + 1
            omega
      | succ t ih =>
        intro a N ht n1 n2 n3
        rw [pk_m1]
        refine br_f (nI_nlt (a := t) (b := 0) (Nat.zero_le _) (by omega)) ?_
        refine yw_meetMore (b_met := N) hg hG hU hc hw (by omega) hj n1 (fun p1 p2 => br_t rfl ?_) (fun N' m1 m2 m3 => br_f (by decide) (nm_e (ih 1 N' (by omega) m1 (ym_tr n2 m2) (Or.inr ⟨rfl, ?_⟩))))
        · rcases n3 with ⟨e1, e2, e3⟩ | ⟨e1, e2⟩
          · have e2 : N = M := e2
            subst e1 e2
            refine br_t rfl (nm_e (ih 0 N (by omega) n1 n2 (Or.inl ⟨rfl, rfl, fun i hi hj' => ?_⟩)))
            by_cases e : i = t
            · subst e; exact ⟨p1, p2⟩
            · exact e3 i (by omega) hj'
          · subst e1
            exact br_f (by decide) (nm_e (ih 1 N (by omega) n1 n2 (Or.inr ⟨rfl, e2⟩)))
        · have := ym_mono n2
          omega
    have hf := lo (j + 1) 0 M (Nat.le_refl _) s1 ⟨fun _ _ => rfl, fun _ _ _ z => z⟩ (Or.inl ⟨rfl, rfl, fun i p q => by omega⟩)
    rw [pk_m1] at hf
    exact ⟨_, hf⟩
/-- a row that gets no more holds all -/
theorem ym_full (hg : rg_ok g) {w : Nat → Nat} {c j : Nat} (hX : tx_ok (w, c)) {M0 M : Nat → Int64} (hlt : ∀ j' i k, j' < j → i ≤ j' → (bl (M0 (j' * 25 + i)) k = true ↔ er_E (tg_G g) (w, c) i j' (k / 5) (k % 5))) (h45 : j = 0 → bl (M0 0) 45 = true)
    (hsc : ∀ j0, j = j0 + 1 → j0 < c → ∀ i k, i ≤ j0 → bl (M0 (j0 * 25 + i)) k = true → im_nx g k (w j0) → bl (M0 (j * 25 + i)) (k + 1) = true) (hj : j ≤ 24) (hL : ym_L M0 M j) (hS : ym_S g (w, c) M j) (hF : ∀ i, i ≤ j → ym_F g w M i j) : ∀ j' i k, j' ≤ j → i ≤ j' → (bl (M (j' * 25 + i)) k = true ↔ er_E (tg_G g) (w, c) i j' (k / 5) (k % 5)) := by
  have hO := tg_ok hg
  have low : ∀ j' i k, j' < j → i ≤ j' → (bl (M (j' * 25 + i)) k = true ↔ er_E (tg_G g) (w, c) i j' (k / 5) (k % 5)) := by
    intro j' i k h1 h2
    rw [hL.1 (j' * 25 + i) (by omega)]
    exact hlt j' i k h1 h2
  have dm : ∀ {i j' r p}, er_E (tg_G g) (w, c) i j' r p → (5 * r + p) / 5 = r ∧ (5 * r + p) % 5 = p ∧ i ≤ j' ∧ j' ≤ c := by
    intro i j' r p h
    obtain ⟨_, a1, a2, a3, a4, _⟩ := er_sound hX hO h
    have := (hO.2.1 r a1).1
    exact ⟨by omega, by omega, a3, a4⟩
  have all : ∀ {i j' r p}, er_E (tg_G g) (w, c) i j' r p → (j' = j → bl (M (j * 25 + i)) (5 * r + p) = true) := by
    intro i j' r p h
    refine er_ind (fun i j' r p => j' = j → bl (M (j * 25 + i)) (5 * r + p) = true) ?_ ?_ ?_ ?_ h
    · intro e
      have := hL.2 0 45 (Nat.zero_le _) (by rw [← e]; exact h45 e.symm)
      exact this
    · intro i j' r p r' a b d e f z
      have b := b z
      subst z
      obtain ⟨d1, d2, d3, _⟩ := dm a
      exact (hF i d3).1 _ r' b e ⟨by rw [d1, d2]; exact d, by rw [d1, d2]; exact f.symm⟩
    · intro i j0 r p a b d e f z
      obtain ⟨d1, d2, d3, _⟩ := dm a
      subst z
      have := (hlt j0 i (5 * r + p) (by omega) d3).mpr (by rw [d1, d2]; exact a)
      exact hL.2 i _ (by omega) (hsc j0 rfl e i (5 * r + p) d3 this ⟨by rw [d1, d2]; exact d, by rw [d1, d2]; exact f⟩)
    · intro i m j' r p r' a b d e f l n z
      have f := f z
      subst z
      obtain ⟨d1, d2, d3, _⟩ := dm a
      obtain ⟨_, _, d4, _⟩ := dm e
      have l7 := hO.1 r' l
      refine (hF i (by omega)).2 m (gr_l (tg_G g) r') d3 d4 l7.2.1 l7.2.2 (Or.inr ⟨l7.2.1, r', l, rfl, f⟩) (5 * r + p) ?_ ⟨by rw [d1, d2]; exact d, by rw [d1, d2]; exact n.symm⟩
      by_cases q : m = j'
      · rw [q]; exact b q
      · exact (low m i _ (by omega) d3).mpr (by rw [d1, d2]; exact a)
  intro j' i k h1 h2
  by_cases e : j' = j
  · subst e
    refine ⟨hS i j' k h1 h2, fun z => ?_⟩
    have := all z rfl
    rw [show 5 * (k / 5) + k % 5 = k by omega] at this
    exact this
  · exact low j' i k (by omega) h2
theorem ym_45 (k : Nat) : bl 35184372088832 k = true ↔ k = 45 := by
  rcases Nat.lt_or_ge k 64 with z | z
  · have : ∀ k, k < 64 → (bl 35184372088832 k = true ↔ k = 45) := by decide +kernel
    exact this k z
  · rw [bl_big z]
    exact ⟨(fun q => by cases q), fun q => by omega⟩
theorem yw_meet (hg : rg_ok g) (hG : xg_G g b_lefts b_rights b_counts) {u : Int32} (hU : yg_U g u) {w : Nat → Nat} {c : Nat} (hc : c ≤ 24) (hw : ∀ i, i < c → b_tokenKinds i = nI (w i) ∧ w i < 3) {post : Int32 → SY → Prop}
    (h : ∀ n M, n ≤ c → (∀ m, m < n → er_S (tg_G g) (w, c) m) → (n < c → ¬ er_S (tg_G g) (w, c) n) → (∀ j i k, j ≤ n → i ≤ j → (bl (M (j * 25 + i)) k = true ↔ er_E (tg_G g) (w, c) i j (k / 5) (k % 5))) → post (nI n) (h_made, h_depth, h_length, (nI c), h_wrong, h_letterCount, h_ruleCount, h_makingCount, u, h_stateCount, h_wideCount, h_useCount, h_result, b_ops, b_firsts, b_seconds, b_sizes, b_stack, b_roots, b_text, b_ends, b_tokenKinds, b_tokenSizes, b_letters, b_begins, b_closes, b_empties, b_nexts, b_sets, b_leads, b_classes, b_newClasses, b_lefts, b_rights, b_counts, b_making, b_firstSets, b_followSets, b_states, b_looks, b_wides, b_work, M, b_tasks, b_held, b_uses, b_reach)) : wpY_meet post (h_made, h_depth, h_length, (nI c), h_wrong, h_letterCount, h_ruleCount, h_makingCount, u, h_stateCount, h_wideCount, h_useCount, h_result, b_ops, b_firsts, b_seconds, b_sizes, b_stack, b_roots, b_text, b_ends, b_tokenKinds, b_tokenSizes, b_letters, b_begins, b_closes, b_empties, b_nexts, b_sets, b_leads, b_classes, b_newClasses, b_lefts, b_rights, b_counts, b_making, b_firstSets, b_followSets, b_states, b_looks, b_wides, b_work, b_met, b_tasks, b_held, b_uses, b_reach) := by
  have hX : tx_ok (w, c) := fun i hi => (hw i hi).2
  have hO := tg_ok hg
  have S := er_self (tg_G g) (w, c)
  refine loop_0 (fun f n N => wY_meet_2 post h_made h_depth h_length (nI c) h_wrong h_letterCount h_ruleCount h_makingCount u h_stateCount h_wideCount h_useCount h_result f (nI n) b_ops b_firsts b_seconds b_sizes b_stack b_roots b_text b_ends b_tokenKinds b_tokenSizes b_letters b_begins b_closes b_empties b_nexts b_sets b_leads b_classes b_newClasses b_lefts b_rights b_counts b_making b_firstSets b_followSets b_states b_looks b_wides b_work N b_tasks b_held b_uses b_reach) (fun n N => ∀ x, x < n → N x = 0) 625 b_met (fun x q => absurd q (Nat.not_lt_zero _)) ?_ ?_
  · intro f N hN
    refine br_t (nI_le (Nat.le_refl 625) (by decide)) (nm_e ?_)
    refine loop_0 (fun f j M => wY_meet_33 post f (nI j) h_made h_depth h_length (nI c) h_wrong h_letterCount h_ruleCount h_makingCount u h_stateCount h_wideCount h_useCount h_result b_ops b_firsts b_seconds b_sizes b_stack b_roots b_text b_ends b_tokenKinds b_tokenSizes b_letters b_begins b_closes b_empties b_nexts b_sets b_leads b_classes b_newClasses b_lefts b_rights b_counts b_making b_firstSets b_followSets b_states b_looks b_wides b_work M b_tasks b_held b_uses b_reach) (fun j M => (∀ j' i k, j' < j → i ≤ j' → (bl (M (j' * 25 + i)) k = true ↔ er_E (tg_G g) (w, c) i j' (k / 5) (k % 5))) ∧ (∀ m, m + 1 < j → er_S (tg_G g) (w, c) m) ∧ (∀ x k, j * 25 ≤ x → x < 625 → bl (M x) k = true → x = 0 ∧ k = 45) ∧ (j = 0 → bl (M 0) 45 = true)) (c + 1) (vp_updL N 0 35184372088832) ⟨fun j' i k q => absurd q (Nat.not_lt_zero _), fun m q => by omega, fun x k _ hx q => ?_, fun _ => ?_⟩ ?_ ?_
    · by_cases e : x = 0
      · subst e
        rw [pk_uLs] at q
        exact ⟨rfl, (ym_45 k).mp q⟩
      · rw [pk_uLn e, hN x hx, bl_0] at q
        cases q
    · rw [pk_uLs]; exact (ym_45 45).mpr rfl
    · rintro f M ⟨a1, a2, a3, a4⟩
      exact br_t (nI_lt (by omega) (by omega)) (h c M (Nat.le_refl _) (fun m hm => a2 m (by omega)) (fun q => absurd q (Nat.lt_irrefl _)) (fun j i k hj hi => a1 j i k (by omega) hi))
    · rintro f j M hj ⟨a1, a2, a3, a4⟩ hk
      refine br_f (nI_nlt (by omega) (by omega)) (br_c (fun q0 => ?_) (fun q0 => ?_))
      · have q0 : j = 0 := by
          have : nI j = nI 0 := q0
          exact (nI_eq (by omega) (by omega)).mp this
        subst q0
        refine ⟨1, br_t (nI_le (a := 0) (b := 0) (Nat.le_refl 0) (by decide)) (br_f (by decide) ?_)⟩
        refine yw_meetAt (b_met := M) hg hG hU hc hw (Nat.zero_le _) ?_ (fun M' m1 m2 m3 => nm_r (nI_1 0) (hk M' ⟨fun j' i k h1 h2 => ?_, fun m q => by omega, fun x k h1 h2 q => ?_, fun q => by omega⟩))
        · intro i' j' k h1 h2 q
          have e1 : j' = 0 := by omega
          have e2 : i' = 0 := by omega
          subst e1 e2
          have := (a3 0 k (Nat.zero_le _) (by decide) q).2
          subst this
          exact S.1
        · exact ym_full hg hX a1 a4 (fun j0 e => by omega) (by omega) m2 m1 m3 j' i k (by omega) h2
        · rw [m2.1 x (by omega)] at q
          exact a3 x k (by omega) h2 q
      · have j1 : 1 ≤ j := by
          rcases Nat.eq_zero_or_pos j with e | e
          · exact absurd (by rw [e]; rfl) q0
          · exact e
        have ej : nI j - 1 = nI (j - 1) := pk_sub (b := 1) j1
        obtain ⟨w1, w2⟩ := hw (j - 1) (by omega)
        refine loop_0 (fun f' i σ => wY_meet_54 post (wY_meet_33 post f) (nI j) h_made h_depth h_length (nI c) h_wrong h_letterCount h_ruleCount h_makingCount u h_stateCount h_wideCount h_useCount h_result f' σ.1 (nI i) b_ops b_firsts b_seconds b_sizes b_stack b_roots b_text b_ends b_tokenKinds b_tokenSizes b_letters b_begins b_closes b_empties b_nexts b_sets b_leads b_classes b_newClasses b_lefts b_rights b_counts b_making b_firstSets b_followSets b_states b_looks b_wides b_work σ.2 b_tasks b_held b_uses b_reach) (fun i (σ : Int64 × (Nat → Int64)) => (∀ x, x < j * 25 ∨ j * 25 + i ≤ x → σ.2 x = M x) ∧ (∀ i', i' < i → ∀ k, bl (σ.2 (j * 25 + i')) k = true ↔ tb_mv g (M ((j - 1) * 25 + i')) (w (j - 1)) k) ∧ ∀ k, bl σ.1 k = true ↔ ∃ i', i' < i ∧ bl (σ.2 (j * 25 + i')) k = true) j ((0 : Int64), M) ⟨fun _ _ => rfl, fun i' q => absurd q (Nat.not_lt_zero _), fun k => ?_⟩ ?_ ?_
        · show bl 0 k = true ↔ _
          rw [bl_0]
          exact ⟨(fun z => by cases z), fun ⟨i', z, _⟩ => absurd z (Nat.not_lt_zero _)⟩
        · rintro f' ⟨A, P⟩ ⟨p1, p2, p3⟩
          have p1 : ∀ x, x < j * 25 ∨ j * 25 + j ≤ x → P x = M x := p1
          have p2 : ∀ i', i' < j → ∀ k, bl (P (j * 25 + i')) k = true ↔ tb_mv g (M ((j - 1) * 25 + i')) (w (j - 1)) k := p2
          have p3 : ∀ k, bl A k = true ↔ ∃ i', i' < j ∧ bl (P (j * 25 + i')) k = true := p3
          have toS : ∀ i' k, i' < j → bl (P (j * 25 + i')) k = true → er_E (tg_G g) (w, c) i' j (k / 5) (k % 5) ∧ er_S (tg_G g) (w, c) (j - 1) := by
            intro i' k hi hb
            obtain ⟨q, rfl, q2, q3⟩ := (p2 i' hi k).mp hb
            have e0 := (a1 (j - 1) i' q (by omega) (by omega)).mp q2
            obtain ⟨_, e1, e2⟩ := im_s hg (er_im hX hg e0) q3
            rw [e1, e2]
            refine ⟨?_, by show j - 1 < c; omega, i', _, _, e0, q3⟩
            have := S.2.2.1 i' (j - 1) _ _ e0 q3.1 (by show j - 1 < c; omega) q3.2
            rw [show j - 1 + 1 = j by omega] at this
            exact this
          refine br_t (nI_le (Nat.le_refl j) (by omega)) (br_c (fun z => ?_) (fun z => ?_))
          · have z : A = 0 := z
            rw [ej]
            have := h (j - 1) P (by omega) (fun m hm => a2 m (by omega)) (fun _ => ?_) (fun j' i k h1 h2 => ?_)
            · exact this
            · rintro ⟨_, i, r, p, e1, e2, e3⟩
              obtain ⟨_, s1, s2, s3, _⟩ := er_sound hX hO e1
              have c4 := (hO.2.1 r s1).1
              have := (a1 (j - 1) i (5 * r + p) (by omega) s3).mpr (by rw [show (5 * r + p) / 5 = r by omega, show (5 * r + p) % 5 = p by omega]; exact e1)
              have := (p2 i (by omega) (5 * r + p + 1)).mpr ⟨5 * r + p, rfl, this, by rw [show (5 * r + p) / 5 = r by omega, show (5 * r + p) % 5 = p by omega]; exact e2, by rw [show (5 * r + p) / 5 = r by omega, show (5 * r + p) % 5 = p by omega]; exact e3⟩
              have := (p3 _).mpr ⟨i, by omega, this⟩
              rw [z, bl_0] at this
              cases this
            · rw [p1 _ (by omega)]
              exact a1 j' i k (by omega) h2
          · have z : ¬ A = 0 := z
            have ex : ∃ k, bl A k = true := by
              refine Classical.byContradiction fun q => z (bl_ext fun k _ => ?_)
              rw [bl_0]
              cases c1 : bl A k
              · rfl
              · exact absurd ⟨k, c1⟩ q
            obtain ⟨k0, ex⟩ := ex
            obtain ⟨i0, h0, ex⟩ := (p3 k0).mp ex
            have eS := (toS i0 k0 h0 ex).2
            have lowP : ∀ j' i k, j' < j → i ≤ j' → (bl (P (j' * 25 + i)) k = true ↔ er_E (tg_G g) (w, c) i j' (k / 5) (k % 5)) := by
              intro j' i k h1 h2
              rw [p1 _ (by omega)]
              exact a1 j' i k h1 h2
            refine yw_meetAt (b_met := P) hg hG hU hc hw (by omega) ?_ (fun M' m1 m2 m3 => nm_r (nI_1 j) (hk M' ⟨fun j' i k h1 h2 => ?_, fun m q => ?_, fun x k h1 h2 q => ?_, fun q => by omega⟩))
            · intro i' j' k h1 h2 q
              by_cases e : j' = j
              · subst e
                by_cases e2 : i' = j'
                · subst e2
                  rw [p1 _ (by omega)] at q
                  have := (a3 _ k (by omega) (by omega) q).1
                  omega
                · exact (toS i' k (by omega) q).1
              · exact (lowP j' i' k (by omega) h2).mp q
            · refine ym_full hg hX lowP (fun e => by omega) (fun j0 e hj0 i k hi hb hn => ?_) (by omega) m2 m1 m3 j' i k (by omega) h2
              have e0 : j0 = j - 1 := by omega
              subst e0
              exact (p2 i (by omega) (k + 1)).mpr ⟨k, rfl, by rw [← p1 _ (by omega)]; exact hb, hn⟩
            · by_cases e : m = j - 1
              · rw [e]; exact eS
              · exact a2 m (by omega)
            · rw [m2.1 x (by omega), p1 x (by omega)] at q
              exact a3 x k (by omega) h2 q
        · rintro f' i ⟨A, P⟩ hi ⟨p1, p2, p3⟩ hk2
          have p1 : ∀ x, x < j * 25 ∨ j * 25 + i ≤ x → P x = M x := p1
          have p2 : ∀ i', i' < i → ∀ k, bl (P (j * 25 + i')) k = true ↔ tb_mv g (M ((j - 1) * 25 + i')) (w (j - 1)) k := p2
          have p3 : ∀ k, bl A k = true ↔ ∃ i', i' < i ∧ bl (P (j * 25 + i')) k = true := p3
          have iji : vp_in (25 * nI j + nI i) 625 := pk_in (j * 25 + i) 625 (by omega) (ix_25 j i)
          have cji : (25 * nI j + nI i).toNatClampNeg = j * 25 + i := pk_cl (j * 25 + i) (ix_25 j i)
          refine br_f (nI_ge hi (by omega)) ?_
          rw [ej]
          refine ⟨pk_in ((j - 1) * 25 + i) 625 (by omega) (ix_25 (j - 1) i), vp_in_nI (by omega) (by decide), ?_⟩
          rw [pk_cl ((j - 1) * 25 + i) (ix_25 (j - 1) i), nI_clamp (by omega : j - 1 < 2 ^ 31), w1]
          have eP : P ((j - 1) * 25 + i) = M ((j - 1) * 25 + i) := p1 _ (by omega)
          refine yw_moved (b_met := P) hg hG (fun k hk => er_im hX hg ((a1 (j - 1) i k (by omega) (by omega)).mp (by rw [← eP]; exact hk))) (by omega) (fun T hT => ⟨iji, nm_e ⟨iji, nm_e (nm_r (nI_1 i) ?_)⟩⟩)
          rw [cji]
          refine hk2 (A ||| vp_updL P (j * 25 + i) T (j * 25 + i), vp_updL P (j * 25 + i) T) ⟨fun x hx => ?_, fun i' hi' k => ?_, fun k => ?_⟩
          · show vp_updL P (j * 25 + i) T x = M x
            rw [pk_uLn (by omega)]
            exact p1 x (by omega)
          · show bl (vp_updL P (j * 25 + i) T (j * 25 + i')) k = true ↔ _
            by_cases e : i' = i
            · subst e
              rw [pk_uLs, hT k]
              show tb_mv g (P ((j - 1) * 25 + i')) (w (j - 1)) k ↔ _
              rw [eP]
            · rw [pk_uLn (by omega)]
              exact p2 i' (by omega) k
          · show bl (A ||| vp_updL P (j * 25 + i) T (j * 25 + i)) k = true ↔ ∃ i', i' < i + 1 ∧ bl (vp_updL P (j * 25 + i) T (j * 25 + i')) k = true
            rw [bl_or, Bool.or_eq_true, p3 k, pk_uLs]
            constructor
            · rintro (⟨i', q1, q2⟩ | q)
              · exact ⟨i', by omega, by rw [pk_uLn (by omega)]; exact q2⟩
              · exact ⟨i, by omega, by rw [pk_uLs]; exact q⟩
            · rintro ⟨i', q1, q2⟩
              by_cases e : i' = i
              · subst e
                rw [pk_uLs] at q2
                exact Or.inr q2
              · rw [pk_uLn (by omega)] at q2
                exact Or.inl ⟨i', by omega, q2⟩
  · intro f n N hn hN hk
    refine br_f (nI_ge hn (by decide)) ⟨vp_in_nI hn (by decide), nm_e (nm_r (nI_1 n) (hk _ fun x hx => ?_))⟩
    rw [nI_clamp (by omega)]
    by_cases e : x = n
    · subst e; exact pk_uLs
    · rw [pk_uLn e]; exact hN x (by omega)
end
end
section
/-! the reference's places between the parts of a rule -/
variable {h_made h_depth h_length h_tokenCount h_wrong h_letterCount h_ruleCount h_makingCount h_usefulRules h_stateCount h_wideCount h_useCount h_result : Int32} {b_ops b_firsts b_seconds b_sizes b_stack b_roots b_text b_ends b_tokenKinds b_tokenSizes b_letters b_begins b_closes b_empties b_nexts b_sets b_leads b_classes b_newClasses b_lefts b_rights b_counts b_making b_firstSets b_followSets b_tasks b_held b_uses b_reach : Nat → Int32} {b_states b_looks b_wides b_work b_met : Nat → Int64}
section
variable {g : rg_T}
def yb_Q (g : rg_T) (w : Nat → Nat) (M : Nat → Int64) (s p q : Nat) : Prop := p ≤ q ∧ ym_d g w M s p q
def yb_P (g : rg_T) (w : Nat → Nat) (M : Nat → Int64) (r i j k q : Nat) : Prop := q ≤ j ∧ dv_prd (rg_h g r) (yb_Q g w M) k i q
def yb_R (g : rg_T) (w : Nat → Nat) (M : Nat → Int64) (r i j : Nat) (R : Nat → Int32) (n : Nat) : Prop := ∀ k, k ≤ n → ∀ q, q < 32 → (bt (R k) q = true ↔ yb_P g w M r i j k q)
theorem yw_parts (hg : rg_ok g) (hG : xg_G g b_lefts b_rights b_counts) {u : Int32} (hU : yg_U g u) {w : Nat → Nat} {c r i j : Nat} (hc : c ≤ 24) (hw : ∀ i, i < c → b_tokenKinds i = nI (w i) ∧ w i < 3) (hr : us_U g r) (hij : i ≤ j) (hj : j ≤ c) {post : Int32 → SY → Prop}
    (h1 : ∀ R, yb_R g w b_met r i j R (rg_c g r) → dv_prd (rg_h g r) (yb_Q g w b_met) (rg_c g r) i j → post 1 (h_made, h_depth, h_length, h_tokenCount, h_wrong, h_letterCount, h_ruleCount, h_makingCount, u, h_stateCount, h_wideCount, h_useCount, h_result, b_ops, b_firsts, b_seconds, b_sizes, b_stack, b_roots, b_text, b_ends, b_tokenKinds, b_tokenSizes, b_letters, b_begins, b_closes, b_empties, b_nexts, b_sets, b_leads, b_classes, b_newClasses, b_lefts, b_rights, b_counts, b_making, b_firstSets, b_followSets, b_states, b_looks, b_wides, b_work, b_met, b_tasks, b_held, b_uses, R)) (h0 : ∀ R, ¬ dv_prd (rg_h g r) (yb_Q g w b_met) (rg_c g r) i j → post 0 (h_made, h_depth, h_length, h_tokenCount, h_wrong, h_letterCount, h_ruleCount, h_makingCount, u, h_stateCount, h_wideCount, h_useCount, h_result, b_ops, b_firsts, b_seconds, b_sizes, b_stack, b_roots, b_text, b_ends, b_tokenKinds, b_tokenSizes, b_letters, b_begins, b_closes, b_empties, b_nexts, b_sets, b_leads, b_classes, b_newClasses, b_lefts, b_rights, b_counts, b_making, b_firstSets, b_followSets, b_states, b_looks, b_wides, b_work, b_met, b_tasks, b_held, b_uses, R)) : wpY_parts post (h_made, h_depth, h_length, h_tokenCount, h_wrong, h_letterCount, h_ruleCount, h_makingCount, u, h_stateCount, h_wideCount, h_useCount, h_result, b_ops, b_firsts, b_seconds, b_sizes, b_stack, b_roots, b_text, b_ends, b_tokenKinds, b_tokenSizes, b_letters, b_begins, b_closes, b_empties, b_nexts, b_sets, b_leads, b_classes, b_newClasses, b_lefts, b_rights, b_counts, b_making, b_firstSets, b_followSets, b_states, b_looks, b_wides, b_work, b_met, b_tasks, b_held, b_uses, b_reach) (nI r) (nI i) (nI j) := by
  have h9 := hg.1
  obtain ⟨_, _, c4, h7⟩ := hg.2.1 r hr.1
  have r9 := hr.1
  obtain ⟨g1, g2, g3⟩ := hG r (Or.inl hr.1)
  have ir : vp_in (nI r) 10 := vp_in_nI (by omega) (by decide)
  have cr : (nI r).toNatClampNeg = r := nI_clamp (by omega)
  refine nm_e ?_
  refine loop_0 (fun f k R => wY_parts_12 post (nI r) (nI j) h_made h_depth h_length h_tokenCount h_wrong h_letterCount h_ruleCount h_makingCount u h_stateCount h_wideCount h_useCount h_result f (nI k) b_ops b_firsts b_seconds b_sizes b_stack b_roots b_text b_ends b_tokenKinds b_tokenSizes b_letters b_begins b_closes b_empties b_nexts b_sets b_leads b_classes b_newClasses b_lefts b_rights b_counts b_making b_firstSets b_followSets b_states b_looks b_wides b_work b_met b_tasks b_held b_uses R) (fun k R => yb_R g w b_met r i j R k) (rg_c g r) (upd b_reach 0 ((1 : Int32) <<< (nI i &&& 31))) ?_ ?_ ?_
  · intro k hk q hq
    have e : k = 0 := by omega
    subst e
    rw [pk_us, b_one i (by omega), decide_eq_true_eq]
    exact ⟨fun z => ⟨by omega, z.symm⟩, fun z => z.2.symm⟩
  · intro f R hR
    refine ⟨ir, ?_⟩
    rw [cr, g2]
    refine br_t (nI_le (Nat.le_refl _) (by omega)) ⟨ir, vp_in_nI (by omega) (by decide), ?_⟩
    rw [nI_clamp (by omega : rg_c g r < 2 ^ 31)]
    have t := hR (rg_c g r) (Nat.le_refl _) j (by omega)
    refine br_c (fun z => h1 R hR ?_) (fun z => h0 R fun y => z ?_)
    · exact (t.mp ((b_test _ (by omega)).mp z)).2
    · exact (b_test _ (by omega)).mpr (t.mpr ⟨Nat.le_refl _, y⟩)
  · intro f k R hk hR hk1
    have ik : vp_in (nI (k + 1)) 5 := vp_in_nI (by omega) (by decide)
    have ck : (nI (k + 1)).toNatClampNeg = k + 1 := nI_clamp (by omega)
    have hk7 := h7 k hk
    refine ⟨ir, ?_⟩
    rw [cr, g2]
    refine br_f (nI_ge hk (by omega)) ?_
    rw [nI_1, ck]
    refine ⟨ik, nm_e ?_⟩
    refine loop_0 (fun f' x P => wY_parts_36 post (wY_parts_12 post (nI r) (nI j) h_made h_depth h_length h_tokenCount h_wrong h_letterCount h_ruleCount h_makingCount u h_stateCount h_wideCount h_useCount h_result f) (nI r) (nI j) (nI k) h_made h_depth h_length h_tokenCount h_wrong h_letterCount h_ruleCount h_makingCount u h_stateCount h_wideCount h_useCount h_result f' (nI x) b_ops b_firsts b_seconds b_sizes b_stack b_roots b_text b_ends b_tokenKinds b_tokenSizes b_letters b_begins b_closes b_empties b_nexts b_sets b_leads b_classes b_newClasses b_lefts b_rights b_counts b_making b_firstSets b_followSets b_states b_looks b_wides b_work b_met b_tasks b_held b_uses P) (fun x P => yb_R g w b_met r i j P k ∧ ∀ q, q < 32 → (bt (P (k + 1)) q = true ↔ ∃ y, y < x ∧ y % 25 = q ∧ yb_P g w b_met r i j k (y / 25) ∧ y % 25 ≤ j ∧ yb_Q g w b_met (rg_h g r k) (y / 25) (y % 25))) 625 (upd R (k + 1) 0) ⟨fun k' hk' q hq => ?_, fun q hq => ?_⟩ ?_ ?_
    · rw [pk_un (by omega)]; exact hR k' hk' q hq
    · rw [pk_us, b_zero.mp rfl q hq]
      exact ⟨(fun z => by cases z), fun ⟨y, z, _⟩ => absurd z (Nat.not_lt_zero _)⟩
    · rintro f' P ⟨p1, p2⟩
      refine br_t (nI_le (Nat.le_refl 625) (by decide)) (nm_r (nI_1 k) (hk1 P fun k' hk' q hq => ?_))
      by_cases e : k' = k + 1
      · subst e
        rw [p2 q hq]
        constructor
        · rintro ⟨y, _, rfl, z1, z2, z3⟩
          exact ⟨z2, y / 25, z1.2, z3⟩
        · rintro ⟨z1, m, z2, z3⟩
          have := z3.1
          exact ⟨m * 25 + q, by omega, by omega, by rw [show (m * 25 + q) / 25 = m by omega]; exact ⟨by omega, z2⟩, by omega, by rw [show (m * 25 + q) / 25 = m by omega, show (m * 25 + q) % 25 = q by omega]; exact z3⟩
      · exact p1 k' (by omega) q hq
    · rintro f' x P hx ⟨p1, p2⟩ hk2
      have e1 : nI x / 25 = nI (x / 25) := pk_div (d := 25) (by omega) (by decide) (by decide)
      have e2 : nI x - nI x / 25 * 25 = nI (x % 25) := pk_rem (d := 25) (by omega) (by decide) (by decide)
      have sk : ¬ (yb_P g w b_met r i j k (x / 25) ∧ x % 25 ≤ j ∧ yb_Q g w b_met (rg_h g r k) (x / 25) (x % 25)) → wY_parts_117 post (wY_parts_12 post (nI r) (nI j) h_made h_depth h_length h_tokenCount h_wrong h_letterCount h_ruleCount h_makingCount u h_stateCount h_wideCount h_useCount h_result f) (wY_parts_36 post (wY_parts_12 post (nI r) (nI j) h_made h_depth h_length h_tokenCount h_wrong h_letterCount h_ruleCount h_makingCount u h_stateCount h_wideCount h_useCount h_result f) (nI r) (nI j) (nI k) h_made h_depth h_length h_tokenCount h_wrong h_letterCount h_ruleCount h_makingCount u h_stateCount h_wideCount h_useCount h_result f') (nI r) (nI j) (nI k) (nI x) h_made h_depth h_length h_tokenCount h_wrong h_letterCount h_ruleCount h_makingCount u h_stateCount h_wideCount h_useCount h_result b_ops b_firsts b_seconds b_sizes b_stack b_roots b_text b_ends b_tokenKinds b_tokenSizes b_letters b_begins b_closes b_empties b_nexts b_sets b_leads b_classes b_newClasses b_lefts b_rights b_counts b_making b_firstSets b_followSets b_states b_looks b_wides b_work b_met b_tasks b_held b_uses P := by
        intro nz
        refine br_t rfl ?_
        rw [nI_1 k, ck]
        refine ⟨ik, ik, nm_e (nm_r (nI_1 x) (hk2 _ ⟨fun k' hk' q hq => ?_, fun q hq => ?_⟩))⟩
        · rw [pk_un (by omega)]; exact p1 k' hk' q hq
        · rw [pk_us, p2 q hq]
          constructor
          · rintro ⟨y, z, zz⟩
            exact ⟨y, by omega, zz⟩
          · rintro ⟨y, z, z2, z3⟩
            by_cases e : y = x
            · subst e; exact absurd z3 nz
            · exact ⟨y, by omega, z2, z3⟩
      refine br_f (nI_ge hx (by decide)) ⟨vp_in_nI (by omega) (by decide), by decide, ?_⟩
      rw [e2, e1, nI_clamp (by omega : k < 2 ^ 31)]
      refine br_c (fun z => ⟨by decide, pk_lt j (x % 25) (fun z2 => sk fun y => by omega) (fun z2 => ⟨by decide, by decide, pk_lt (x % 25) (x / 25) (fun z3 => sk fun y => ?_) (fun z3 => ⟨pk_in (r * 4 + k) 40 (by omega) (ix_l4 r k), by decide, by decide, ?_⟩)⟩)⟩) (fun z => sk fun y => z ((b_test _ (by omega)).mpr ((p1 k (Nat.le_refl _) _ (by omega)).mpr y.1)))
      · have := y.2.2.1; omega
      · have z := (p1 k (Nat.le_refl _) _ (by omega)).mp ((b_test (P k) (n := x / 25) (by omega)).mp z)
        rw [pk_cl (r * 4 + k) (ix_l4 r k), g3 k hk]
        refine yw_derives (b_reach := P) hg hG hU hc hw hk7 z3 (by omega) (fun y => br_f (by decide) ?_) (fun y => br_t rfl (sk fun q => y q.2.2.2))
        refine br_f (by decide) ?_
        rw [nI_1 k, e2, ck]
        refine ⟨ik, by decide, ik, nm_e (nm_r (nI_1 x) (hk2 _ ⟨fun k' hk' q hq => ?_, fun q hq => ?_⟩))⟩
        · rw [pk_un (by omega)]; exact p1 k' hk' q hq
        · rw [pk_us, b_or, Bool.or_eq_true, b_one _ (by omega), decide_eq_true_eq, p2 q hq]
          constructor
          · rintro (⟨y, z, zz⟩ | rfl)
            · exact ⟨y, by omega, zz⟩
            · exact ⟨x, by omega, rfl, z, z2, z3, y⟩
          · rintro ⟨y', q1, q2, q3⟩
            by_cases e : y' = x
            · rw [e] at q2; exact Or.inr q2.symm
            · exact Or.inl ⟨y', by omega, q2, q3⟩
end
end
section
/-! the reference takes a span apart -/
variable {h_made h_depth h_length h_tokenCount h_wrong h_letterCount h_ruleCount h_makingCount h_usefulRules h_stateCount h_wideCount h_useCount h_result : Int32} {b_ops b_firsts b_seconds b_sizes b_stack b_roots b_text b_ends b_tokenKinds b_tokenSizes b_letters b_begins b_closes b_empties b_nexts b_sets b_leads b_classes b_newClasses b_lefts b_rights b_counts b_making b_firstSets b_followSets b_tasks b_held b_uses b_reach : Nat → Int32} {b_states b_looks b_wides b_work b_met : Nat → Int64}
section
variable {g : rg_T}
theorem mx_ex {A : Nat → Prop} : ∀ q, (∃ m, m ≤ q ∧ A m) → ∃ m, m ≤ q ∧ A m ∧ ∀ p, m < p → p ≤ q → ¬ A p := by
  intro q
  induction q with
  | zero =>
    rintro ⟨m, h1, h2⟩
    exact ⟨m, h1, h2, fun p a b => by omega⟩
  | succ q ih =>
    rintro ⟨m, h1, h2⟩
    by_cases z : A (q + 1)
    · exact ⟨q + 1, Nat.le_refl _, z, fun p a b => by omega⟩
    · have : m ≠ q + 1 := fun e => z (by rw [← e]; exact h2)
      obtain ⟨m', a, b, d⟩ := ih ⟨m, by omega, h2⟩
      refine ⟨m', by omega, b, fun p p1 p2 => ?_⟩
      by_cases e : p = q + 1
      · rw [e]; exact z
      · exact d p p1 (by omega)
theorem mn_ex {A : Nat → Prop} : ∀ n, A n → ∃ m, m ≤ n ∧ A m ∧ ∀ p, p < m → ¬ A p := by
  intro n
  induction n using Nat.strongRecOn with
  | ind n ih =>
    intro h
    by_cases z : ∃ p, p < n ∧ A p
    · obtain ⟨p, p1, p2⟩ := z
      obtain ⟨m, a, b, d⟩ := ih p p1 p2
      exact ⟨m, by omega, b, d⟩
    · exact ⟨n, Nat.le_refl _, h, fun p p1 p2 => z ⟨p, p1, p2⟩⟩
/-- what was met is what there is -/
def ym_M (g : rg_T) (w : Nat → Nat) (c : Nat) (M : Nat → Int64) : Prop := ∀ j i k, j ≤ c → i ≤ j → (bl (M (j * 25 + i)) k = true ↔ er_E (tg_G g) (w, c) i j (k / 5) (k % 5))
theorem ym_dE (hg : rg_ok g) {w : Nat → Nat} {c : Nat} {M : Nat → Int64} (hM : ym_M g w c M) {s p q : Nat} (hp : p ≤ q) (hq : q ≤ c) : ym_d g w M s p q ↔ er_dv (tg_G g) (w, c) s p q := by
  constructor
  · rintro (⟨z1, z2, z3⟩ | ⟨z1, r, z2, z3, z4⟩)
    · exact Or.inl ⟨z1, by show p < c; omega, z3, z2⟩
    · have c4 := (hg.2.1 r z2.1).2.2.1
      have := (hM q p _ hq hp).mp z4
      rw [show (5 * r + rg_c g r) / 5 = r by omega, show (5 * r + rg_c g r) % 5 = rg_c g r by omega] at this
      exact Or.inr ⟨z1, r, z2, z3, this⟩
  · rintro (⟨z1, _, z2, z3⟩ | ⟨z1, r, z2, z3, z4⟩)
    · exact Or.inl ⟨z1, z3, z2⟩
    · have z2 : us_U g r := z2
      have c4 := (hg.2.1 r z2.1).2.2.1
      refine Or.inr ⟨z1, r, z2, z3, (hM q p _ hq hp).mpr ?_⟩
      rw [show (5 * r + rg_c g r) / 5 = r by omega, show (5 * r + rg_c g r) % 5 = rg_c g r by omega]
      exact z4
theorem yb_ch (hg : rg_ok g) {w : Nat → Nat} {c : Nat} (hX : tx_ok (w, c)) {M : Nat → Int64} (hM : ym_M g w c M) {r : Nat} : ∀ p i j, er_E (tg_G g) (w, c) i j r p → dv_prd (rg_h g r) (yb_Q g w M) p i j := by
  intro p
  induction p with
  | zero => intro i j h; exact (er_sound hX (tg_ok hg) h).1
  | succ p ih =>
    intro i j h
    obtain ⟨m, a, _, b⟩ := er_inv hX (tg_ok hg) h p rfl
    have l := dv_D_rng (er_dv_D hX (tg_ok hg) b)
    have hj := (er_sound hX (tg_ok hg) h).2.2.2.2.1
    exact ⟨m, ih i m a, l.1, (ym_dE hg hM l.1 hj).mpr b⟩
theorem yb_rng {w : Nat → Nat} {M : Nat → Int64} {h : Nat → Nat} : ∀ k i j, dv_prd h (yb_Q g w M) k i j → i ≤ j := by
  intro k
  induction k with
  | zero => intro i j z; exact Nat.le_of_eq z
  | succ k ih => intro i j z; obtain ⟨m, a, b⟩ := z; exact Nat.le_trans (ih _ _ a) b.1
/-- the places that are taken between the parts -/
theorem yb_pl {w : Nat → Nat} {M : Nat → Int64} {r i j : Nat} : ∀ n q, dv_prd (rg_h g r) (yb_Q g w M) n i q → q ≤ j → ∃ e : Nat → Nat, e n = q ∧ e 0 = i ∧ ∀ k, k < n → e k ≤ e (k + 1) ∧ e (k + 1) ≤ j ∧ yb_P g w M r i j k (e k) ∧ yb_Q g w M (rg_h g r k) (e k) (e (k + 1)) ∧ ∀ p, e k < p → p ≤ e (k + 1) → ¬ (yb_P g w M r i j k p ∧ yb_Q g w M (rg_h g r k) p (e (k + 1))) := by
  intro n
  induction n with
  | zero => intro q z hq; exact ⟨fun _ => i, z, rfl, fun k hk => absurd hk (Nat.not_lt_zero _)⟩
  | succ n ih =>
    intro q z hq
    obtain ⟨m, a, b⟩ := z
    obtain ⟨m', h1, h2, h3⟩ := mx_ex (A := fun p => yb_P g w M r i j n p ∧ yb_Q g w M (rg_h g r n) p q) q ⟨m, b.1, ⟨Nat.le_trans b.1 hq, a⟩, b⟩
    obtain ⟨e, e1, e2, e3⟩ := ih m' h2.1.2 h2.1.1
    refine ⟨fun k => if k ≤ n then e k else q, if_neg (by omega), ?_, fun k hk => ?_⟩
    · show (if 0 ≤ n then e 0 else q) = i
      rw [if_pos (by omega)]; exact e2
    · show (if k ≤ n then e k else q) ≤ (if k + 1 ≤ n then e (k + 1) else q) ∧ (if k + 1 ≤ n then e (k + 1) else q) ≤ j ∧ yb_P g w M r i j k (if k ≤ n then e k else q) ∧ yb_Q g w M (rg_h g r k) (if k ≤ n then e k else q) (if k + 1 ≤ n then e (k + 1) else q) ∧ ∀ p, (if k ≤ n then e k else q) < p → p ≤ (if k + 1 ≤ n then e (k + 1) else q) → ¬ (yb_P g w M r i j k p ∧ yb_Q g w M (rg_h g r k) p (if k + 1 ≤ n then e (k + 1) else q))
      rw [if_pos (by omega : k ≤ n)]
      by_cases z : k + 1 ≤ n
      · rw [if_pos z]; exact e3 k (by omega)
      · have : k = n := by omega
        subst this
        rw [if_neg z, e1]
        exact ⟨h1, hq, h2.1, h2.2, h3⟩
/-- rule r can stand for the span -/
def yb_A (g : rg_T) (w : Nat → Nat) (M : Nat → Int64) (x i j r : Nat) : Prop := us_U g r ∧ rg_l g r = x ∧ bl (M (j * 25 + i)) (5 * r + rg_c g r) = true ∧ dv_prd (rg_h g r) (yb_Q g w M) (rg_c g r) i j
def yb_E (g : rg_T) (w : Nat → Nat) (M : Nat → Int64) (x i j r : Nat) (e : Nat → Nat) : Prop := yb_A g w M x i j r ∧ (∀ p, p < r → ¬ yb_A g w M x i j p) ∧ e (rg_c g r) = j ∧ e 0 = i ∧ ∀ k, k < rg_c g r → e k ≤ e (k + 1) ∧ e (k + 1) ≤ j ∧ yb_P g w M r i j k (e k) ∧ yb_Q g w M (rg_h g r k) (e k) (e (k + 1)) ∧ ∀ p, e k < p → p ≤ e (k + 1) → ¬ (yb_P g w M r i j k p ∧ yb_Q g w M (rg_h g r k) p (e (k + 1)))
theorem yb_ex (hg : rg_ok g) {w : Nat → Nat} {c : Nat} (hX : tx_ok (w, c)) {M : Nat → Int64} (hM : ym_M g w c M) {x i j : Nat} (hx : 3 ≤ x) (hij : i ≤ j) (hj : j ≤ c) (h : er_dv (tg_G g) (w, c) x i j) : ∃ r e, yb_E g w M x i j r e := by
  rcases h with ⟨z, _⟩ | ⟨_, r, z1, z2, z3⟩
  · omega
  · have z1 : us_U g r := z1
    have c4 := (hg.2.1 r z1.1).2.2.1
    have a : yb_A g w M x i j r := ⟨z1, z2, (hM j i _ hj hij).mpr (by rw [show (5 * r + rg_c g r) / 5 = r by omega, show (5 * r + rg_c g r) % 5 = rg_c g r by omega]; exact z3), yb_ch hg hX hM _ _ _ z3⟩
    obtain ⟨r', _, b1, b2⟩ := mn_ex r a
    obtain ⟨e, e1, e2, e3⟩ := yb_pl (j := j) _ _ b1.2.2.2 (Nat.le_refl _)
    exact ⟨r', e, b1, b2, e1, e2, e3⟩
def yb_c (a x i j : Nat) : Int32 := nI (((a * 16 + x) * 32 + i) * 32 + j)
theorem yb_cd (a x i j : Nat) : ((nI a * 16 + nI x) * 32 + nI i) * 32 + nI j = yb_c a x i j := by
  rw [show nI a * 16 + nI x = nI (a * 16 + x) from ix_m a 16 x, show nI (a * 16 + x) * 32 + nI i = nI ((a * 16 + x) * 32 + i) from ix_m _ 32 i]
  exact ix_m _ 32 j
/-- what expand puts on the stack -/
def yb_T (g : rg_T) (r i j : Nat) (e : Nat → Nat) (t : Nat) (T0 T : Nat → Int32) (k : Nat) : Prop := (∀ y, y < t → T y = T0 y) ∧ T t = yb_c 1 r i j ∧ ∀ q, k ≤ q → q < rg_c g r → T (t + rg_c g r - q) = yb_c 0 (rg_h g r q) (e q) (e (q + 1))
theorem yw_expand (hg : rg_ok g) (hG : xg_G g b_lefts b_rights b_counts) {u : Int32} (hU : yg_U g u) {w : Nat → Nat} {c x i j r t : Nat} {e : Nat → Nat} (hc : c ≤ 24) (hw : ∀ i, i < c → b_tokenKinds i = nI (w i) ∧ w i < 3) (hx : x < 7) (hij : i ≤ j) (hj : j ≤ c) (hE : yb_E g w b_met x i j r e) (ht : t + 5 ≤ 3000) {post : Int32 → SY → Prop}
    (h : ∀ R T, yb_T g r i j e t b_tasks T 0 → post (nI (t + 1 + rg_c g r)) (h_made, h_depth, h_length, h_tokenCount, h_wrong, h_letterCount, h_ruleCount, h_makingCount, u, h_stateCount, h_wideCount, h_useCount, h_result, b_ops, b_firsts, b_seconds, b_sizes, b_stack, b_roots, b_text, b_ends, b_tokenKinds, b_tokenSizes, b_letters, b_begins, b_closes, b_empties, b_nexts, b_sets, b_leads, b_classes, b_newClasses, b_lefts, b_rights, b_counts, b_making, b_firstSets, b_followSets, b_states, b_looks, b_wides, b_work, b_met, T, b_held, b_uses, R)) : wpY_expand post (h_made, h_depth, h_length, h_tokenCount, h_wrong, h_letterCount, h_ruleCount, h_makingCount, u, h_stateCount, h_wideCount, h_useCount, h_result, b_ops, b_firsts, b_seconds, b_sizes, b_stack, b_roots, b_text, b_ends, b_tokenKinds, b_tokenSizes, b_letters, b_begins, b_closes, b_empties, b_nexts, b_sets, b_leads, b_classes, b_newClasses, b_lefts, b_rights, b_counts, b_making, b_firstSets, b_followSets, b_states, b_looks, b_wides, b_work, b_met, b_tasks, b_held, b_uses, b_reach) (nI x) (nI i) (nI j) (nI t) := by
  have h9 := hg.1
  obtain ⟨⟨hr, hl, hb, hp⟩, hno, ec, e0, hE⟩ := hE
  obtain ⟨_, _, c4, h7⟩ := hg.2.1 r hr.1
  have r9 := hr.1
  refine loop_0 (fun f r' R => wY_expand_3 post (nI x) (nI i) (nI j) (nI t) f (nI r') h_made h_depth h_length h_tokenCount h_wrong h_letterCount h_ruleCount h_makingCount u h_stateCount h_wideCount h_useCount h_result b_ops b_firsts b_seconds b_sizes b_stack b_roots b_text b_ends b_tokenKinds b_tokenSizes b_letters b_begins b_closes b_empties b_nexts b_sets b_leads b_classes b_newClasses b_lefts b_rights b_counts b_making b_firstSets b_followSets b_states b_looks b_wides b_work b_met b_tasks b_held b_uses R) (fun _ _ => True) r b_reach trivial ?_ ?_
  · intro f R _
    obtain ⟨g1, g2, g3⟩ := hG r (Or.inl hr.1)
    have ir : vp_in (nI r) 10 := vp_in_nI (by omega) (by decide)
    have cr : (nI r).toNatClampNeg = r := nI_clamp (by omega)
    refine br_t ((b_test u (by omega)).mpr ((hU r).mpr hr)) (br_f (by decide) ⟨ir, ?_⟩)
    rw [cr, g1, hl]
    refine br_t rfl ⟨pk_in (j * 25 + i) 625 (by omega) (ix_25 j i), ir, ?_⟩
    rw [pk_cl (j * 25 + i) (ix_25 j i), g2, show (5 : Int32) * nI r + nI (rg_c g r) = nI (5 * r + rg_c g r) by rw [ix_l5, Nat.mul_comm]]
    refine br_f (fun z => ?_) ?_
    · rw [(bl_test0 _ (by omega))] at z
      have hb : bl (b_met (j * 25 + i)) (5 * r + rg_c g r) = true := hb
      rw [z] at hb; cases hb
    · refine yw_parts (b_reach := R) hg hG hU hc hw hr hij hj (fun P hP _ => br_f (by decide) ?_) (fun P z => absurd hp z)
      have e1 : (((1 : Int32) * 16 + nI r) * 32 + nI i) * 32 + nI j = yb_c 1 r i j := yb_cd 1 r i j
      refine ⟨vp_in_nI (by omega) (by decide), nm_r (e' := upd b_tasks t (yb_c 1 r i j)) (by rw [nI_clamp (by omega), e1]) (nm_r (nI_1 t) ⟨ir, nm_r (e' := nI (rg_c g r) + (-1)) (by rw [g2, Int32.sub_eq_add_neg]) ?_⟩)⟩
      have lo : ∀ k T, k ≤ rg_c g r → yb_T g r i j e t b_tasks T k → wY_expand_108 post (nI r) h_made h_depth h_length h_tokenCount h_wrong h_letterCount h_ruleCount h_makingCount u h_stateCount h_wideCount h_useCount h_result (k + 1) (nI (t + 1 + (rg_c g r - k))) (nI (e k)) (nI k + (-1)) b_ops b_firsts b_seconds b_sizes b_stack b_roots b_text b_ends b_tokenKinds b_tokenSizes b_letters b_begins b_closes b_empties b_nexts b_sets b_leads b_classes b_newClasses b_lefts b_rights b_counts b_making b_firstSets b_followSets b_states b_looks b_wides b_work b_met T b_held b_uses P := by
        intro k
        induction k with
        | zero =>
          intro T _ hT
          exact br_t (by decide) (h P T hT)
        | succ k ih =>
          intro T hk hT
          rw [pk_m1]
          refine br_f (nI_nlt (a := k) (b := 0) (Nat.zero_le _) (by omega)) ?_
          obtain ⟨d1, d2, d3, d4, d5⟩ := hE k (by omega)
          have hk7 := h7 k (by omega)
          have ik : vp_in (nI k) 5 := vp_in_nI (by omega) (by decide)
          have ck : (nI k).toNatClampNeg = k := nI_clamp (by omega)
          have i4 : vp_in (4 * nI r + nI k) 40 := pk_in (r * 4 + k) 40 (by omega) (ix_l4 r k)
          have c4' : (4 * nI r + nI k).toNatClampNeg = r * 4 + k := pk_cl (r * 4 + k) (ix_l4 r k)
          have dn : ∀ n, e k + n ≤ e (k + 1) → wY_expand_117 post (wY_expand_108 post (nI r) h_made h_depth h_length h_tokenCount h_wrong h_letterCount h_ruleCount h_makingCount u h_stateCount h_wideCount h_useCount h_result (k + 1)) (nI r) (nI (t + 1 + (rg_c g r - (k + 1)))) (nI (e (k + 1))) (nI k) h_made h_depth h_length h_tokenCount h_wrong h_letterCount h_ruleCount h_makingCount u h_stateCount h_wideCount h_useCount h_result b_ops b_firsts b_seconds b_sizes b_stack b_roots b_text b_ends b_tokenKinds b_tokenSizes b_letters b_begins b_closes b_empties b_nexts b_sets b_leads b_classes b_newClasses b_lefts b_rights b_counts b_making b_firstSets b_followSets b_states b_looks b_wides b_work b_met T b_held b_uses P (n + 1) (nI (e k + n)) := by
            intro n
            induction n with
            | zero =>
              intro _
              refine ⟨ik, ?_⟩
              rw [ck, Nat.add_zero]
              have tb := (hP k (by omega) (e k) (by omega)).mpr d3
              refine br_f (fun z => ?_) ⟨i4, ?_⟩
              · rw [b_test0 _ (by omega)] at z
                have tb : bt (P k) (e k) = true := tb
                rw [z] at tb; cases tb
              · rw [c4', g3 k (by omega)]
                refine yw_derives (b_reach := P) hg hG hU hc hw hk7 d1 (by omega) (fun _ => br_f (by decide) ⟨i4, ?_⟩) (fun y => absurd d4.2 y)
                have e1 : (((0 : Int32) * 16 + nI (rg_h g r k)) * 32 + nI (e k)) * 32 + nI (e (k + 1)) = yb_c 0 (rg_h g r k) (e k) (e (k + 1)) := yb_cd 0 _ _ _
                refine ⟨vp_in_nI (by omega) (by decide), nm_r (e' := upd T (t + rg_c g r - k) (yb_c 0 (rg_h g r k) (e k) (e (k + 1)))) ?_ (nm_r (e' := nI (t + 1 + (rg_c g r - k))) ?_ (nm_e (ih _ (by omega) ⟨fun y hy => ?_, ?_, fun q q1 q2 => ?_⟩)))⟩
                · rw [nI_clamp (by omega), e1, show t + 1 + (rg_c g r - (k + 1)) = t + rg_c g r - k by omega]
                · rw [nI_1]; exact congrArg nI (by omega)
                · rw [pk_un (by omega)]; exact hT.1 y hy
                · rw [pk_un (by omega)]; exact hT.2.1
                · by_cases z : q = k
                  · subst z; exact pk_us
                  · rw [pk_un (by omega)]; exact hT.2.2 q (by omega) q2
            | succ n ihn =>
              intro hn
              have nx := ihn (by omega)
              have em : nI (e k + (n + 1)) + (-1) = nI (e k + n) := pk_m1 (e k + n)
              refine ⟨ik, ?_⟩
              rw [ck]
              refine br_c (fun z => nm_r em nx) (fun z => ⟨i4, ?_⟩)
              rw [c4', g3 k (by omega)]
              refine yw_derives (b_reach := P) hg hG hU hc hw hk7 hn (by omega) (fun y => ?_) (fun y => br_t rfl (nm_r em nx))
              refine absurd ⟨(hP k (by omega) (e k + (n + 1)) (by omega)).mp ?_, hn, y⟩ (d5 (e k + (n + 1)) (by omega) hn)
              rw [b_test0 _ (by omega)] at z
              revert z
              cases bt (P k) (e k + (n + 1)) <;> intro z
              · exact absurd rfl z
              · rfl
          refine ⟨e (k + 1) - e k + 1, ?_⟩
          have := dn (e (k + 1) - e k) (by omega)
          rw [show e k + (e (k + 1) - e k) = e (k + 1) by omega] at this
          exact this
      have := lo (rg_c g r) (upd b_tasks t (yb_c 1 r i j)) (Nat.le_refl _) ⟨fun y hy => pk_un (by omega), pk_us, fun q q1 q2 => by omega⟩
      rw [ec, Nat.sub_self, Nat.add_zero] at this
      exact ⟨_, this⟩
  · intro f r' R hr' _ hk
    have na := hno r' hr'
    have go := hk
    refine br_c (fun q => br_f (by decide) ?_) (fun q => br_t rfl (nm_r (nI_1 r') (hk R trivial)))
    have q := (hU r').mp ((b_test u (n := r') (by omega)).mp q)
    obtain ⟨g1, g2, g3⟩ := hG r' (Or.inl q.1)
    have l := hg.2.1 r' q.1
    have ir : vp_in (nI r') 10 := vp_in_nI (by omega) (by decide)
    have cr : (nI r').toNatClampNeg = r' := nI_clamp (by omega)
    refine ⟨ir, ?_⟩
    rw [cr, g1]
    refine pk_eq (rg_l g r') x (fun z => ⟨pk_in (j * 25 + i) 625 (by omega) (ix_25 j i), ir, ?_⟩) (fun z => nm_r (nI_1 r') (hk R trivial))
    rw [pk_cl (j * 25 + i) (ix_25 j i), g2, show (5 : Int32) * nI r' + nI (rg_c g r') = nI (5 * r' + rg_c g r') by rw [ix_l5, Nat.mul_comm]]
    refine br_c (fun y => nm_r (nI_1 r') (hk R trivial)) (fun y => ?_)
    refine yw_parts (b_reach := R) hg hG hU hc hw q hij hj (fun P _ d => ?_) (fun P _ => br_t rfl (nm_r (nI_1 r') (hk P trivial)))
    refine absurd ⟨q, z, ?_, d⟩ na
    rw [bl_test0 _ (by omega)] at y
    show bl (b_met (j * 25 + i)) (5 * r' + rg_c g r') = true
    revert y
    cases bl (b_met (j * 25 + i)) (5 * r' + rg_c g r') <;> intro y
    · exact absurd rfl y
    · rfl
end
end
section
/-! the reference builds what a text is made of -/
variable {h_made h_depth h_length h_tokenCount h_wrong h_letterCount h_ruleCount h_makingCount h_usefulRules h_stateCount h_wideCount h_useCount h_result : Int32} {b_ops b_firsts b_seconds b_sizes b_stack b_roots b_text b_ends b_tokenKinds b_tokenSizes b_letters b_begins b_closes b_empties b_nexts b_sets b_leads b_classes b_newClasses b_lefts b_rights b_counts b_making b_firstSets b_followSets b_tasks b_held b_uses b_reach : Nat → Int32} {b_states b_looks b_wides b_work b_met : Nat → Int64}
section
variable {g : rg_T}
def yb_us (L : List Nat) (Us : Nat → Int32) : Prop := ∀ q x, L[q]? = some x → q < 200 → Us q = nI x
theorem yb_u1 {L : List Nat} {Us : Nat → Int32} {r : Nat} (h : yb_us L Us) : (200 ≤ L.length → yb_us (L ++ [r]) Us) ∧ yb_us (L ++ [r]) (upd Us L.length (nI r)) := by
  constructor
  · intro z q x hx hq
    rw [List.getElem?_append_left (by omega)] at hx
    exact h q x hx hq
  · intro q x hx hq
    by_cases e : q < L.length
    · rw [List.getElem?_append_left e] at hx
      rw [pk_un (by omega)]
      exact h q x hx hq
    · rw [List.getElem?_append_right (by omega)] at hx
      by_cases e2 : q = L.length
      · subst e2
        rw [Nat.sub_self] at hx
        have hx : some r = some x := hx
        cases hx
        exact pk_us
      · rw [show q - L.length = (q - L.length - 1) + 1 by omega] at hx
        have hx : ([] : List Nat)[q - L.length - 1]? = some x := hx
        rw [List.getElem?_nil] at hx
        cases hx
theorem yw_finish {r p c : Nat} {fs : Nat → vt_T} (hr : r < 10) (hcr : b_counts r = nI c) (hc4 : c ≤ 4) (hH : ∀ k, k < c → b_held (p + k) = (fs k).2.1) (hp : p + 4 ≤ 3000) {L : List Nat} (hL : L.length < 2 ^ 30) (hu : yb_us L b_uses) {post : SY → Prop} (h : ∀ Us, yb_us (L ++ [r]) Us → post (h_made, h_depth, h_length, h_tokenCount, h_wrong, h_letterCount, h_ruleCount, h_makingCount, h_usefulRules, h_stateCount, h_wideCount, (nI (L ++ [r]).length), h_result, b_ops, b_firsts, b_seconds, b_sizes, b_stack, b_roots, b_text, b_ends, b_tokenKinds, b_tokenSizes, b_letters, b_begins, b_closes, b_empties, b_nexts, b_sets, b_leads, b_classes, b_newClasses, b_lefts, b_rights, b_counts, b_making, b_firstSets, b_followSets, b_states, b_looks, b_wides, b_work, b_met, b_tasks, (upd b_held p (vt_vl r (vt_li fs c))), Us, b_reach)) : wpY_finish post (h_made, h_depth, h_length, h_tokenCount, h_wrong, h_letterCount, h_ruleCount, h_makingCount, h_usefulRules, h_stateCount, h_wideCount, (nI L.length), h_result, b_ops, b_firsts, b_seconds, b_sizes, b_stack, b_roots, b_text, b_ends, b_tokenKinds, b_tokenSizes, b_letters, b_begins, b_closes, b_empties, b_nexts, b_sets, b_leads, b_classes, b_newClasses, b_lefts, b_rights, b_counts, b_making, b_firstSets, b_followSets, b_states, b_looks, b_wides, b_work, b_met, b_tasks, b_held, b_uses, b_reach) (nI r) (nI p) := by
  have ir : vp_in (nI r) 10 := vp_in_nI hr (by decide)
  have cr : (nI r).toNatClampNeg = r := nI_clamp (by omega)
  have el : (L ++ [r]).length = L.length + 1 := by rw [List.length_append]; rfl
  rw [el] at h
  refine nm_e ?_
  refine loop_0 (fun f k x => wY_finish_7 post (nI r) (nI p) h_made h_depth h_length h_tokenCount h_wrong h_letterCount h_ruleCount h_makingCount h_usefulRules h_stateCount h_wideCount (nI L.length) h_result b_ops b_firsts b_seconds b_sizes b_stack b_roots b_text b_ends b_tokenKinds b_tokenSizes b_letters b_begins b_closes b_empties b_nexts b_sets b_leads b_classes b_newClasses b_lefts b_rights b_counts b_making b_firstSets b_followSets b_states b_looks b_wides b_work b_met b_tasks b_held b_uses b_reach f x (nI k)) (fun k x => x = vt_vl r (vt_li fs k)) c (nI r + 1) rfl ?_ ?_
  · rintro f x rfl
    refine ⟨ir, ?_⟩
    rw [cr, hcr]
    refine br_t (nI_le (Nat.le_refl _) (by omega)) ⟨vp_in_nI (by omega) (by decide), nm_r (e' := upd b_held p (vt_vl r (vt_li fs c))) (by rw [nI_clamp (by omega)]) ?_⟩
    refine pk_le 200 L.length (fun z => nm_r (nI_1 _) (h _ ((yb_u1 hu).1 z))) (fun z => ⟨vp_in_nI z (by decide), nm_r (e' := upd b_uses L.length (nI r)) (by rw [nI_clamp (by omega)]) (nm_r (nI_1 _) (h _ (yb_u1 hu).2))⟩)
  · rintro f k x hk rfl hk1
    refine ⟨ir, ?_⟩
    rw [cr, hcr]
    refine br_f (nI_ge hk (by omega)) ?_
    rw [nI_add p k, nI_1 k, nI_clamp (by omega : p + k < 2 ^ 31), hH k hk]
    refine ⟨vp_in_nI (by omega) (by decide), nm_e (nm_e (hk1 _ ?_))⟩
    show _ = vt_vl r (vt_li fs k) + nI ((vt_li fs k).length + 1) * (fs k).2.1
    rw [vt_li_len]
theorem nI_nle0 (t : Nat) (h : t < 2 ^ 30) : ¬ nI (t + 1) ≤ 0 := nI_ge (a := 0) (b := t + 1) (Nat.succ_pos _) (by omega)
theorem yb_d1 {a x i j : Nat} (ha : a ≤ 1) (hx : x < 16) (hi : i < 32) (hj : j < 32) : yb_c a x i j - yb_c a x i j / 32 * 32 = nI j := by
  unfold yb_c
  rw [show nI (((a * 16 + x) * 32 + i) * 32 + j) - nI (((a * 16 + x) * 32 + i) * 32 + j) / 32 * 32 = nI ((((a * 16 + x) * 32 + i) * 32 + j) % 32) from pk_rem (d := 32) (by omega) (by decide) (by decide)]
  exact congrArg nI (by omega)
theorem yb_d2 {a x i j : Nat} (ha : a ≤ 1) (hx : x < 16) (hi : i < 32) (hj : j < 32) : yb_c a x i j / 32 - yb_c a x i j / 32 / 32 * 32 = nI i := by
  unfold yb_c
  rw [show nI (((a * 16 + x) * 32 + i) * 32 + j) / 32 = nI ((((a * 16 + x) * 32 + i) * 32 + j) / 32) from pk_div (d := 32) (by omega) (by decide) (by decide)]
  rw [show nI ((((a * 16 + x) * 32 + i) * 32 + j) / 32) - nI ((((a * 16 + x) * 32 + i) * 32 + j) / 32) / 32 * 32 = nI ((((a * 16 + x) * 32 + i) * 32 + j) / 32 % 32) from pk_rem (d := 32) (by omega) (by decide) (by decide)]
  exact congrArg nI (by omega)
theorem yb_d3 {a x i j : Nat} (ha : a ≤ 1) (hx : x < 16) (hi : i < 32) (hj : j < 32) : yb_c a x i j / 1024 - yb_c a x i j / 1024 / 16 * 16 = nI x := by
  unfold yb_c
  rw [show nI (((a * 16 + x) * 32 + i) * 32 + j) / 1024 = nI ((((a * 16 + x) * 32 + i) * 32 + j) / 1024) from pk_div (d := 1024) (by omega) (by decide) (by decide)]
  rw [show nI ((((a * 16 + x) * 32 + i) * 32 + j) / 1024) - nI ((((a * 16 + x) * 32 + i) * 32 + j) / 1024) / 16 * 16 = nI ((((a * 16 + x) * 32 + i) * 32 + j) / 1024 % 16) from pk_rem (d := 16) (by omega) (by decide) (by decide)]
  exact congrArg nI (by omega)
theorem yb_d4 {a x i j : Nat} (ha : a ≤ 1) (hx : x < 16) (hi : i < 32) (hj : j < 32) : yb_c a x i j / 16384 = nI a := by
  unfold yb_c
  rw [show nI (((a * 16 + x) * 32 + i) * 32 + j) / 16384 = nI ((((a * 16 + x) * 32 + i) * 32 + j) / 16384) from pk_div (d := 16384) (by omega) (by decide) (by decide)]
  exact congrArg nI (by omega)
theorem vt_len {G : gr_T} {X : tx_T} {len : Nat → Int32} : ∀ d s i j v, dv_tr G X (vt_A len) d s i j v → v.1.length ≤ vt_sz v := by
  intro d
  induction d with
  | zero => intro s i j v z; obtain ⟨_, _, _, _, rfl⟩ := z; exact Nat.zero_le _
  | succ d ih =>
    intro s i j v z
    rcases z with z | ⟨r, vs, _, _, z, rfl⟩
    · exact ih _ _ _ _ z
    · have key : ∀ k i j vs, dv_pre (gr_h G r) (dv_tr G X (vt_A len) d) k i j vs → (vt_us vs).length ≤ lr_sum vt_sz vs := by
        intro k
        induction k with
        | zero => intro i j vs z; obtain ⟨_, rfl⟩ := z; exact Nat.le_refl _
        | succ k ihk =>
          intro i j vs z
          obtain ⟨m, v, ws, z1, z2, rfl⟩ := z
          have a := ihk _ _ _ z1
          have b := ih _ _ _ _ z2
          show (vt_us ws ++ v.1).length ≤ lr_sum vt_sz ws + vt_sz v
          rw [List.length_append]
          omega
      have := key _ _ _ _ z
      show (vt_us vs ++ [r]).length ≤ lr_sum vt_sz vs + 1
      rw [List.length_append]
      exact Nat.succ_le_succ this
theorem vt_sumle {f : Nat → vt_T} : ∀ c m, m ≤ c → lr_sum vt_sz (vt_li f m) ≤ lr_sum vt_sz (vt_li f c) := by
  intro c
  induction c with
  | zero => intro m hm; have : m = 0 := by omega
            subst this; exact Nat.le_refl _
  | succ c ih =>
    intro m hm
    by_cases e : m = c + 1
    · subst e; exact Nat.le_refl _
    · have := ih m (by omega)
      show _ ≤ lr_sum vt_sz (vt_li f c) + vt_sz (f c)
      omega
theorem vt_sum1 {f : Nat → vt_T} {m c : Nat} (h : m < c) : lr_sum vt_sz (vt_li f m) + vt_sz (f m) ≤ lr_sum vt_sz (vt_li f c) := vt_sumle (f := f) c (m + 1) h
theorem vt_usle {f : Nat → vt_T} : ∀ c, (∀ k, k < c → (f k).1.length ≤ vt_sz (f k)) → (vt_us (vt_li f c)).length ≤ lr_sum vt_sz (vt_li f c) := by
  intro c
  induction c with
  | zero => intro _; exact Nat.le_refl _
  | succ c ih =>
    intro h
    have a := ih (fun k hk => h k (by omega))
    have b := h c (by omega)
    show (vt_us (vt_li f c) ++ (f c).1).length ≤ lr_sum vt_sz (vt_li f c) + vt_sz (f c)
    rw [List.length_append]
    omega
/-- the steps of the parts that are left -/
def yb_s (K : Nat → Nat) (c : Nat) : Nat → Nat
  | 0 => 0
  | n + 1 => yb_s K c n + K (c - (n + 1))
theorem yw_run (hg : rg_ok g) (hG : xg_G g b_lefts b_rights b_counts) {u : Int32} (hU : yg_U g u) {w : Nat → Nat} {c : Nat} (hc : c ≤ 24) (hw : ∀ i, i < c → b_tokenKinds i = nI (w i) ∧ w i < 3) (hM : ym_M g w c b_met) (h1 : cx_one (tg_G g) (w, c) b_tokenSizes) {post : Int32 → SY → Prop} :
    ∀ N D x i j d u0, dv_tr (tg_G g) (w, c) (vt_A b_tokenSizes) d x i j u0 → vt_sz u0 ≤ N → cx_C (tg_G g) (w, c) b_tokenSizes D x i j → er_dv (tg_G g) (w, c) x i j → x < 7 → i ≤ c → ∃ K d' v, dv_tr (tg_G g) (w, c) (vt_A b_tokenSizes) d' x i j v ∧
      ∀ n t p (T H R Us : Nat → Int32) (L : List Nat), t ≤ 5 * D → p ≤ 4 * D → L.length + vt_sz v ≤ 2 ^ 29 → T t = yb_c 0 x i j → yb_us L Us → (∀ T' H' R' Us', (∀ y, y < t → T' y = T y) → (∀ y, y < p → H' y = H y) → H' p = v.2.1 → yb_us (L ++ v.1) Us' → wY_build_35 post n (nI t) (nI (p + 1)) h_made h_depth h_length h_tokenCount h_wrong h_letterCount h_ruleCount h_makingCount u h_stateCount h_wideCount (nI (L ++ v.1).length) h_result b_ops b_firsts b_seconds b_sizes b_stack b_roots b_text b_ends b_tokenKinds b_tokenSizes b_letters b_begins b_closes b_empties b_nexts b_sets b_leads b_classes b_newClasses b_lefts b_rights b_counts b_making b_firstSets b_followSets b_states b_looks b_wides b_work b_met T' H' Us' R') → wY_build_35 post (n + K) (nI (t + 1)) (nI p) h_made h_depth h_length h_tokenCount h_wrong h_letterCount h_ruleCount h_makingCount u h_stateCount h_wideCount (nI L.length) h_result b_ops b_firsts b_seconds b_sizes b_stack b_roots b_text b_ends b_tokenKinds b_tokenSizes b_letters b_begins b_closes b_empties b_nexts b_sets b_leads b_classes b_newClasses b_lefts b_rights b_counts b_making b_firstSets b_followSets b_states b_looks b_wides b_work b_met T H Us R := by
  have hX : tx_ok (w, c) := fun i hi => (hw i hi).2
  have hO := tg_ok hg
  intro N
  induction N with
  | zero =>
    intro D x i j d u0 a b
    exfalso
    have : ∀ d x i j v, dv_tr (tg_G g) (w, c) (vt_A b_tokenSizes) d x i j v → 0 < vt_sz v := by
      intro d
      induction d with
      | zero => intro x i j v z; obtain ⟨_, _, _, _, rfl⟩ := z; exact Nat.one_pos
      | succ d ih =>
        intro x i j v z
        rcases z with z | ⟨r, vs, _, _, _, rfl⟩
        · exact ih _ _ _ _ z
        · exact Nat.succ_pos _
    have := this _ _ _ _ _ a
    omega
  | succ N ih =>
    intro D x i j d u0 a b hC hE hx hi
    have hD := er_dv_D hX hO hE
    have hij := (dv_D_rng hD).1
    have hj : j ≤ c := (dv_D_rng hD).2 hi
    have d100 := cx_100 h1 hO hc hC hD
    rcases Nat.lt_or_ge x 3 with x3 | x3
    · rcases hE with ⟨_, q1, q2, q3⟩ | ⟨q, _⟩
      · have q1 : i < c := q1
        refine ⟨1, 0, ([], b_tokenSizes i, 0, 1), ⟨x3, q1, q2, q3, rfl⟩, fun n t p T H R Us L ht hp hL hT hu hk => ?_⟩
        refine br_f (nI_nle0 t (by omega)) (nm_r (pk_m1 t) ?_)
        rw [nI_clamp (by omega : t < 2 ^ 31), hT, yb_d1 (by omega) (by omega) (by omega) (by omega), yb_d2 (by omega) (by omega) (by omega) (by omega), yb_d3 (by omega) (by omega) (by omega) (by omega), yb_d4 (by omega) (by omega) (by omega) (by omega)]
        have it : vp_in (nI t) 3000 := vp_in_nI (by omega) (by decide)
        refine ⟨it, by decide, nm_e ⟨it, by decide, by decide, nm_e ⟨it, by decide, by decide, nm_e ⟨it, by decide, br_f (by decide) (pk_le 3 x (fun z => by omega) (fun z => ⟨vp_in_nI (by omega) (by decide), vp_in_nI (by omega) (by decide), nm_r (e' := upd H p (b_tokenSizes i)) (by rw [nI_clamp (by omega), nI_clamp (by omega)]) (nm_r (nI_1 p) ?_)⟩))⟩⟩⟩⟩
        have := hk T (upd H p (b_tokenSizes i)) R Us (fun _ _ => rfl) (fun y hy => pk_un (by omega)) pk_us (by rw [List.append_nil]; exact hu)
        rw [List.append_nil] at this
        exact this
      · omega
    · obtain ⟨r, e, hr⟩ := yb_ex hg hX hM x3 hij hj hE
      have hr0 := hr
      obtain ⟨⟨hr1, hl, _, _⟩, _, ec, e0, hch⟩ := hr
      have c4 := (hg.2.1 r hr1.1).2.2.1
      have h7 := (hg.2.1 r hr1.1).2.2.2
      have r9 := hr1.1
      have h9 := hg.1
      have dv : ∀ k, k < rg_c g r → er_dv (tg_G g) (w, c) (rg_h g r k) (e k) (e (k + 1)) := fun k hk => by
        obtain ⟨a1, a2, _, a4, _⟩ := hch k hk
        exact (ym_dE hg hM a1 (by omega)).mp a4.2
      have dD : ∀ k, k < rg_c g r → dv_D (tg_G g) (w, c) (rg_h g r k) (e k) (e (k + 1)) := fun k hk => er_dv_D hX hO (dv k hk)
      have hC' : cx_C (tg_G g) (w, c) b_tokenSizes D (gr_l (tg_G g) r) (e 0) (e (gr_c (tg_G g) r)) := by
        show cx_C (tg_G g) (w, c) b_tokenSizes D (rg_l g r) (e 0) (e (rg_c g r))
        rw [hl, e0, ec]; exact hC
      -- the parts
      have chd : ∀ k, ∃ K v, k < rg_c g r → (∃ d', dv_tr (tg_G g) (w, c) (vt_A b_tokenSizes) d' (rg_h g r k) (e k) (e (k + 1)) v) ∧
          ∀ n t p (T H R Us : Nat → Int32) (L : List Nat), t ≤ 5 * (D + 1) → p ≤ 4 * (D + 1) → L.length + vt_sz v ≤ 2 ^ 29 → T t = yb_c 0 (rg_h g r k) (e k) (e (k + 1)) → yb_us L Us → (∀ T' H' R' Us', (∀ y, y < t → T' y = T y) → (∀ y, y < p → H' y = H y) → H' p = v.2.1 → yb_us (L ++ v.1) Us' → wY_build_35 post n (nI t) (nI (p + 1)) h_made h_depth h_length h_tokenCount h_wrong h_letterCount h_ruleCount h_makingCount u h_stateCount h_wideCount (nI (L ++ v.1).length) h_result b_ops b_firsts b_seconds b_sizes b_stack b_roots b_text b_ends b_tokenKinds b_tokenSizes b_letters b_begins b_closes b_empties b_nexts b_sets b_leads b_classes b_newClasses b_lefts b_rights b_counts b_making b_firstSets b_followSets b_states b_looks b_wides b_work b_met T' H' Us' R') → wY_build_35 post (n + K) (nI (t + 1)) (nI p) h_made h_depth h_length h_tokenCount h_wrong h_letterCount h_ruleCount h_makingCount u h_stateCount h_wideCount (nI L.length) h_result b_ops b_firsts b_seconds b_sizes b_stack b_roots b_text b_ends b_tokenKinds b_tokenSizes b_letters b_begins b_closes b_empties b_nexts b_sets b_leads b_classes b_newClasses b_lefts b_rights b_counts b_making b_firstSets b_followSets b_states b_looks b_wides b_work b_met T H Us R := by
        intro k
        rcases Nat.lt_or_ge k (rg_c g r) with hk | hk
        · have cC := cx_child (G := tg_G g) (X := (w, c)) (len := b_tokenSizes) (k := k) hr1 hC' dD hk
          -- its size
          have ex : ∀ k, ∃ v, k < rg_c g r → ∃ d, dv_tr (tg_G g) (w, c) (vt_A b_tokenSizes) d (rg_h g r k) (e k) (e (k + 1)) v := by
            intro k
            rcases Nat.lt_or_ge k (rg_c g r) with z | z
            · obtain ⟨d, v, h⟩ := dv_D_to (vt_A b_tokenSizes) (dD k z)
              exact ⟨v, fun _ => ⟨d, h⟩⟩
            · exact ⟨([], 0, 0, 0), fun z' => by omega⟩
          obtain ⟨f, hf⟩ : ∃ f : Nat → vt_T, ∀ k, k < rg_c g r → ∃ d, dv_tr (tg_G g) (w, c) (vt_A b_tokenSizes) d (rg_h g r k) (e k) (e (k + 1)) (f k) := ⟨fun k => Classical.choose (ex k), fun k => Classical.choose_spec (ex k)⟩
          obtain ⟨dd, hd⟩ := vt_node (A := vt_A b_tokenSizes) (G := tg_G g) hr1 hf
          have hd : dv_tr (tg_G g) (w, c) (vt_A b_tokenSizes) dd (rg_l g r) (e 0) (e (rg_c g r)) ((vt_A b_tokenSizes).2 r (vt_li f (rg_c g r))) := hd
          rw [hl, e0, ec] at hd
          have sz := cx_sz h1 hC a hd
          have sz : vt_sz u0 = lr_sum vt_sz (vt_li f (rg_c g r)) + 1 := sz
          have le := vt_sum1 (f := f) hk
          obtain ⟨dk, hdk⟩ := hf k hk
          obtain ⟨K, d', v, q1, q2⟩ := ih (D + 1) (rg_h g r k) (e k) (e (k + 1)) dk (f k) hdk (by omega) cC (dv k hk) (h7 k hk) (by have := hch k hk; omega)
          exact ⟨K, v, fun _ => ⟨⟨d', q1⟩, q2⟩⟩
        · exact ⟨0, ([], 0, 0, 0), fun z => by omega⟩
      obtain ⟨K, hK⟩ : ∃ K : Nat → Nat, ∀ k, ∃ v, k < rg_c g r → (∃ d', dv_tr (tg_G g) (w, c) (vt_A b_tokenSizes) d' (rg_h g r k) (e k) (e (k + 1)) v) ∧
          ∀ n t p (T H R Us : Nat → Int32) (L : List Nat), t ≤ 5 * (D + 1) → p ≤ 4 * (D + 1) → L.length + vt_sz v ≤ 2 ^ 29 → T t = yb_c 0 (rg_h g r k) (e k) (e (k + 1)) → yb_us L Us → (∀ T' H' R' Us', (∀ y, y < t → T' y = T y) → (∀ y, y < p → H' y = H y) → H' p = v.2.1 → yb_us (L ++ v.1) Us' → wY_build_35 post n (nI t) (nI (p + 1)) h_made h_depth h_length h_tokenCount h_wrong h_letterCount h_ruleCount h_makingCount u h_stateCount h_wideCount (nI (L ++ v.1).length) h_result b_ops b_firsts b_seconds b_sizes b_stack b_roots b_text b_ends b_tokenKinds b_tokenSizes b_letters b_begins b_closes b_empties b_nexts b_sets b_leads b_classes b_newClasses b_lefts b_rights b_counts b_making b_firstSets b_followSets b_states b_looks b_wides b_work b_met T' H' Us' R') → wY_build_35 post (n + K k) (nI (t + 1)) (nI p) h_made h_depth h_length h_tokenCount h_wrong h_letterCount h_ruleCount h_makingCount u h_stateCount h_wideCount (nI L.length) h_result b_ops b_firsts b_seconds b_sizes b_stack b_roots b_text b_ends b_tokenKinds b_tokenSizes b_letters b_begins b_closes b_empties b_nexts b_sets b_leads b_classes b_newClasses b_lefts b_rights b_counts b_making b_firstSets b_followSets b_states b_looks b_wides b_work b_met T H Us R := ⟨fun k => Classical.choose (chd k), fun k => Classical.choose_spec (chd k)⟩
      obtain ⟨fs, hfs⟩ : ∃ fs : Nat → vt_T, ∀ k, k < rg_c g r → (∃ d', dv_tr (tg_G g) (w, c) (vt_A b_tokenSizes) d' (rg_h g r k) (e k) (e (k + 1)) (fs k)) ∧
          ∀ n t p (T H R Us : Nat → Int32) (L : List Nat), t ≤ 5 * (D + 1) → p ≤ 4 * (D + 1) → L.length + vt_sz (fs k) ≤ 2 ^ 29 → T t = yb_c 0 (rg_h g r k) (e k) (e (k + 1)) → yb_us L Us → (∀ T' H' R' Us', (∀ y, y < t → T' y = T y) → (∀ y, y < p → H' y = H y) → H' p = (fs k).2.1 → yb_us (L ++ (fs k).1) Us' → wY_build_35 post n (nI t) (nI (p + 1)) h_made h_depth h_length h_tokenCount h_wrong h_letterCount h_ruleCount h_makingCount u h_stateCount h_wideCount (nI (L ++ (fs k).1).length) h_result b_ops b_firsts b_seconds b_sizes b_stack b_roots b_text b_ends b_tokenKinds b_tokenSizes b_letters b_begins b_closes b_empties b_nexts b_sets b_leads b_classes b_newClasses b_lefts b_rights b_counts b_making b_firstSets b_followSets b_states b_looks b_wides b_work b_met T' H' Us' R') → wY_build_35 post (n + K k) (nI (t + 1)) (nI p) h_made h_depth h_length h_tokenCount h_wrong h_letterCount h_ruleCount h_makingCount u h_stateCount h_wideCount (nI L.length) h_result b_ops b_firsts b_seconds b_sizes b_stack b_roots b_text b_ends b_tokenKinds b_tokenSizes b_letters b_begins b_closes b_empties b_nexts b_sets b_leads b_classes b_newClasses b_lefts b_rights b_counts b_making b_firstSets b_followSets b_states b_looks b_wides b_work b_met T H Us R := ⟨fun k => Classical.choose (hK k), fun k => Classical.choose_spec (hK k)⟩
      obtain ⟨dd, hd⟩ := vt_node (A := vt_A b_tokenSizes) (G := tg_G g) hr1 (fun k hk => (hfs k hk).1)
      have hd : dv_tr (tg_G g) (w, c) (vt_A b_tokenSizes) dd (rg_l g r) (e 0) (e (rg_c g r)) ((vt_A b_tokenSizes).2 r (vt_li fs (rg_c g r))) := hd
      rw [hl, e0, ec] at hd
      have fl : ∀ k, k < rg_c g r → (fs k).1.length ≤ vt_sz (fs k) := fun k hk => by
        obtain ⟨d', q⟩ := (hfs k hk).1
        exact vt_len _ _ _ _ _ q
      refine ⟨yb_s K (rg_c g r) (rg_c g r) + 1 + 1, dd, (vt_us (vt_li fs (rg_c g r)) ++ [r], vt_vl r (vt_li fs (rg_c g r)), vt_dp (vt_li fs (rg_c g r)) + 1, lr_sum vt_sz (vt_li fs (rg_c g r)) + 1), hd, fun n t p T H R Us L ht hp hL hT hu hk => ?_⟩
      have hL : L.length + (lr_sum vt_sz (vt_li fs (rg_c g r)) + 1) ≤ 2 ^ 29 := hL
      -- the parts one after another
      have chain : ∀ m, m ≤ rg_c g r → ∀ (T' H' R' Us' : Nat → Int32), yb_T g r i j e t T T' (rg_c g r - m) → (∀ y, y < p → H' y = H y) → (∀ q, q < rg_c g r - m → H' (p + q) = (fs q).2.1) → yb_us (L ++ vt_us (vt_li fs (rg_c g r - m))) Us' → wY_build_35 post (n + 1 + yb_s K (rg_c g r) m) (nI (t + 1 + m)) (nI (p + (rg_c g r - m))) h_made h_depth h_length h_tokenCount h_wrong h_letterCount h_ruleCount h_makingCount u h_stateCount h_wideCount (nI (L ++ vt_us (vt_li fs (rg_c g r - m))).length) h_result b_ops b_firsts b_seconds b_sizes b_stack b_roots b_text b_ends b_tokenKinds b_tokenSizes b_letters b_begins b_closes b_empties b_nexts b_sets b_leads b_classes b_newClasses b_lefts b_rights b_counts b_making b_firstSets b_followSets b_states b_looks b_wides b_work b_met T' H' Us' R' := by
        intro m
        induction m with
        | zero =>
          intro _ T' H' R' Us' hT' hH' hq hu'
          rw [Nat.sub_zero] at hT' hq hu' ⊢
          rw [Nat.add_zero]
          have ul := vt_usle (f := fs) (rg_c g r) fl
          have ll : (L ++ vt_us (vt_li fs (rg_c g r))).length = L.length + (vt_us (vt_li fs (rg_c g r))).length := List.length_append
          refine br_f (nI_nle0 t (by omega)) (nm_r (pk_m1 t) ?_)
          rw [nI_clamp (by omega : t < 2 ^ 31), hT'.2.1, yb_d1 (by omega) (by omega) (by omega) (by omega), yb_d2 (by omega) (by omega) (by omega) (by omega), yb_d3 (by omega) (by omega) (by omega) (by omega), yb_d4 (by omega) (by omega) (by omega) (by omega)]
          have it : vp_in (nI t) 3000 := vp_in_nI (by omega) (by decide)
          obtain ⟨g1, g2, g3⟩ := hG r (Or.inl hr1.1)
          refine ⟨it, by decide, nm_e ⟨it, by decide, by decide, nm_e ⟨it, by decide, by decide, nm_e ⟨it, by decide, br_t rfl ⟨vp_in_nI (by omega) (by decide), nm_r (e' := nI p) (by rw [nI_clamp (by omega), g2, pk_sub (by omega), Nat.add_sub_cancel]) ?_⟩⟩⟩⟩⟩
          refine yw_finish (b_held := H') (b_uses := Us') (L := L ++ vt_us (vt_li fs (rg_c g r))) (fs := fs) (by omega) g2 c4 hq (by omega) (by omega) hu' (fun Us2 hu2 => nm_r (nI_1 p) ?_)
          rw [List.append_assoc] at hu2 ⊢
          exact hk T' _ R' Us2 hT'.1 (fun y hy => by rw [pk_un (by omega)]; exact hH' y hy) pk_us hu2
        | succ m ihm =>
          intro hm T' H' R' Us' hT' hH' hq hu'
          have em : rg_c g r - m = rg_c g r - (m + 1) + 1 := by omega
          have hm' : rg_c g r - (m + 1) < rg_c g r := by omega
          have ul := vt_usle (f := fs) (rg_c g r - (m + 1)) (fun k hk => fl k (by omega))
          have s1 := vt_sum1 (f := fs) hm'
          have ll : (L ++ vt_us (vt_li fs (rg_c g r - (m + 1)))).length = L.length + (vt_us (vt_li fs (rg_c g r - (m + 1)))).length := List.length_append
          have := (hfs (rg_c g r - (m + 1)) hm').2 (n + 1 + yb_s K (rg_c g r) m) (t + 1 + m) (p + (rg_c g r - (m + 1))) T' H' R' Us' (L ++ vt_us (vt_li fs (rg_c g r - (m + 1)))) (by omega) (by omega) (by omega) ?_ hu' ?_
          · rw [show n + 1 + yb_s K (rg_c g r) (m + 1) = n + 1 + yb_s K (rg_c g r) m + K (rg_c g r - (m + 1)) from (Nat.add_assoc _ _ _).symm]
            exact this
          · have := hT'.2.2 (rg_c g r - (m + 1)) (Nat.le_refl _) hm'
            rw [show t + rg_c g r - (rg_c g r - (m + 1)) = t + 1 + m by omega] at this
            exact this
          · intro T2 H2 R2 Us2 k1 k2 k3 k4
            have e5 : L ++ vt_us (vt_li fs (rg_c g r - (m + 1))) ++ (fs (rg_c g r - (m + 1))).1 = L ++ vt_us (vt_li fs (rg_c g r - m)) := by
              rw [em, List.append_assoc]; rfl
            rw [e5] at k4 ⊢
            have := ihm (by omega) T2 H2 R2 Us2 ⟨fun y hy => ?_, ?_, fun q q1 q2 => ?_⟩ (fun y hy => ?_) (fun q q1 => ?_) k4
            · rw [show p + (rg_c g r - m) = p + (rg_c g r - (m + 1)) + 1 by omega] at this
              exact this
            · rw [k1 y (by omega)]; exact hT'.1 y hy
            · rw [k1 t (by omega)]; exact hT'.2.1
            · rw [k1 _ (by omega)]; exact hT'.2.2 q (by omega) q2
            · rw [k2 y (by omega)]; exact hH' y hy
            · by_cases z : q = rg_c g r - (m + 1)
              · subst z; exact k3
              · rw [k2 _ (by omega)]; exact hq q (by omega)
      -- the first step
      refine br_f (nI_nle0 t (by omega)) (nm_r (pk_m1 t) ?_)
      rw [nI_clamp (by omega : t < 2 ^ 31), hT, yb_d1 (by omega) (by omega) (by omega) (by omega), yb_d2 (by omega) (by omega) (by omega) (by omega), yb_d3 (by omega) (by omega) (by omega) (by omega), yb_d4 (by omega) (by omega) (by omega) (by omega)]
      have it : vp_in (nI t) 3000 := vp_in_nI (by omega) (by decide)
      refine ⟨it, by decide, nm_e ⟨it, by decide, by decide, nm_e ⟨it, by decide, by decide, nm_e ⟨it, by decide, br_f (by decide) (pk_le 3 x (fun z => ?_) (fun z => by omega))⟩⟩⟩⟩
      refine yw_expand (b_tasks := T) (b_held := H) (b_uses := Us) (b_reach := R) hg hG hU hc hw hx hij hj hr0 (by omega) (fun R' T' hT' => ?_)
      have := chain (rg_c g r) (Nat.le_refl _) T' H R' Us (by rw [Nat.sub_self]; exact hT') (fun _ _ => rfl) (fun q q1 => by omega) (by rw [Nat.sub_self]; show yb_us (L ++ []) Us; rw [List.append_nil]; exact hu)
      rw [Nat.sub_self] at this
      rw [show L ++ vt_us (vt_li fs 0) = L from List.append_nil L] at this
      rw [show n + 1 + yb_s K (rg_c g r) (rg_c g r) = n + (yb_s K (rg_c g r) (rg_c g r) + 1) by omega] at this
      exact this
end
end
section
/-! what a grade says of reading, and the reference's answers about a text -/
noncomputable def nx_of {α : Type} (to : α → Nat → Option α) (f : Nat → α) (n : Nat) : lr_N := fun q x =>
  @dite _ (q < n ∧ x < 7 ∧ ∃ q', q' < n ∧ to (f q) x = some (f q')) (Classical.propDecidable _) (fun h => some (Classical.choose h.2.2)) (fun _ => none)
theorem nx_ok {α : Type} {to : α → Nat → Option α} {f : Nat → α} {n : Nat} (hi : ∀ s t, s < n → t < n → f s = f t → s = t) (q x q' : Nat) : nx_of to f n q x = some q' ↔ q < n ∧ x < 7 ∧ q' < n ∧ to (f q) x = some (f q') := by
  unfold nx_of
  by_cases h : q < n ∧ x < 7 ∧ ∃ q', q' < n ∧ to (f q) x = some (f q')
  · rw [dif_pos h]
    have sp := Classical.choose_spec h.2.2
    constructor
    · intro e
      have e := Option.some.inj e
      rw [e] at sp
      exact ⟨h.1, h.2.1, sp⟩
    · rintro ⟨_, _, h3, h4⟩
      have := Option.some.inj (sp.2.symm.trans h4)
      exact congrArg some (hi _ _ sp.1 h3 this)
  · rw [dif_neg h]
    exact ⟨(fun e => by cases e), fun e => absurd ⟨e.1, e.2.1, q', e.2.2⟩ h⟩
/-- a grade at which texts are read -/
def rd_g (r : Int32) : Prop := ¬ r < 0 ∧ ¬ 4 ≤ r
theorem rd_A {g : rg_T} (hg : rg_ok g) {r : Int32} (h : yg_R g r) (hr : rd_g r) : (∃ r, us_U g r) ∧ ∃ lk nx, lr_A (tg_G g) (fi_F g) lk nx := by
  rcases h with ⟨_, rfl⟩ | ⟨_, _, rfl⟩ | ⟨hu, f, n, hf, hn, h⟩
  · exact absurd (by decide) hr.1
  · exact absurd (by decide) hr.1
  · refine ⟨hu, ?_⟩
    have ff := fin_full hf
    have two : ¬ cs_2 g f n → ∃ lk nx, lr_A (tg_G g) (fi_F g) lk nx := fun z => ⟨tb_lk g f n, nx_of (tb_to g) f n, tb_A hg ff (nx_ok ff.2.2.1) z⟩
    rcases h with ⟨z, _⟩ | ⟨_, z, _⟩ | ⟨_, _, z, _⟩ | ⟨_, _, _, _, rfl⟩ | ⟨_, _, _, fw, nw, h1, h2, ⟨z, _⟩ | ⟨_, rfl⟩⟩
    · exact two fun y => z (cs_20 y)
    · exact two fun y => z (cs_21 hg ff y)
    · exact two z
    · exact absurd (by decide) hr.1
    · have fw' := fin_fullw h1
      exact ⟨tw_lk fw nw, nx_of (tw_to g) fw nw, tw_A hg fw' (nx_ok fw'.2.2.1) z⟩
    · exact absurd (by decide) hr.2
theorem rd_one {g : rg_T} (hg : rg_ok g) {r : Int32} (h : yg_R g r) (hr : rd_g r) {X : tx_T} (hX : tx_ok X) (len : Nat → Int32) : cx_one (tg_G g) X len := by
  obtain ⟨_, lk, nx, hA⟩ := rd_A hg h hr
  exact fun d e v w a b => lr_one (tg_ok hg) hX (fi_ok g) hA (vt_ok len) a b
theorem er_all {G : gr_T} {X : tx_T} {i j r p : Nat} (h : er_E G X i j r p) : ∀ m, m < j → er_S G X m := by
  refine er_ind (fun i j r p => ∀ m, m < j → er_S G X m) (fun m hm => absurd hm (Nat.not_lt_zero _)) ?_ ?_ ?_ h
  · intro i j r p r' _ a _ _ _; exact a
  · intro i j r p a b c d e m hm
    by_cases z : m = j
    · subst z; exact ⟨d, i, r, p, a, c, e⟩
    · exact b m (by omega)
  · intro i m j r p r' _ _ _ _ a _ _; exact a
theorem er_D {G : gr_T} {X : tx_T} (hG : gr_ok G) (hX : tx_ok X) {j : Nat} : er_E G X 0 j 9 1 ↔ dv_D G X 3 0 j := by
  constructor
  · intro h
    obtain ⟨m, a, b⟩ := (er_sound hX hG h).1
    have a : 0 = m := a
    subst a
    rw [hG.2.2.2.2] at b
    exact b
  · intro h
    obtain ⟨d, z⟩ := h
    exact er_step d 3 0 j () z 0 9 0 (er_self G X).1 (by rw [hG.2.2.2.1]; omega) hG.2.2.2.2
/-- the first place at which the text cannot go on -/
def rr_n (G : gr_T) (X : tx_T) (n : Nat) : Prop := n ≤ X.2 ∧ (∀ m, m < n → er_S G X m) ∧ (n < X.2 → ¬ er_S G X n)
theorem rr_one {G : gr_T} {X : tx_T} {n n' : Nat} (h : rr_n G X n) (h' : rr_n G X n') : n = n' := by
  rcases Nat.lt_trichotomy n n' with z | z | z
  · exact absurd (h'.2.1 n z) (h.2.2 (by have := h'.1; omega))
  · exact z
  · exact absurd (h.2.1 n' z) (h'.2.2 (by have := h.1; omega))
theorem rr_D {G : gr_T} {X : tx_T} (hG : gr_ok G) (hX : tx_ok X) {n : Nat} (h : rr_n G X n) (hD : dv_D G X 3 0 X.2) : n = X.2 := rr_one h ⟨Nat.le_refl _, er_all ((er_D hG hX).mpr hD), fun z => absurd z (Nat.lt_irrefl _)⟩
variable {h_made h_depth h_length h_tokenCount h_wrong h_letterCount h_ruleCount h_makingCount h_usefulRules h_stateCount h_wideCount h_useCount h_result : Int32} {b_ops b_firsts b_seconds b_sizes b_stack b_roots b_text b_ends b_tokenKinds b_tokenSizes b_letters b_begins b_closes b_empties b_nexts b_sets b_leads b_classes b_newClasses b_lefts b_rights b_counts b_making b_firstSets b_followSets b_tasks b_held b_uses b_reach : Nat → Int32} {b_states b_looks b_wides b_work b_met : Nat → Int64}
section
variable {g : rg_T}
/-- the text's tokens -/
noncomputable def tk_w (kd : Nat → gk_T) (t : Nat → Nat) (n : Nat) (i : Nat) : Nat := ct_k kd t n (ct_p kd t n i)
noncomputable def tk_l (kd : Nat → gk_T) (t : Nat → Nat) (n : Nat) (i : Nat) : Int32 := nI (ct_n kd t n (ct_p kd t n i))
theorem yw_prepare (hg : rg_ok g) (hG : xg_G g b_lefts b_rights b_counts) (hl : ∀ r, r < 9 → ∃ v, v < 7 ∧ b_lefts r = nI v) {m n : Nat} {ga : Nat → gk_T} {lo op fi se : Nat → Nat} {t : Nat → Nat} {kd : Nat → gk_T} (hN : yn_N m ga lo op fi se b_ops b_firsts b_seconds b_sizes) (hm : m ≤ 60) (hn : n ≤ 24) (ht : ∀ i, i < n → b_text i = nI (t i) ∧ t i < 3) (hR : yn_R m ga b_roots kd) {post : Int32 → SY → Prop}
    (h : ∀ r u sc wc fs fo st ls wi wo e c K S, yg_R g r → yg_U g u → ct_ok kd t n c K S → (rd_g r → post 1 ((nI m), h_depth, (nI n), (nI c), (ct_w kd t n c), h_letterCount, (nI (rg_n g)), h_makingCount, u, sc, wc, h_useCount, h_result, b_ops, b_firsts, b_seconds, b_sizes, b_stack, b_roots, b_text, e, K, S, b_letters, b_begins, b_closes, b_empties, b_nexts, b_sets, b_leads, b_classes, b_newClasses, b_lefts, b_rights, b_counts, b_making, fs, fo, st, ls, wi, wo, b_met, b_tasks, b_held, b_uses, b_reach)) ∧ (¬ rd_g r → post 0 ((nI m), h_depth, (nI n), (nI c), (ct_w kd t n c), h_letterCount, (nI (rg_n g)), h_makingCount, u, sc, wc, h_useCount, h_result, b_ops, b_firsts, b_seconds, b_sizes, b_stack, b_roots, b_text, e, K, S, b_letters, b_begins, b_closes, b_empties, b_nexts, b_sets, b_leads, b_classes, b_newClasses, b_lefts, b_rights, b_counts, b_making, fs, fo, st, ls, wi, wo, b_met, b_tasks, b_held, b_uses, b_reach))) : wpY_prepare post ((nI m), h_depth, (nI n), h_tokenCount, h_wrong, h_letterCount, (nI (rg_n g)), h_makingCount, h_usefulRules, h_stateCount, h_wideCount, h_useCount, h_result, b_ops, b_firsts, b_seconds, b_sizes, b_stack, b_roots, b_text, b_ends, b_tokenKinds, b_tokenSizes, b_letters, b_begins, b_closes, b_empties, b_nexts, b_sets, b_leads, b_classes, b_newClasses, b_lefts, b_rights, b_counts, b_making, b_firstSets, b_followSets, b_states, b_looks, b_wides, b_work, b_met, b_tasks, b_held, b_uses, b_reach) := by
  refine yw_findGrade (h_usefulRules := h_usefulRules) (h_stateCount := h_stateCount) (h_wideCount := h_wideCount) (b_firstSets := b_firstSets) (b_followSets := b_followSets) (b_states := b_states) (b_looks := b_looks) (b_wides := b_wides) (b_work := b_work) hg hG hl (fun r u sc wc fs fo st ls wi wo h1 h2 h3 h4 => ?_)
  refine yw_cut hN hm hn ht hR (fun e c K S h5 => ?_)
  obtain ⟨a, b⟩ := h r u sc wc fs fo st ls wi wo e c K S h1 h2 h5
  exact br_c (fun z => b fun q => q.1 z) (fun z => br_c (fun y => b fun q => q.2 y) (fun y => a ⟨z, y⟩))
theorem tk_ok {kd : Nat → gk_T} {t : Nat → Nat} {n c : Nat} {K S : Nat → Int32} (hn : n ≤ 24) (h : ct_ok kd t n c K S) : c ≤ 24 ∧ (∀ i, i < c → K i = nI (tk_w kd t n i) ∧ tk_w kd t n i < 3) ∧ (∀ i, i < c → S i = tk_l kd t n i) ∧ tx_ok (tk_w kd t n, c) :=
  ⟨ct_C_24 hn h.1.1, fun i hi => ⟨(h.2 i hi).1, ct_k3 _⟩, fun i hi => (h.2 i hi).2, fun i _ => ct_k3 _⟩
theorem yw_isSentence (hg : rg_ok g) (hG : xg_G g b_lefts b_rights b_counts) (hl : ∀ r, r < 9 → ∃ v, v < 7 ∧ b_lefts r = nI v) {m n : Nat} {ga : Nat → gk_T} {lo op fi se : Nat → Nat} {t : Nat → Nat} {kd : Nat → gk_T} (hN : yn_N m ga lo op fi se b_ops b_firsts b_seconds b_sizes) (hm : m ≤ 60) (hn : n ≤ 24) (ht : ∀ i, i < n → b_text i = nI (t i) ∧ t i < 3) (hR : yn_R m ga b_roots kd) {post : Int32 → SY → Prop}
    (h0 : ∀ r u sc wc fs fo st ls wi wo e c K S M, yg_R g r → ct_ok kd t n c K S → ¬ (rd_g r ∧ ct_w kd t n c = -4 ∧ dv_D (tg_G g) (tk_w kd t n, c) 3 0 c) → post 0 ((nI m), h_depth, (nI n), (nI c), (ct_w kd t n c), h_letterCount, (nI (rg_n g)), h_makingCount, u, sc, wc, h_useCount, h_result, b_ops, b_firsts, b_seconds, b_sizes, b_stack, b_roots, b_text, e, K, S, b_letters, b_begins, b_closes, b_empties, b_nexts, b_sets, b_leads, b_classes, b_newClasses, b_lefts, b_rights, b_counts, b_making, fs, fo, st, ls, wi, wo, M, b_tasks, b_held, b_uses, b_reach))
    (h1 : ∀ r u sc wc fs fo st ls wi wo e c K S M, yg_R g r → yg_U g u → ct_ok kd t n c K S → rd_g r → ct_w kd t n c = -4 → dv_D (tg_G g) (tk_w kd t n, c) 3 0 c → ym_M g (tk_w kd t n) c M → post 1 ((nI m), h_depth, (nI n), (nI c), (ct_w kd t n c), h_letterCount, (nI (rg_n g)), h_makingCount, u, sc, wc, h_useCount, h_result, b_ops, b_firsts, b_seconds, b_sizes, b_stack, b_roots, b_text, e, K, S, b_letters, b_begins, b_closes, b_empties, b_nexts, b_sets, b_leads, b_classes, b_newClasses, b_lefts, b_rights, b_counts, b_making, fs, fo, st, ls, wi, wo, M, b_tasks, b_held, b_uses, b_reach)) : wpY_isSentence post ((nI m), h_depth, (nI n), h_tokenCount, h_wrong, h_letterCount, (nI (rg_n g)), h_makingCount, h_usefulRules, h_stateCount, h_wideCount, h_useCount, h_result, b_ops, b_firsts, b_seconds, b_sizes, b_stack, b_roots, b_text, b_ends, b_tokenKinds, b_tokenSizes, b_letters, b_begins, b_closes, b_empties, b_nexts, b_sets, b_leads, b_classes, b_newClasses, b_lefts, b_rights, b_counts, b_making, b_firstSets, b_followSets, b_states, b_looks, b_wides, b_work, b_met, b_tasks, b_held, b_uses, b_reach) := by
  delta wpY_isSentence
  refine yw_prepare hg hG hl hN hm hn ht hR (fun r u sc wc fs fo st ls wi wo e c K S hr hU hc => ?_)
  refine ⟨fun z => br_f (by decide) ?_, fun z => br_t rfl (h0 r u sc wc fs fo st ls wi wo e c K S b_met hr hc fun q => z q.1)⟩
  obtain ⟨c24, hw, _, hX⟩ := tk_ok hn hc
  refine br_c (fun y => ?_) (fun y => h0 r u sc wc fs fo st ls wi wo e c K S b_met hr hc fun q => y q.2.1)
  refine yw_meet (b_tokenKinds := K) hg hG hU c24 hw (fun n' M n1 n2 n3 hM => ?_)
  have rr : rr_n (tg_G g) (tk_w kd t n, c) n' := ⟨n1, n2, n3⟩
  refine pk_eq n' c (fun q => ?_) (fun q => h0 r u sc wc fs fo st ls wi wo e c K S M hr hc fun p => q (rr_D (tg_ok hg) hX rr p.2.2))
  subst q
  have ix : (25 : Int32) * nI n' = nI (n' * 25 + 0) := by rw [Nat.add_zero, Nat.mul_comm]; exact pk_mul 25 n'
  refine ⟨pk_in (n' * 25 + 0) 625 (by omega) ix, ?_⟩
  rw [pk_cl (n' * 25 + 0) ix]
  have b := hM n' 0 46 (Nat.le_refl _) (Nat.zero_le _)
  have b : bl (M (n' * 25 + 0)) 46 = true ↔ er_E (tg_G g) (tk_w kd t n, n') 0 n' 9 1 := b
  rw [er_D (tg_ok hg) hX] at b
  have te := bl_test (M (n' * 25 + 0)) (n := 46) (by decide)
  exact br_c (fun q => h1 r u sc wc fs fo st ls wi wo e n' K S M hr hU hc z y (b.mp (te.mp q)) hM) (fun q => h0 r u sc wc fs fo st ls wi wo e n' K S M hr hc fun p => q (te.mpr (b.mpr p.2.2)))
theorem dv_len {G : gr_T} {X : tx_T} {len len' : Nat → Int32} (he : ∀ i, i < X.2 → len i = len' i) : ∀ d s i j v, dv_tr G X (vt_A len) d s i j v → dv_tr G X (vt_A len') d s i j v := by
  intro d
  induction d with
  | zero =>
    intro s i j v z
    obtain ⟨a, b, c, e, rfl⟩ := z
    refine ⟨a, b, c, e, ?_⟩
    show (([], len i, 0, 1) : vt_T) = ([], len' i, 0, 1)
    rw [he i b]
  | succ d ih =>
    intro s i j v z
    rcases z with z | ⟨r, vs, a, b, z, rfl⟩
    · exact Or.inl (ih _ _ _ _ z)
    · exact Or.inr ⟨r, vs, a, b, dv_pre_mono (fun _ _ _ _ q => ih _ _ _ _ q) _ _ _ _ z, rfl⟩
theorem dv_lim (hg : rg_ok g) {X : tx_T} (hn : X.2 ≤ 24) {len : Nat → Int32} (h1 : cx_one (tg_G g) X len) {d : Nat} {v : vt_T} (z : dv_tr (tg_G g) X (vt_A len) d 3 0 X.2 v) : vt_sz v ≤ 98389 ∧ v.1.length ≤ 98389 := by
  obtain ⟨v', a, b⟩ := gd_24 (A := vt_A len) (tg_ok hg) (vt_ok len) hn (dv_D_of z) (Nat.zero_le _)
  have e := h1 _ _ _ _ z a
  subst e
  have := vt_len _ _ _ _ _ z
  omega
theorem yw_build (hg : rg_ok g) (hG : xg_G g b_lefts b_rights b_counts) (hl : ∀ r, r < 9 → ∃ v, v < 7 ∧ b_lefts r = nI v) {m n : Nat} {ga : Nat → gk_T} {lo op fi se : Nat → Nat} {t : Nat → Nat} {kd : Nat → gk_T} (hN : yn_N m ga lo op fi se b_ops b_firsts b_seconds b_sizes) (hm : m ≤ 60) (hn : n ≤ 24) (ht : ∀ i, i < n → b_text i = nI (t i) ∧ t i < 3) (hR : yn_R m ga b_roots kd) {post : Int32 → SY → Prop}
    (h0 : ∀ r u sc wc fs fo st ls wi wo e c K S M, yg_R g r → ct_ok kd t n c K S → ¬ (rd_g r ∧ ct_w kd t n c = -4 ∧ dv_D (tg_G g) (tk_w kd t n, c) 3 0 c) → post 0 ((nI m), h_depth, (nI n), (nI c), (ct_w kd t n c), h_letterCount, (nI (rg_n g)), h_makingCount, u, sc, wc, h_useCount, h_result, b_ops, b_firsts, b_seconds, b_sizes, b_stack, b_roots, b_text, e, K, S, b_letters, b_begins, b_closes, b_empties, b_nexts, b_sets, b_leads, b_classes, b_newClasses, b_lefts, b_rights, b_counts, b_making, fs, fo, st, ls, wi, wo, M, b_tasks, b_held, b_uses, b_reach))
    (h1 : ∀ r u sc wc fs fo st ls wi wo e c K S M T H Us R d v, yg_R g r → ct_ok kd t n c K S → rd_g r → ct_w kd t n c = -4 → dv_tr (tg_G g) (tk_w kd t n, c) (vt_A (tk_l kd t n)) d 3 0 c v → v.1.length ≤ 98389 → yb_us v.1 Us → post 1 ((nI m), h_depth, (nI n), (nI c), (ct_w kd t n c), h_letterCount, (nI (rg_n g)), h_makingCount, u, sc, wc, (nI v.1.length), v.2.1, b_ops, b_firsts, b_seconds, b_sizes, b_stack, b_roots, b_text, e, K, S, b_letters, b_begins, b_closes, b_empties, b_nexts, b_sets, b_leads, b_classes, b_newClasses, b_lefts, b_rights, b_counts, b_making, fs, fo, st, ls, wi, wo, M, T, H, Us, R)) : wpY_build post ((nI m), h_depth, (nI n), h_tokenCount, h_wrong, h_letterCount, (nI (rg_n g)), h_makingCount, h_usefulRules, h_stateCount, h_wideCount, h_useCount, h_result, b_ops, b_firsts, b_seconds, b_sizes, b_stack, b_roots, b_text, b_ends, b_tokenKinds, b_tokenSizes, b_letters, b_begins, b_closes, b_empties, b_nexts, b_sets, b_leads, b_classes, b_newClasses, b_lefts, b_rights, b_counts, b_making, b_firstSets, b_followSets, b_states, b_looks, b_wides, b_work, b_met, b_tasks, b_held, b_uses, b_reach) := by
  delta wpY_build
  refine yw_isSentence hg hG hl hN hm hn ht hR (fun r u sc wc fs fo st ls wi wo e c K S M a1 a2 a3 => ?_) (fun r u sc wc fs fo st ls wi wo e c K S M hr hU hc hrd hcw hD hM => ?_)
  · exact br_t rfl (h0 r u sc wc fs fo st ls wi wo e c K S M a1 a2 a3)
  refine br_f (by decide) ?_
  obtain ⟨c24, hw, hS, hX⟩ := tk_ok hn hc
  have one := rd_one hg hr hrd hX S
  obtain ⟨d0, u0, z0⟩ := dv_D_to (vt_A S) hD
  have dv : er_dv (tg_G g) (tk_w kd t n, c) 3 0 c := er_dv_of (tg_ok hg) z0 (er_self _ _).1 (by show 0 < rg_c g 9; rw [hg.2.2.2.1]; omega) hg.2.2.2.2
  obtain ⟨Kn, d, v, z, run⟩ := yw_run (h_made := nI m) (h_depth := h_depth) (h_length := nI n) (h_tokenCount := nI c) (h_wrong := ct_w kd t n c) (h_ruleCount := nI (rg_n g)) (h_stateCount := sc) (h_wideCount := wc) (b_ends := e) (b_tokenKinds := K) (b_tokenSizes := S) (b_firstSets := fs) (b_followSets := fo) (b_states := st) (b_looks := ls) (b_wides := wi) (b_work := wo) (b_met := M) (post := post) hg hG hU c24 hw hM one (vt_sz u0) 0 3 0 c d0 u0 z0 (Nat.le_refl _) cx_root dv (by decide) (Nat.zero_le _)
  have lim := dv_lim hg c24 one z
  have e1 : (((0 : Int32) * 16 + 3) * 32 + 0) * 32 + nI c = yb_c 0 3 0 c := yb_cd 0 3 0 c
  refine nm_r (e' := upd b_tasks 0 (yb_c 0 3 0 c)) (by rw [e1]) ⟨1 + Kn, ?_⟩
  refine run 1 0 0 (upd b_tasks 0 (yb_c 0 3 0 c)) b_held b_reach b_uses [] (by omega) (by omega) (by show 0 + vt_sz v ≤ 2 ^ 29; omega) pk_us (fun q x hx => by rw [List.getElem?_nil] at hx; cases hx) (fun T H R Us _ _ k3 k4 => ?_)
  refine br_t (by decide) (nm_r (e' := v.2.1) k3 ?_)
  exact h1 r u sc wc fs fo st ls wi wo e c K S M T H Us R d v hr hc hrd hcw (dv_len (len := S) hS _ _ _ _ _ z) lim.2 k4
end
end
section
/-! the answers about a text, and the reference's calls that give them -/
def an_F (g : rg_T) (kd : Nat → gk_T) (t : Nat → Nat) (n : Nat) : Prop := ∃ r c, yg_R g r ∧ ct_C kd t n c ∧ rd_g r ∧ ct_w kd t n c = -4 ∧ dv_D (tg_G g) (tk_w kd t n, c) 3 0 c
theorem an_no {g : rg_T} {kd : Nat → gk_T} {t : Nat → Nat} {n c : Nat} {r : Int32} (h1 : yg_R g r) (h2 : ct_C kd t n c) (h : ¬ (rd_g r ∧ ct_w kd t n c = -4 ∧ dv_D (tg_G g) (tk_w kd t n, c) 3 0 c)) : ¬ an_F g kd t n := by
  rintro ⟨r', c', a, b, d⟩
  have e1 := yg_one h1 a
  have e2 := ct_C_one h2 b
  subst e1 e2
  exact h d
def an_T (g : rg_T) (kd : Nat → gk_T) (t : Nat → Nat) (n : Nat) (v : vt_T) : Prop := ∃ r c d, yg_R g r ∧ ct_C kd t n c ∧ rd_g r ∧ ct_w kd t n c = -4 ∧ dv_tr (tg_G g) (tk_w kd t n, c) (vt_A (tk_l kd t n)) d 3 0 c v
theorem an_TF {g : rg_T} {kd : Nat → gk_T} {t : Nat → Nat} {n : Nat} {v : vt_T} (h : an_T g kd t n v) : an_F g kd t n := by
  obtain ⟨r, c, d, a1, a2, a3, a4, a5⟩ := h
  exact ⟨r, c, a1, a2, a3, a4, dv_D_of a5⟩
theorem an_T1 {g : rg_T} (hg : rg_ok g) {kd : Nat → gk_T} {t : Nat → Nat} {n : Nat} {v v' : vt_T} (h : an_T g kd t n v) (h' : an_T g kd t n v') : v = v' := by
  obtain ⟨r, c, d, a1, a2, a3, a4, a5⟩ := h
  obtain ⟨r', c', d', b1, b2, b3, b4, b5⟩ := h'
  have e2 := ct_C_one a2 b2
  subst e2
  exact rd_one hg a1 a3 (X := (tk_w kd t n, c)) (fun i _ => ct_k3 _) _ _ _ _ _ a5 b5
def an_reads (g : rg_T) (kd : Nat → gk_T) (t : Nat → Nat) (n : Nat) (r : Int32) : Prop := (an_F g kd t n ∧ r = 1) ∨ (¬ an_F g kd t n ∧ r = 0)
def an_stops (g : rg_T) (kd : Nat → gk_T) (t : Nat → Nat) (n : Nat) (r : Int32) : Prop := (∃ q c m, yg_R g q ∧ ct_C kd t n c ∧ rd_g q ∧ rr_n (tg_G g) (tk_w kd t n, c) m ∧ r = nI m) ∨ (∃ q, yg_R g q ∧ ¬ rd_g q ∧ r = -4)
def an_uses (g : rg_T) (kd : Nat → gk_T) (t : Nat → Nat) (n : Nat) (r : Int32) : Prop := (∃ v, an_T g kd t n v ∧ r = nI v.1.length) ∨ (¬ an_F g kd t n ∧ r = -4)
def an_u (v : vt_T) (p r : Int32) : Prop := ((p < 0 ∨ nI v.1.length ≤ p ∨ 200 ≤ p) ∧ r = -4) ∨ (¬ p < 0 ∧ ¬ nI v.1.length ≤ p ∧ ¬ 200 ≤ p ∧ ∃ x, v.1[p.toNatClampNeg]? = some x ∧ r = nI x)
def an_used (g : rg_T) (kd : Nat → gk_T) (t : Nat → Nat) (n : Nat) (p r : Int32) : Prop := (∃ v, an_T g kd t n v ∧ an_u v p r) ∨ (¬ an_F g kd t n ∧ r = -4)
def an_value (g : rg_T) (kd : Nat → gk_T) (t : Nat → Nat) (n : Nat) (r : Int32) : Prop := (∃ v, an_T g kd t n v ∧ r = v.2.1) ∨ (¬ an_F g kd t n ∧ r = 0)
theorem an_reads1 {g : rg_T} {kd : Nat → gk_T} {t : Nat → Nat} {n : Nat} {r r' : Int32} (h : an_reads g kd t n r) (h' : an_reads g kd t n r') : r = r' := by
  rcases h with ⟨a, rfl⟩ | ⟨a, rfl⟩ <;> rcases h' with ⟨b, rfl⟩ | ⟨b, rfl⟩
  · rfl
  · exact absurd a b
  · exact absurd b a
  · rfl
theorem an_stops1 {g : rg_T} {kd : Nat → gk_T} {t : Nat → Nat} {n : Nat} {r r' : Int32} (h : an_stops g kd t n r) (h' : an_stops g kd t n r') : r = r' := by
  rcases h with ⟨q, c, m, a1, a2, a3, a4, rfl⟩ | ⟨q, a1, a2, rfl⟩ <;> rcases h' with ⟨q', c', m', b1, b2, b3, b4, rfl⟩ | ⟨q', b1, b2, rfl⟩
  · have e := ct_C_one a2 b2
    subst e
    rw [rr_one a4 b4]
  · have e := yg_one a1 b1
    subst e
    exact absurd a3 b2
  · have e := yg_one a1 b1
    subst e
    exact absurd b3 a2
  · rfl
theorem an_uses1 {g : rg_T} (hg : rg_ok g) {kd : Nat → gk_T} {t : Nat → Nat} {n : Nat} {r r' : Int32} (h : an_uses g kd t n r) (h' : an_uses g kd t n r') : r = r' := by
  rcases h with ⟨v, a, rfl⟩ | ⟨a, rfl⟩ <;> rcases h' with ⟨v', b, rfl⟩ | ⟨b, rfl⟩
  · rw [an_T1 hg a b]
  · exact absurd (an_TF a) b
  · exact absurd (an_TF b) a
  · rfl
theorem an_value1 {g : rg_T} (hg : rg_ok g) {kd : Nat → gk_T} {t : Nat → Nat} {n : Nat} {r r' : Int32} (h : an_value g kd t n r) (h' : an_value g kd t n r') : r = r' := by
  rcases h with ⟨v, a, rfl⟩ | ⟨a, rfl⟩ <;> rcases h' with ⟨v', b, rfl⟩ | ⟨b, rfl⟩
  · rw [an_T1 hg a b]
  · exact absurd (an_TF a) b
  · exact absurd (an_TF b) a
  · rfl
theorem an_u1 {v : vt_T} {p r r' : Int32} (h : an_u v p r) (h' : an_u v p r') : r = r' := by
  rcases h with ⟨a, rfl⟩ | ⟨a1, a2, a3, x, a4, rfl⟩ <;> rcases h' with ⟨b, rfl⟩ | ⟨b1, b2, b3, y, b4, rfl⟩
  · rfl
  · rcases a with a | a | a
    · exact absurd a b1
    · exact absurd a b2
    · exact absurd a b3
  · rcases b with b | b | b
    · exact absurd b a1
    · exact absurd b a2
    · exact absurd b a3
  · rw [Option.some.inj (a4.symm.trans b4)]
theorem an_used1 {g : rg_T} (hg : rg_ok g) {kd : Nat → gk_T} {t : Nat → Nat} {n : Nat} {p r r' : Int32} (h : an_used g kd t n p r) (h' : an_used g kd t n p r') : r = r' := by
  rcases h with ⟨v, a, c⟩ | ⟨a, rfl⟩ <;> rcases h' with ⟨v', b, d⟩ | ⟨b, rfl⟩
  · have e := an_T1 hg a b
    subst e
    exact an_u1 c d
  · exact absurd (an_TF a) b
  · exact absurd (an_TF b) a
  · rfl
/-- a rule that was used, out of what was kept -/
theorem an_ui {v : vt_T} {Us : Nat → Int32} (hv : v.1.length ≤ 98389) (h : yb_us v.1 Us) {p : Int32} (h1 : ¬ p < 0) (h2 : ¬ nI v.1.length ≤ p) (h3 : ¬ 200 ≤ p) : vp_in p 200 ∧ an_u v p (Us p.toNatClampNeg) := by
  obtain ⟨q, hq, rfl⟩ := nI_of h1
  have h3 : ¬ nI 200 ≤ nI q := h3
  rw [nI_leI (by decide) hq] at h3
  have h2' := h2
  rw [nI_leI (by omega) hq] at h2
  refine ⟨vp_in_nI (by omega) (by decide), Or.inr ⟨h1, h2', by show ¬ nI 200 ≤ nI q; rw [nI_leI (by decide) hq]; exact h3, ?_⟩⟩
  rw [nI_clamp hq]
  have e := List.getElem?_eq_getElem (l := v.1) (i := q) (by omega)
  exact ⟨_, e, h q _ e (by omega)⟩
variable {h_made h_depth h_length h_tokenCount h_wrong h_letterCount h_ruleCount h_makingCount h_usefulRules h_stateCount h_wideCount h_useCount h_result : Int32} {b_ops b_firsts b_seconds b_sizes b_stack b_roots b_text b_ends b_tokenKinds b_tokenSizes b_letters b_begins b_closes b_empties b_nexts b_sets b_leads b_classes b_newClasses b_lefts b_rights b_counts b_making b_firstSets b_followSets b_tasks b_held b_uses b_reach : Nat → Int32} {b_states b_looks b_wides b_work b_met : Nat → Int64}
section
variable {g : rg_T}
theorem yw_reads (hg : rg_ok g) (hG : xg_G g b_lefts b_rights b_counts) (hl : ∀ r, r < 9 → ∃ v, v < 7 ∧ b_lefts r = nI v) {m n : Nat} {ga : Nat → gk_T} {lo op fi se : Nat → Nat} {t : Nat → Nat} {kd : Nat → gk_T} (hN : yn_N m ga lo op fi se b_ops b_firsts b_seconds b_sizes) (hm : m ≤ 60) (hn : n ≤ 24) (ht : ∀ i, i < n → b_text i = nI (t i) ∧ t i < 3) (hR : yn_R m ga b_roots kd) {post : Int32 → SY → Prop}
    (h : ∀ r tc wr u sc wc uc rs e K S fs fo st ls wi wo M T H Us R, an_reads g kd t n r → post r ((nI m), h_depth, (nI n), tc, wr, h_letterCount, (nI (rg_n g)), h_makingCount, u, sc, wc, uc, rs, b_ops, b_firsts, b_seconds, b_sizes, b_stack, b_roots, b_text, e, K, S, b_letters, b_begins, b_closes, b_empties, b_nexts, b_sets, b_leads, b_classes, b_newClasses, b_lefts, b_rights, b_counts, b_making, fs, fo, st, ls, wi, wo, M, T, H, Us, R)) : wpY_reads post ((nI m), h_depth, (nI n), h_tokenCount, h_wrong, h_letterCount, (nI (rg_n g)), h_makingCount, h_usefulRules, h_stateCount, h_wideCount, h_useCount, h_result, b_ops, b_firsts, b_seconds, b_sizes, b_stack, b_roots, b_text, b_ends, b_tokenKinds, b_tokenSizes, b_letters, b_begins, b_closes, b_empties, b_nexts, b_sets, b_leads, b_classes, b_newClasses, b_lefts, b_rights, b_counts, b_making, b_firstSets, b_followSets, b_states, b_looks, b_wides, b_work, b_met, b_tasks, b_held, b_uses, b_reach) := by
  delta wpY_reads
  refine yw_isSentence hg hG hl hN hm hn ht hR (fun r u sc wc fs fo st ls wi wo e c K S M a1 a2 a3 => ?_) (fun r u sc wc fs fo st ls wi wo e c K S M hr hU hc hrd hcw hD hM => ?_)
  · exact ⟨nb_0, h _ _ _ _ _ _ _ _ _ _ _ _ _ _ _ _ _ _ _ _ _ _ (Or.inr ⟨an_no a1 a2.1 a3, rfl⟩)⟩
  · exact ⟨nb_1, h _ _ _ _ _ _ _ _ _ _ _ _ _ _ _ _ _ _ _ _ _ _ (Or.inl ⟨⟨r, c, hr, hc.1, hrd, hcw, hD⟩, rfl⟩)⟩
theorem yw_stopsAt (hg : rg_ok g) (hG : xg_G g b_lefts b_rights b_counts) (hl : ∀ r, r < 9 → ∃ v, v < 7 ∧ b_lefts r = nI v) {m n : Nat} {ga : Nat → gk_T} {lo op fi se : Nat → Nat} {t : Nat → Nat} {kd : Nat → gk_T} (hN : yn_N m ga lo op fi se b_ops b_firsts b_seconds b_sizes) (hm : m ≤ 60) (hn : n ≤ 24) (ht : ∀ i, i < n → b_text i = nI (t i) ∧ t i < 3) (hR : yn_R m ga b_roots kd) {post : Int32 → SY → Prop}
    (h : ∀ r tc wr u sc wc uc rs e K S fs fo st ls wi wo M T H Us R, an_stops g kd t n r → post r ((nI m), h_depth, (nI n), tc, wr, h_letterCount, (nI (rg_n g)), h_makingCount, u, sc, wc, uc, rs, b_ops, b_firsts, b_seconds, b_sizes, b_stack, b_roots, b_text, e, K, S, b_letters, b_begins, b_closes, b_empties, b_nexts, b_sets, b_leads, b_classes, b_newClasses, b_lefts, b_rights, b_counts, b_making, fs, fo, st, ls, wi, wo, M, T, H, Us, R)) : wpY_stopsAt post ((nI m), h_depth, (nI n), h_tokenCount, h_wrong, h_letterCount, (nI (rg_n g)), h_makingCount, h_usefulRules, h_stateCount, h_wideCount, h_useCount, h_result, b_ops, b_firsts, b_seconds, b_sizes, b_stack, b_roots, b_text, b_ends, b_tokenKinds, b_tokenSizes, b_letters, b_begins, b_closes, b_empties, b_nexts, b_sets, b_leads, b_classes, b_newClasses, b_lefts, b_rights, b_counts, b_making, b_firstSets, b_followSets, b_states, b_looks, b_wides, b_work, b_met, b_tasks, b_held, b_uses, b_reach) := by
  delta wpY_stopsAt
  refine yw_prepare hg hG hl hN hm hn ht hR (fun r u sc wc fs fo st ls wi wo e c K S hr hU hc => ?_)
  refine ⟨fun z => br_f (by decide) ?_, fun z => br_t rfl (h _ _ _ _ _ _ _ _ _ _ _ _ _ _ _ _ _ _ _ _ _ _ (Or.inr ⟨r, hr, z, rfl⟩))⟩
  obtain ⟨c24, hw, _, hX⟩ := tk_ok hn hc
  refine yw_meet (b_tokenKinds := K) hg hG hU c24 hw (fun n' M n1 n2 n3 hM => ?_)
  exact h _ _ _ _ _ _ _ _ _ _ _ _ _ _ _ _ _ _ _ _ _ _ (Or.inl ⟨r, c, n', hr, hc.1, z, ⟨n1, n2, n3⟩, rfl⟩)
theorem yw_uses (hg : rg_ok g) (hG : xg_G g b_lefts b_rights b_counts) (hl : ∀ r, r < 9 → ∃ v, v < 7 ∧ b_lefts r = nI v) {m n : Nat} {ga : Nat → gk_T} {lo op fi se : Nat → Nat} {t : Nat → Nat} {kd : Nat → gk_T} (hN : yn_N m ga lo op fi se b_ops b_firsts b_seconds b_sizes) (hm : m ≤ 60) (hn : n ≤ 24) (ht : ∀ i, i < n → b_text i = nI (t i) ∧ t i < 3) (hR : yn_R m ga b_roots kd) {post : Int32 → SY → Prop}
    (h : ∀ r tc wr u sc wc uc rs e K S fs fo st ls wi wo M T H Us R, an_uses g kd t n r → post r ((nI m), h_depth, (nI n), tc, wr, h_letterCount, (nI (rg_n g)), h_makingCount, u, sc, wc, uc, rs, b_ops, b_firsts, b_seconds, b_sizes, b_stack, b_roots, b_text, e, K, S, b_letters, b_begins, b_closes, b_empties, b_nexts, b_sets, b_leads, b_classes, b_newClasses, b_lefts, b_rights, b_counts, b_making, fs, fo, st, ls, wi, wo, M, T, H, Us, R)) : wpY_uses post ((nI m), h_depth, (nI n), h_tokenCount, h_wrong, h_letterCount, (nI (rg_n g)), h_makingCount, h_usefulRules, h_stateCount, h_wideCount, h_useCount, h_result, b_ops, b_firsts, b_seconds, b_sizes, b_stack, b_roots, b_text, b_ends, b_tokenKinds, b_tokenSizes, b_letters, b_begins, b_closes, b_empties, b_nexts, b_sets, b_leads, b_classes, b_newClasses, b_lefts, b_rights, b_counts, b_making, b_firstSets, b_followSets, b_states, b_looks, b_wides, b_work, b_met, b_tasks, b_held, b_uses, b_reach) := by
  delta wpY_uses
  refine yw_build hg hG hl hN hm hn ht hR (fun r u sc wc fs fo st ls wi wo e c K S M a1 a2 a3 => ?_) (fun r u sc wc fs fo st ls wi wo e c K S M T H Us R d v hr hc hrd hcw hv hlen hu => ?_)
  · exact br_t rfl (h _ _ _ _ _ _ _ _ _ _ _ _ _ _ _ _ _ _ _ _ _ _ (Or.inr ⟨an_no a1 a2.1 a3, rfl⟩))
  · exact br_f (by decide) (h _ _ _ _ _ _ _ _ _ _ _ _ _ _ _ _ _ _ _ _ _ _ (Or.inl ⟨v, ⟨r, c, d, hr, hc.1, hrd, hcw, hv⟩, rfl⟩))
theorem yw_value (hg : rg_ok g) (hG : xg_G g b_lefts b_rights b_counts) (hl : ∀ r, r < 9 → ∃ v, v < 7 ∧ b_lefts r = nI v) {m n : Nat} {ga : Nat → gk_T} {lo op fi se : Nat → Nat} {t : Nat → Nat} {kd : Nat → gk_T} (hN : yn_N m ga lo op fi se b_ops b_firsts b_seconds b_sizes) (hm : m ≤ 60) (hn : n ≤ 24) (ht : ∀ i, i < n → b_text i = nI (t i) ∧ t i < 3) (hR : yn_R m ga b_roots kd) {post : Int32 → SY → Prop}
    (h : ∀ r tc wr u sc wc uc rs e K S fs fo st ls wi wo M T H Us R, an_value g kd t n r → post r ((nI m), h_depth, (nI n), tc, wr, h_letterCount, (nI (rg_n g)), h_makingCount, u, sc, wc, uc, rs, b_ops, b_firsts, b_seconds, b_sizes, b_stack, b_roots, b_text, e, K, S, b_letters, b_begins, b_closes, b_empties, b_nexts, b_sets, b_leads, b_classes, b_newClasses, b_lefts, b_rights, b_counts, b_making, fs, fo, st, ls, wi, wo, M, T, H, Us, R)) : wpY_value post ((nI m), h_depth, (nI n), h_tokenCount, h_wrong, h_letterCount, (nI (rg_n g)), h_makingCount, h_usefulRules, h_stateCount, h_wideCount, h_useCount, h_result, b_ops, b_firsts, b_seconds, b_sizes, b_stack, b_roots, b_text, b_ends, b_tokenKinds, b_tokenSizes, b_letters, b_begins, b_closes, b_empties, b_nexts, b_sets, b_leads, b_classes, b_newClasses, b_lefts, b_rights, b_counts, b_making, b_firstSets, b_followSets, b_states, b_looks, b_wides, b_work, b_met, b_tasks, b_held, b_uses, b_reach) := by
  delta wpY_value
  refine yw_build hg hG hl hN hm hn ht hR (fun r u sc wc fs fo st ls wi wo e c K S M a1 a2 a3 => ?_) (fun r u sc wc fs fo st ls wi wo e c K S M T H Us R d v hr hc hrd hcw hv hlen hu => ?_)
  · exact br_t rfl (h _ _ _ _ _ _ _ _ _ _ _ _ _ _ _ _ _ _ _ _ _ _ (Or.inr ⟨an_no a1 a2.1 a3, rfl⟩))
  · exact br_f (by decide) (h _ _ _ _ _ _ _ _ _ _ _ _ _ _ _ _ _ _ _ _ _ _ (Or.inl ⟨v, ⟨r, c, d, hr, hc.1, hrd, hcw, hv⟩, rfl⟩))
theorem yw_used (hg : rg_ok g) (hG : xg_G g b_lefts b_rights b_counts) (hl : ∀ r, r < 9 → ∃ v, v < 7 ∧ b_lefts r = nI v) {m n : Nat} {ga : Nat → gk_T} {lo op fi se : Nat → Nat} {t : Nat → Nat} {kd : Nat → gk_T} (hN : yn_N m ga lo op fi se b_ops b_firsts b_seconds b_sizes) (hm : m ≤ 60) (hn : n ≤ 24) (ht : ∀ i, i < n → b_text i = nI (t i) ∧ t i < 3) (hR : yn_R m ga b_roots kd) {post : Int32 → SY → Prop} {p : Int32}
    (h : ∀ r tc wr u sc wc uc rs e K S fs fo st ls wi wo M T H Us R, an_used g kd t n p r → post r ((nI m), h_depth, (nI n), tc, wr, h_letterCount, (nI (rg_n g)), h_makingCount, u, sc, wc, uc, rs, b_ops, b_firsts, b_seconds, b_sizes, b_stack, b_roots, b_text, e, K, S, b_letters, b_begins, b_closes, b_empties, b_nexts, b_sets, b_leads, b_classes, b_newClasses, b_lefts, b_rights, b_counts, b_making, fs, fo, st, ls, wi, wo, M, T, H, Us, R)) : wpY_used post ((nI m), h_depth, (nI n), h_tokenCount, h_wrong, h_letterCount, (nI (rg_n g)), h_makingCount, h_usefulRules, h_stateCount, h_wideCount, h_useCount, h_result, b_ops, b_firsts, b_seconds, b_sizes, b_stack, b_roots, b_text, b_ends, b_tokenKinds, b_tokenSizes, b_letters, b_begins, b_closes, b_empties, b_nexts, b_sets, b_leads, b_classes, b_newClasses, b_lefts, b_rights, b_counts, b_making, b_firstSets, b_followSets, b_states, b_looks, b_wides, b_work, b_met, b_tasks, b_held, b_uses, b_reach) p := by
  delta wpY_used
  refine yw_build hg hG hl hN hm hn ht hR (fun r u sc wc fs fo st ls wi wo e c K S M a1 a2 a3 => ?_) (fun r u sc wc fs fo st ls wi wo e c K S M T H Us R d v hr hc hrd hcw hv hlen hu => ?_)
  · exact br_t rfl (h _ _ _ _ _ _ _ _ _ _ _ _ _ _ _ _ _ _ _ _ _ _ (Or.inr ⟨an_no a1 a2.1 a3, rfl⟩))
  · have T : an_T g kd t n v := ⟨r, c, d, hr, hc.1, hrd, hcw, hv⟩
    refine br_f (by decide) (br_c (fun z => ?_) (fun z => br_c (fun y => ?_) (fun y => br_c (fun x => ?_) (fun x => ?_))))
    · exact h _ _ _ _ _ _ _ _ _ _ _ _ _ _ _ _ _ _ _ _ _ _ (Or.inl ⟨v, T, Or.inl ⟨Or.inl z, rfl⟩⟩)
    · exact h _ _ _ _ _ _ _ _ _ _ _ _ _ _ _ _ _ _ _ _ _ _ (Or.inl ⟨v, T, Or.inl ⟨Or.inr (Or.inl y), rfl⟩⟩)
    · exact h _ _ _ _ _ _ _ _ _ _ _ _ _ _ _ _ _ _ _ _ _ _ (Or.inl ⟨v, T, Or.inl ⟨Or.inr (Or.inr x), rfl⟩⟩)
    · obtain ⟨q1, q2⟩ := an_ui hlen hu z y x
      exact ⟨q1, h _ _ _ _ _ _ _ _ _ _ _ _ _ _ _ _ _ _ _ _ _ _ (Or.inl ⟨v, T, q2⟩)⟩
end
end
section
/-! the component reads: a rule out of a set, a symbol onto the stack, a rule used -/
variable {f_depth f_made f_textLength f_tokenCount f_wrongPlace f_ruleCount f_prepared f_rulesInUse f_stateCount f_wideCount f_gradeFound f_readHeight f_tokensTaken f_usedCount : Int32} {a_spotCounts a_ends a_arrows a_takers a_groups a_marks a_text a_tokenKinds a_tokenLengths a_lefts a_rights a_rightSizes a_beginSets a_followSets a_stateSteps a_wideSteps a_readStates a_readValues a_usedRules : Nat → Int32} {a_nextItems a_openItems a_restItems a_stateItems a_stateLooks a_wideLooks : Nat → Int64}
section
variable {g : rg_T}
theorem xw_ruleOf {S : Int64} (hS : ∃ k, bl S k = true) (hb : ∀ k, bl S k = true → k < 47) {post : Int32 → Prop} (h : ∀ k, bl S k = true → post (nI (k / 5))) : wpX_ruleOf post (f_depth, f_made, f_textLength, f_tokenCount, f_wrongPlace, f_ruleCount, f_prepared, f_rulesInUse, f_stateCount, f_wideCount, f_gradeFound, f_readHeight, f_tokensTaken, f_usedCount, a_spotCounts, a_ends, a_arrows, a_takers, a_groups, a_marks, a_text, a_tokenKinds, a_tokenLengths, a_lefts, a_rights, a_rightSizes, a_beginSets, a_followSets, a_nextItems, a_openItems, a_restItems, a_stateItems, a_stateSteps, a_stateLooks, a_wideSteps, a_wideLooks, a_readStates, a_readValues, a_usedRules) S := by
  refine loop_0 (fun f i (_ : Unit) => wX_ruleOf_2 post S f_depth f_made f_textLength f_tokenCount f_wrongPlace f_ruleCount f_prepared f_rulesInUse f_stateCount f_wideCount f_gradeFound f_readHeight f_tokensTaken f_usedCount a_spotCounts a_ends a_arrows a_takers a_groups a_marks a_text a_tokenKinds a_tokenLengths a_lefts a_rights a_rightSizes a_beginSets a_followSets a_nextItems a_openItems a_restItems a_stateItems a_stateSteps a_stateLooks a_wideSteps a_wideLooks a_readStates a_readValues a_usedRules f (nI i)) (fun i _ => ∀ k, k < i → ¬ bl S k = true) 45 () (fun k q => absurd q (Nat.not_lt_zero _)) ?_ ?_
  · intro f _ hno
    refine br_t (nI_le (Nat.le_refl 45) (by decide)) ⟨by decide, ?_⟩
    obtain ⟨k, hk⟩ := hS
    have k1 : ¬ k < 45 := fun z => hno k z hk
    have k2 := hb k hk
    have := h k hk
    rw [show k / 5 = 9 by omega] at this
    rw [show nI 45 / 5 = nI 9 by decide]
    exact this
  · intro f i _ hi hno hk
    refine br_f (nI_ge hi (by decide)) (br_c (fun z => nm_r (nI_1 i) (hk () fun k hk' => ?_)) (fun z => ⟨by decide, ?_⟩))
    · by_cases e : k = i
      · subst e
        rw [(bl_test0 S (by omega)).mp z]
        exact fun q => by cases q
      · exact hno k (by omega)
    · have b : bl S i = true := by
        rw [bl_test0 S (by omega)] at z
        revert z
        cases bl S i <;> intro z
        · exact absurd rfl z
        · rfl
      rw [show nI i / 5 = nI (i / 5) from pk_div (d := 5) (by omega) (by decide) (by decide)]
      exact h i b
theorem xw_push_wideSteps {q x hh n : Nat} (h8 : hh < 2048) (hq : a_readStates hh = nI q) (hqn : q < n) (hn : n * 7 ≤ 560) (hx : x < 7) {v : Int32} {post : Int32 → SX → Prop} (h0 : a_wideSteps (q * 7 + x) = -1 ∨ 2048 ≤ hh + 1 → post 0 (f_depth, f_made, f_textLength, f_tokenCount, f_wrongPlace, f_ruleCount, f_prepared, f_rulesInUse, f_stateCount, f_wideCount, f_gradeFound, (nI hh), f_tokensTaken, f_usedCount, a_spotCounts, a_ends, a_arrows, a_takers, a_groups, a_marks, a_text, a_tokenKinds, a_tokenLengths, a_lefts, a_rights, a_rightSizes, a_beginSets, a_followSets, a_nextItems, a_openItems, a_restItems, a_stateItems, a_stateSteps, a_stateLooks, a_wideSteps, a_wideLooks, a_readStates, a_readValues, a_usedRules))
    (h1 : a_wideSteps (q * 7 + x) ≠ -1 → hh + 1 < 2048 → post 1 (f_depth, f_made, f_textLength, f_tokenCount, f_wrongPlace, f_ruleCount, f_prepared, f_rulesInUse, f_stateCount, f_wideCount, f_gradeFound, (nI (hh + 1)), f_tokensTaken, f_usedCount, a_spotCounts, a_ends, a_arrows, a_takers, a_groups, a_marks, a_text, a_tokenKinds, a_tokenLengths, a_lefts, a_rights, a_rightSizes, a_beginSets, a_followSets, a_nextItems, a_openItems, a_restItems, a_stateItems, a_stateSteps, a_stateLooks, a_wideSteps, a_wideLooks, (upd a_readStates (hh + 1) (a_wideSteps (q * 7 + x))), (upd a_readValues (hh + 1) v), a_usedRules)) : wpX_pushSymbol__wideSteps post (f_depth, f_made, f_textLength, f_tokenCount, f_wrongPlace, f_ruleCount, f_prepared, f_rulesInUse, f_stateCount, f_wideCount, f_gradeFound, (nI hh), f_tokensTaken, f_usedCount, a_spotCounts, a_ends, a_arrows, a_takers, a_groups, a_marks, a_text, a_tokenKinds, a_tokenLengths, a_lefts, a_rights, a_rightSizes, a_beginSets, a_followSets, a_nextItems, a_openItems, a_restItems, a_stateItems, a_stateSteps, a_stateLooks, a_wideSteps, a_wideLooks, a_readStates, a_readValues, a_usedRules) (nI x) v := by
  refine ⟨vp_in_nI h8 (by decide), ?_⟩
  rw [nI_clamp (by omega : hh < 2 ^ 31), hq]
  refine ⟨pk_in (q * 7 + x) 560 (by omega) (ix_7 q x), nm_r (e' := a_wideSteps (q * 7 + x)) (by rw [pk_cl (q * 7 + x) (ix_7 q x)]) (br_c (fun z => h0 (Or.inl z)) (fun z => ?_))⟩
  rw [nI_1]
  refine pk_lt (hh + 1) 2048 (fun y => nm_e ⟨vp_in_nI y (by decide), nm_r (e' := upd a_readStates (hh + 1) (a_wideSteps (q * 7 + x))) (by rw [nI_clamp (by omega)]) ⟨vp_in_nI y (by decide), nm_r (e' := upd a_readValues (hh + 1) v) (by rw [nI_clamp (by omega)]) (h1 z y)⟩⟩) (fun y => h0 (Or.inr y))
theorem xw_push_stateSteps {q x hh n : Nat} (h8 : hh < 2048) (hq : a_readStates hh = nI q) (hqn : q < n) (hn : n * 7 ≤ 420) (hx : x < 7) {v : Int32} {post : Int32 → SX → Prop} (h0 : a_stateSteps (q * 7 + x) = -1 ∨ 2048 ≤ hh + 1 → post 0 (f_depth, f_made, f_textLength, f_tokenCount, f_wrongPlace, f_ruleCount, f_prepared, f_rulesInUse, f_stateCount, f_wideCount, f_gradeFound, (nI hh), f_tokensTaken, f_usedCount, a_spotCounts, a_ends, a_arrows, a_takers, a_groups, a_marks, a_text, a_tokenKinds, a_tokenLengths, a_lefts, a_rights, a_rightSizes, a_beginSets, a_followSets, a_nextItems, a_openItems, a_restItems, a_stateItems, a_stateSteps, a_stateLooks, a_wideSteps, a_wideLooks, a_readStates, a_readValues, a_usedRules))
    (h1 : a_stateSteps (q * 7 + x) ≠ -1 → hh + 1 < 2048 → post 1 (f_depth, f_made, f_textLength, f_tokenCount, f_wrongPlace, f_ruleCount, f_prepared, f_rulesInUse, f_stateCount, f_wideCount, f_gradeFound, (nI (hh + 1)), f_tokensTaken, f_usedCount, a_spotCounts, a_ends, a_arrows, a_takers, a_groups, a_marks, a_text, a_tokenKinds, a_tokenLengths, a_lefts, a_rights, a_rightSizes, a_beginSets, a_followSets, a_nextItems, a_openItems, a_restItems, a_stateItems, a_stateSteps, a_stateLooks, a_wideSteps, a_wideLooks, (upd a_readStates (hh + 1) (a_stateSteps (q * 7 + x))), (upd a_readValues (hh + 1) v), a_usedRules)) : wpX_pushSymbol__stateSteps post (f_depth, f_made, f_textLength, f_tokenCount, f_wrongPlace, f_ruleCount, f_prepared, f_rulesInUse, f_stateCount, f_wideCount, f_gradeFound, (nI hh), f_tokensTaken, f_usedCount, a_spotCounts, a_ends, a_arrows, a_takers, a_groups, a_marks, a_text, a_tokenKinds, a_tokenLengths, a_lefts, a_rights, a_rightSizes, a_beginSets, a_followSets, a_nextItems, a_openItems, a_restItems, a_stateItems, a_stateSteps, a_stateLooks, a_wideSteps, a_wideLooks, a_readStates, a_readValues, a_usedRules) (nI x) v := by
  refine ⟨vp_in_nI h8 (by decide), ?_⟩
  rw [nI_clamp (by omega : hh < 2 ^ 31), hq]
  refine ⟨pk_in (q * 7 + x) 420 (by omega) (ix_7 q x), nm_r (e' := a_stateSteps (q * 7 + x)) (by rw [pk_cl (q * 7 + x) (ix_7 q x)]) (br_c (fun z => h0 (Or.inl z)) (fun z => ?_))⟩
  rw [nI_1]
  refine pk_lt (hh + 1) 2048 (fun y => nm_e ⟨vp_in_nI y (by decide), nm_r (e' := upd a_readStates (hh + 1) (a_stateSteps (q * 7 + x))) (by rw [nI_clamp (by omega)]) ⟨vp_in_nI y (by decide), nm_r (e' := upd a_readValues (hh + 1) v) (by rw [nI_clamp (by omega)]) (h1 z y)⟩⟩) (fun y => h0 (Or.inr y))
theorem xw_use_wideSteps {r c l q hh n : Nat} {fs : Nat → vt_T} (hr : r < 11) (hc : a_rightSizes r = nI c) (hl : a_lefts r = nI l) (c4 : c ≤ 4) (l7 : l < 7) (h8 : hh < 2048) (hch : c ≤ hh) (hV : ∀ k, k < c → a_readValues (hh - c + (k + 1)) = (fs k).2.1) (hq : a_readStates (hh - c) = nI q) (hqn : q < n) (hn : n * 7 ≤ 560) {L : List Nat} (hL : L.length < 2 ^ 30) (hu : yb_us L a_usedRules) {post : Int32 → SX → Prop}
    (h0 : a_wideSteps (q * 7 + l) = -1 ∨ 2048 ≤ hh - c + 1 → ∀ Us, post 0 (f_depth, f_made, f_textLength, f_tokenCount, f_wrongPlace, f_ruleCount, f_prepared, f_rulesInUse, f_stateCount, f_wideCount, f_gradeFound, (nI (hh - c)), f_tokensTaken, (nI (L ++ [r]).length), a_spotCounts, a_ends, a_arrows, a_takers, a_groups, a_marks, a_text, a_tokenKinds, a_tokenLengths, a_lefts, a_rights, a_rightSizes, a_beginSets, a_followSets, a_nextItems, a_openItems, a_restItems, a_stateItems, a_stateSteps, a_stateLooks, a_wideSteps, a_wideLooks, a_readStates, a_readValues, Us))
    (h1 : a_wideSteps (q * 7 + l) ≠ -1 → hh - c + 1 < 2048 → ∀ Us, yb_us (L ++ [r]) Us → post 1 (f_depth, f_made, f_textLength, f_tokenCount, f_wrongPlace, f_ruleCount, f_prepared, f_rulesInUse, f_stateCount, f_wideCount, f_gradeFound, (nI (hh - c + 1)), f_tokensTaken, (nI (L ++ [r]).length), a_spotCounts, a_ends, a_arrows, a_takers, a_groups, a_marks, a_text, a_tokenKinds, a_tokenLengths, a_lefts, a_rights, a_rightSizes, a_beginSets, a_followSets, a_nextItems, a_openItems, a_restItems, a_stateItems, a_stateSteps, a_stateLooks, a_wideSteps, a_wideLooks, (upd a_readStates (hh - c + 1) (a_wideSteps (q * 7 + l))), (upd a_readValues (hh - c + 1) (vt_vl r (vt_li fs c))), Us)) :
    wpX_useRule__wideSteps post (f_depth, f_made, f_textLength, f_tokenCount, f_wrongPlace, f_ruleCount, f_prepared, f_rulesInUse, f_stateCount, f_wideCount, f_gradeFound, (nI hh), f_tokensTaken, (nI L.length), a_spotCounts, a_ends, a_arrows, a_takers, a_groups, a_marks, a_text, a_tokenKinds, a_tokenLengths, a_lefts, a_rights, a_rightSizes, a_beginSets, a_followSets, a_nextItems, a_openItems, a_restItems, a_stateItems, a_stateSteps, a_stateLooks, a_wideSteps, a_wideLooks, a_readStates, a_readValues, a_usedRules) (nI r) := by
  have ir : vp_in (nI r) 11 := vp_in_nI hr (by decide)
  have cr : (nI r).toNatClampNeg = r := nI_clamp (by omega)
  have el : (L ++ [r]).length = L.length + 1 := by rw [List.length_append]; rfl
  rw [el] at h0 h1
  have fin : ∀ Us, yb_us (L ++ [r]) Us → wX_useRule__wideSteps_85 post (nI r) (vt_vl r (vt_li fs c)) f_depth f_made f_textLength f_tokenCount f_wrongPlace f_ruleCount f_prepared f_rulesInUse f_stateCount f_wideCount f_gradeFound (nI (hh - c)) f_tokensTaken (nI L.length) a_spotCounts a_ends a_arrows a_takers a_groups a_marks a_text a_tokenKinds a_tokenLengths a_lefts a_rights a_rightSizes a_beginSets a_followSets a_nextItems a_openItems a_restItems a_stateItems a_stateSteps a_stateLooks a_wideSteps a_wideLooks a_readStates a_readValues Us := by
    intro Us hUs
    refine nm_r (nI_1 _) ⟨ir, ?_⟩
    rw [cr, hl]
    refine xw_push_wideSteps (a_usedRules := Us) (f_usedCount := nI (L.length + 1)) (by omega) hq hqn hn l7 (fun z => ?_) (fun z y => ?_)
    · exact ⟨nb_0, h0 z Us⟩
    · exact ⟨nb_1, h1 z y Us hUs⟩
  refine ⟨ir, nm_r (e' := nI (hh - c)) (by rw [cr, hc, pk_sub hch]) (br_t (nI_le (a := 0) (Nat.zero_le _) (by omega)) (nm_e ?_))⟩
  refine loop_0 (fun f k x => wX_useRule__wideSteps_26 post (nI r) (nI (hh - c)) f_depth f_made f_textLength f_tokenCount f_wrongPlace f_ruleCount f_prepared f_rulesInUse f_stateCount f_wideCount f_gradeFound (nI hh) f_tokensTaken (nI L.length) a_spotCounts a_ends a_arrows a_takers a_groups a_marks a_text a_tokenKinds a_tokenLengths a_lefts a_rights a_rightSizes a_beginSets a_followSets a_nextItems a_openItems a_restItems a_stateItems a_stateSteps a_stateLooks a_wideSteps a_wideLooks a_readStates a_readValues a_usedRules f x (nI (k + 1))) (fun k x => x = vt_vl r (vt_li fs k)) c (nI r + 1) rfl ?_ ?_
  · rintro f x rfl
    refine ⟨ir, ?_⟩
    rw [cr, hc]
    refine br_t (nI_lt (by omega) (by omega)) (pk_le 200 L.length (fun z => fin _ ((yb_u1 hu).1 z)) (fun z => ⟨vp_in_nI z (by decide), nm_r (e' := upd a_usedRules L.length (nI r)) (by rw [nI_clamp (by omega)]) (fin _ (yb_u1 hu).2)⟩))
  · rintro f k x hk rfl hk1
    refine ⟨ir, ?_⟩
    rw [cr, hc]
    refine br_f (nI_nlt (by omega) (by omega)) ?_
    rw [nI_add (hh - c) (k + 1), nI_clamp (by omega : hh - c + (k + 1) < 2 ^ 31), hV k hk]
    refine ⟨vp_in_nI (by omega) (by decide), nm_e (nm_r (nI_1 (k + 1)) (hk1 _ ?_))⟩
    show _ = vt_vl r (vt_li fs k) + nI ((vt_li fs k).length + 1) * (fs k).2.1
    rw [vt_li_len]
theorem xw_use_stateSteps {r c l q hh n : Nat} {fs : Nat → vt_T} (hr : r < 11) (hc : a_rightSizes r = nI c) (hl : a_lefts r = nI l) (c4 : c ≤ 4) (l7 : l < 7) (h8 : hh < 2048) (hch : c ≤ hh) (hV : ∀ k, k < c → a_readValues (hh - c + (k + 1)) = (fs k).2.1) (hq : a_readStates (hh - c) = nI q) (hqn : q < n) (hn : n * 7 ≤ 420) {L : List Nat} (hL : L.length < 2 ^ 30) (hu : yb_us L a_usedRules) {post : Int32 → SX → Prop}
    (h0 : a_stateSteps (q * 7 + l) = -1 ∨ 2048 ≤ hh - c + 1 → ∀ Us, post 0 (f_depth, f_made, f_textLength, f_tokenCount, f_wrongPlace, f_ruleCount, f_prepared, f_rulesInUse, f_stateCount, f_wideCount, f_gradeFound, (nI (hh - c)), f_tokensTaken, (nI (L ++ [r]).length), a_spotCounts, a_ends, a_arrows, a_takers, a_groups, a_marks, a_text, a_tokenKinds, a_tokenLengths, a_lefts, a_rights, a_rightSizes, a_beginSets, a_followSets, a_nextItems, a_openItems, a_restItems, a_stateItems, a_stateSteps, a_stateLooks, a_wideSteps, a_wideLooks, a_readStates, a_readValues, Us))
    (h1 : a_stateSteps (q * 7 + l) ≠ -1 → hh - c + 1 < 2048 → ∀ Us, yb_us (L ++ [r]) Us → post 1 (f_depth, f_made, f_textLength, f_tokenCount, f_wrongPlace, f_ruleCount, f_prepared, f_rulesInUse, f_stateCount, f_wideCount, f_gradeFound, (nI (hh - c + 1)), f_tokensTaken, (nI (L ++ [r]).length), a_spotCounts, a_ends, a_arrows, a_takers, a_groups, a_marks, a_text, a_tokenKinds, a_tokenLengths, a_lefts, a_rights, a_rightSizes, a_beginSets, a_followSets, a_nextItems, a_openItems, a_restItems, a_stateItems, a_stateSteps, a_stateLooks, a_wideSteps, a_wideLooks, (upd a_readStates (hh - c + 1) (a_stateSteps (q * 7 + l))), (upd a_readValues (hh - c + 1) (vt_vl r (vt_li fs c))), Us)) :
    wpX_useRule__stateSteps post (f_depth, f_made, f_textLength, f_tokenCount, f_wrongPlace, f_ruleCount, f_prepared, f_rulesInUse, f_stateCount, f_wideCount, f_gradeFound, (nI hh), f_tokensTaken, (nI L.length), a_spotCounts, a_ends, a_arrows, a_takers, a_groups, a_marks, a_text, a_tokenKinds, a_tokenLengths, a_lefts, a_rights, a_rightSizes, a_beginSets, a_followSets, a_nextItems, a_openItems, a_restItems, a_stateItems, a_stateSteps, a_stateLooks, a_wideSteps, a_wideLooks, a_readStates, a_readValues, a_usedRules) (nI r) := by
  have ir : vp_in (nI r) 11 := vp_in_nI hr (by decide)
  have cr : (nI r).toNatClampNeg = r := nI_clamp (by omega)
  have el : (L ++ [r]).length = L.length + 1 := by rw [List.length_append]; rfl
  rw [el] at h0 h1
  have fin : ∀ Us, yb_us (L ++ [r]) Us → wX_useRule__stateSteps_85 post (nI r) (vt_vl r (vt_li fs c)) f_depth f_made f_textLength f_tokenCount f_wrongPlace f_ruleCount f_prepared f_rulesInUse f_stateCount f_wideCount f_gradeFound (nI (hh - c)) f_tokensTaken (nI L.length) a_spotCounts a_ends a_arrows a_takers a_groups a_marks a_text a_tokenKinds a_tokenLengths a_lefts a_rights a_rightSizes a_beginSets a_followSets a_nextItems a_openItems a_restItems a_stateItems a_stateSteps a_stateLooks a_wideSteps a_wideLooks a_readStates a_readValues Us := by
    intro Us hUs
    refine nm_r (nI_1 _) ⟨ir, ?_⟩
    rw [cr, hl]
    refine xw_push_stateSteps (a_usedRules := Us) (f_usedCount := nI (L.length + 1)) (by omega) hq hqn hn l7 (fun z => ?_) (fun z y => ?_)
    · exact ⟨nb_0, h0 z Us⟩
    · exact ⟨nb_1, h1 z y Us hUs⟩
  refine ⟨ir, nm_r (e' := nI (hh - c)) (by rw [cr, hc, pk_sub hch]) (br_t (nI_le (a := 0) (Nat.zero_le _) (by omega)) (nm_e ?_))⟩
  refine loop_0 (fun f k x => wX_useRule__stateSteps_26 post (nI r) (nI (hh - c)) f_depth f_made f_textLength f_tokenCount f_wrongPlace f_ruleCount f_prepared f_rulesInUse f_stateCount f_wideCount f_gradeFound (nI hh) f_tokensTaken (nI L.length) a_spotCounts a_ends a_arrows a_takers a_groups a_marks a_text a_tokenKinds a_tokenLengths a_lefts a_rights a_rightSizes a_beginSets a_followSets a_nextItems a_openItems a_restItems a_stateItems a_stateSteps a_stateLooks a_wideSteps a_wideLooks a_readStates a_readValues a_usedRules f x (nI (k + 1))) (fun k x => x = vt_vl r (vt_li fs k)) c (nI r + 1) rfl ?_ ?_
  · rintro f x rfl
    refine ⟨ir, ?_⟩
    rw [cr, hc]
    refine br_t (nI_lt (by omega) (by omega)) (pk_le 200 L.length (fun z => fin _ ((yb_u1 hu).1 z)) (fun z => ⟨vp_in_nI z (by decide), nm_r (e' := upd a_usedRules L.length (nI r)) (by rw [nI_clamp (by omega)]) (fin _ (yb_u1 hu).2)⟩))
  · rintro f k x hk rfl hk1
    refine ⟨ir, ?_⟩
    rw [cr, hc]
    refine br_f (nI_nlt (by omega) (by omega)) ?_
    rw [nI_add (hh - c) (k + 1), nI_clamp (by omega : hh - c + (k + 1) < 2 ^ 31), hV k hk]
    refine ⟨vp_in_nI (by omega) (by decide), nm_e (nm_r (nI_1 (k + 1)) (hk1 _ ?_))⟩
    show _ = vt_vl r (vt_li fs k) + nI ((vt_li fs k).length + 1) * (fs k).2.1
    rw [vt_li_len]
end
end
section
/-! one step of the component's reading -/
variable {f_depth f_made f_textLength f_tokenCount f_wrongPlace f_ruleCount f_prepared f_rulesInUse f_stateCount f_wideCount f_gradeFound f_readHeight f_tokensTaken f_usedCount : Int32} {a_spotCounts a_ends a_arrows a_takers a_groups a_marks a_text a_tokenKinds a_tokenLengths a_lefts a_rights a_rightSizes a_beginSets a_followSets a_stateSteps a_wideSteps a_readStates a_readValues a_usedRules : Nat → Int32} {a_nextItems a_openItems a_restItems a_stateItems a_stateLooks a_wideLooks : Nat → Int64}
section
variable {g : rg_T}
/-- the arrays hold the reader's tables -/
def xr_T (lk : lr_K) (nx : lr_N) (n : Nat) (looks : Nat → Int64) (steps : Nat → Int32) : Prop := 1 ≤ n ∧ (∀ q t k, q < n → t < 4 → (bl (looks (q * 4 + t)) k = true ↔ lk q (k / 5) (k % 5) t)) ∧ ∀ q x, q < n → x < 7 → (nx q x = none ∧ steps (q * 7 + x) = -1) ∨ ∃ q', q' < n ∧ nx q x = some q' ∧ steps (q * 7 + x) = nI q'
/-- the arrays hold the stack -/
def xr_S (n : Nat) : List (Nat × vt_T) → (Nat → Int32) → (Nat → Int32) → Prop
  | [] => fun _ _ => True
  | a :: rest => fun S V => a.1 < n ∧ S rest.length = nI a.1 ∧ (rest ≠ [] → V rest.length = a.2.2.1) ∧ xr_S n rest S V
theorem xr_Sk {n : Nat} {S V S' V' : Nat → Int32} : ∀ st : List (Nat × vt_T), (∀ k, k < st.length → S' k = S k ∧ V' k = V k) → xr_S n st S V → xr_S n st S' V' := by
  intro st
  induction st with
  | nil => intro _ _; trivial
  | cons a rest ih =>
    intro h z
    obtain ⟨z1, z2, z3, z4⟩ := z
    have hl := h rest.length (Nat.lt_succ_self _)
    exact ⟨z1, hl.1.trans z2, fun q => hl.2.trans (z3 q), ih (fun k hk => h k (Nat.lt_succ_of_lt hk)) z4⟩
theorem xr_Sp {n : Nat} {S V : Nat → Int32} {st : List (Nat × vt_T)} {q : Nat} {v : vt_T} (h : xr_S n st S V) (hq : q < n) (h0 : st ≠ []) : xr_S n ((q, v) :: st) (upd S st.length (nI q)) (upd V st.length v.2.1) :=
  ⟨hq, pk_us, fun _ => pk_us, xr_Sk st (fun k hk => ⟨pk_un (by omega), pk_un (by omega)⟩) h⟩
/-- below what is popped -/
theorem xr_Sb {n : Nat} {S V : Nat → Int32} {b : List (Nat × vt_T)} : ∀ pop : List (Nat × vt_T), xr_S n (pop ++ b) S V → xr_S n b S V := by
  intro pop
  induction pop with
  | nil => exact fun z => z
  | cons a rest ih => exact fun z => ih z.2.2.2
/-- the values that are popped, the first one first -/
def xr_f (pop : List (Nat × vt_T)) (k : Nat) : vt_T := ((pop.map Prod.snd).reverse[k]?).getD ([], 0, 0, 0)
theorem xr_fc {a : Nat × vt_T} {rest : List (Nat × vt_T)} {k : Nat} (h : k < rest.length) : xr_f (a :: rest) k = xr_f rest k := by
  unfold xr_f
  rw [List.map_cons, List.reverse_cons, List.getElem?_append_left (by rw [List.length_reverse, List.length_map]; exact h)]
theorem xr_f0 {a : Nat × vt_T} {rest : List (Nat × vt_T)} : xr_f (a :: rest) rest.length = a.2 := by
  unfold xr_f
  rw [List.map_cons, List.reverse_cons, List.getElem?_append_right (by rw [List.length_reverse, List.length_map]; exact Nat.le_refl _)]
  rw [List.length_reverse, List.length_map, Nat.sub_self]
  rfl
theorem vt_lic {V : Type} {f f' : Nat → V} : ∀ c, (∀ k, k < c → f k = f' k) → vt_li f c = vt_li f' c := by
  intro c
  induction c with
  | zero => intro _; rfl
  | succ c ih =>
    intro h
    show f c :: vt_li f c = f' c :: vt_li f' c
    rw [h c (by omega), ih (fun k hk => h k (by omega))]
theorem xr_fl : ∀ pop : List (Nat × vt_T), vt_li (xr_f pop) pop.length = pop.map Prod.snd := by
  intro pop
  induction pop with
  | nil => rfl
  | cons a rest ih =>
    show xr_f (a :: rest) rest.length :: vt_li (xr_f (a :: rest)) rest.length = a.2 :: rest.map Prod.snd
    rw [xr_f0, vt_lic rest.length (fun k hk => xr_fc hk), ih]
theorem xr_Sv {n : Nat} {S V : Nat → Int32} {b : List (Nat × vt_T)} (hb : b ≠ []) : ∀ pop : List (Nat × vt_T), xr_S n (pop ++ b) S V → ∀ k, k < pop.length → V (b.length + k) = (xr_f pop k).2.1 := by
  intro pop
  induction pop with
  | nil => intro _ k hk; exact absurd hk (Nat.not_lt_zero _)
  | cons a rest ih =>
    intro z k hk
    obtain ⟨z1, z2, z3, z4⟩ := z
    by_cases e : k = rest.length
    · subst e
      rw [xr_f0]
      have := z3 (by intro q; exact hb (List.append_eq_nil_iff.mp q).2)
      have this : V (rest ++ b).length = a.2.2.1 := this
      rw [List.length_append, Nat.add_comm] at this
      exact this
    · have hk : k < rest.length + 1 := hk
      rw [xr_fc (by omega)]
      exact ih z4 k (by omega)
theorem vt_usa : ∀ a b : List vt_T, vt_us (a ++ b) = vt_us b ++ vt_us a := by
  intro a
  induction a with
  | nil => intro b; exact (List.append_nil _).symm
  | cons x xs ih =>
    intro b
    show vt_us (xs ++ b) ++ x.1 = vt_us b ++ (vt_us xs ++ x.1)
    rw [ih b, List.append_assoc]
theorem nI_nm {k : Nat} (h : k < 2 ^ 31) : nI k ≠ -1 := fun e => by
  have h1 := nI_nlt (a := k) (b := 0) (Nat.zero_le _) h
  rw [e] at h1
  exact h1 (by decide)
theorem xw_step_wideLooks (hg : rg_ok g) (hG : xg_G g a_lefts a_rights a_rightSizes) {w : Nat → Nat} {c n : Nat} {lk : lr_K} {nx : lr_N} (hc : c ≤ 24) (hw : ∀ i, i < c → a_tokenKinds i = nI (w i) ∧ w i < 3) (hT : xr_T lk nx n a_wideLooks a_wideSteps) (hn4 : n * 4 ≤ 324) (hn7 : n * 7 ≤ 560) (h7 : ∀ k, bl (a_nextItems 7) k = true ↔ (xu_U g (k / 5) ∧ k / 5 < 10) ∧ k % 5 = rg_c g (k / 5))
    (hA : lr_A (tg_G g) (fi_F g) lk nx) (hB : lr_B (tg_G g) lk nx) (hU9 : ∀ q r p t, lk q r p t → us_U g r ∨ r = 9) {post : Int32 → SX → Prop} {f x3 pos q : Nat} {v : vt_T} {rest : List (Nat × vt_T)} {S V Us : Nat → Int32} (hinv : lr_inv (tg_G g) (w, c) (vt_A a_tokenLengths) nx ((q, v) :: rest, pos)) (hl : rest.length < 2048) (hS : xr_S n ((q, v) :: rest) S V) (hu : yb_us (vt_us (((q, v) :: rest).map Prod.snd)) Us) (hx3 : x3 ≤ 1000000) (hul : (vt_us (((q, v) :: rest).map Prod.snd)).length ≤ x3) (hpos : pos ≤ c)
    (hs : ∀ q' v' rest' pos' S' V' Us', x3 < 1000000 → lr_st (tg_G g) (w, c) (vt_A a_tokenLengths) lk nx ((q, v) :: rest, pos) ((q', v') :: rest', pos') → rest'.length < 2048 → xr_S n ((q', v') :: rest') S' V' → yb_us (vt_us (((q', v') :: rest').map Prod.snd)) Us' → (vt_us (((q', v') :: rest').map Prod.snd)).length ≤ x3 + 1 → wX_readTokens__wideLooks_wideSteps_24 post f (nI (x3 + 1)) f_depth f_made f_textLength (nI c) f_wrongPlace f_ruleCount f_prepared f_rulesInUse f_stateCount f_wideCount f_gradeFound (nI rest'.length) (nI pos') (nI (vt_us (((q', v') :: rest').map Prod.snd)).length) a_spotCounts a_ends a_arrows a_takers a_groups a_marks a_text a_tokenKinds a_tokenLengths a_lefts a_rights a_rightSizes a_beginSets a_followSets a_nextItems a_openItems a_restItems a_stateItems a_stateSteps a_stateLooks a_wideSteps a_wideLooks S' V' Us')
    (ha : lr_acc (tg_G g) (w, c) lk ((q, v) :: rest, pos) → post 1 (f_depth, f_made, f_textLength, (nI c), f_wrongPlace, f_ruleCount, f_prepared, f_rulesInUse, f_stateCount, f_wideCount, f_gradeFound, (nI rest.length), (nI pos), (nI (vt_us (((q, v) :: rest).map Prod.snd)).length), a_spotCounts, a_ends, a_arrows, a_takers, a_groups, a_marks, a_text, a_tokenKinds, a_tokenLengths, a_lefts, a_rights, a_rightSizes, a_beginSets, a_followSets, a_nextItems, a_openItems, a_restItems, a_stateItems, a_stateSteps, a_stateLooks, a_wideSteps, a_wideLooks, S, V, Us))
    (h0 : (x3 = 1000000 ∨ ((∀ q' v' rest' pos', lr_st (tg_G g) (w, c) (vt_A a_tokenLengths) lk nx ((q, v) :: rest, pos) ((q', v') :: rest', pos') → ¬ rest'.length < 2048) ∧ ¬ lr_acc (tg_G g) (w, c) lk ((q, v) :: rest, pos))) → ∀ rh uc S' V' Us', post 0 (f_depth, f_made, f_textLength, (nI c), f_wrongPlace, f_ruleCount, f_prepared, f_rulesInUse, f_stateCount, f_wideCount, f_gradeFound, rh, (nI pos), uc, a_spotCounts, a_ends, a_arrows, a_takers, a_groups, a_marks, a_text, a_tokenKinds, a_tokenLengths, a_lefts, a_rights, a_rightSizes, a_beginSets, a_followSets, a_nextItems, a_openItems, a_restItems, a_stateItems, a_stateSteps, a_stateLooks, a_wideSteps, a_wideLooks, S', V', Us')) :
    wX_readTokens__wideLooks_wideSteps_24 post (f + 1) (nI x3) f_depth f_made f_textLength (nI c) f_wrongPlace f_ruleCount f_prepared f_rulesInUse f_stateCount f_wideCount f_gradeFound (nI rest.length) (nI pos) (nI (vt_us (((q, v) :: rest).map Prod.snd)).length) a_spotCounts a_ends a_arrows a_takers a_groups a_marks a_text a_tokenKinds a_tokenLengths a_lefts a_rights a_rightSizes a_beginSets a_followSets a_nextItems a_openItems a_restItems a_stateItems a_stateSteps a_stateLooks a_wideSteps a_wideLooks S V Us := by
  have hX : tx_ok (w, c) := fun i hi => (hw i hi).2
  obtain ⟨n1, hlk, hnx⟩ := hT
  have qn : q < n := hS.1
  have Sq : S rest.length = nI q := hS.2.1
  have core : x3 < 1000000 → ∀ t, t = tx_k (w, c) pos → wX_readTokens__wideLooks_wideSteps_55 post (wX_readTokens__wideLooks_wideSteps_24 post f) (nI x3) (nI t) f_depth f_made f_textLength (nI c) f_wrongPlace f_ruleCount f_prepared f_rulesInUse f_stateCount f_wideCount f_gradeFound (nI rest.length) (nI pos) (nI (vt_us (((q, v) :: rest).map Prod.snd)).length) a_spotCounts a_ends a_arrows a_takers a_groups a_marks a_text a_tokenKinds a_tokenLengths a_lefts a_rights a_rightSizes a_beginSets a_followSets a_nextItems a_openItems a_restItems a_stateItems a_stateSteps a_stateLooks a_wideSteps a_wideLooks S V Us := by
    intro x3lt t ht
    have tp : (pos < c ∧ t = w pos ∧ t < 3) ∨ (¬ pos < c ∧ t = 3) := by
      by_cases z : pos < c
      · have e : tx_k (w, c) pos = w pos := if_pos z
        rw [e] at ht
        exact Or.inl ⟨z, ht, by rw [ht]; exact (hw pos z).2⟩
      · have e : tx_k (w, c) pos = 3 := if_neg z
        rw [e] at ht
        exact Or.inr ⟨z, ht⟩
    have t4 : t < 4 := by omega
    refine ⟨vp_in_nI hl (by decide), ?_⟩
    rw [nI_clamp (by omega : rest.length < 2 ^ 31), Sq]
    refine ⟨pk_in (q * 4 + t) 324 (by omega) (ix_4 q t), nm_r (e' := a_wideLooks (q * 4 + t) &&& a_nextItems 7) (by rw [pk_cl (q * 4 + t) (ix_4 q t)]) ?_⟩
    have bits : ∀ k, bl (a_wideLooks (q * 4 + t) &&& a_nextItems 7) k = true ↔ lk q (k / 5) (k % 5) t ∧ (xu_U g (k / 5) ∧ k / 5 < 10) ∧ k % 5 = rg_c g (k / 5) := fun k => by rw [bl_and, Bool.and_eq_true, hlk q t k qn t4, h7 k]
    generalize a_wideLooks (q * 4 + t) &&& a_nextItems 7 = Z at bits ⊢
    have c4 : ∀ r, us_U g r ∨ r = 9 → rg_c g r ≤ 4 ∧ r < 10 := fun r hr => by
      have := rg_b hg (hr.imp (fun z => z.1) id)
      exact ⟨this.2.2.2.1, this.1⟩
    have cmp : ∀ r, lk q r (rg_c g r) t → bl Z (5 * r + rg_c g r) = true := fun r hr => by
      have u := hU9 _ _ _ _ hr
      obtain ⟨u1, u2⟩ := c4 r u
      rw [bits, show (5 * r + rg_c g r) / 5 = r by omega, show (5 * r + rg_c g r) % 5 = rg_c g r by omega]
      exact ⟨hr, ⟨u, u2⟩, rfl⟩
    refine br_c (fun z => ?_) (fun z => ?_)
    · have no : ∀ r, ¬ lk q r (gr_c (tg_G g) r) t := fun r hr => by
        have := cmp r hr
        rw [z, bl_0] at this
        cases this
      have nacc : ¬ lr_acc (tg_G g) (w, c) lk ((q, v) :: rest, pos) := by
        rintro ⟨q1, v1, r1, e, hl'⟩
        have e : (q, v) :: rest = (q1, v1) :: r1 := e
        cases e
        exact no 9 (by rw [ht]; exact hl')
      have only : ∀ q' v' rest' pos', lr_st (tg_G g) (w, c) (vt_A a_tokenLengths) lk nx ((q, v) :: rest, pos) ((q', v') :: rest', pos') → pos < c ∧ nx q t = some q' ∧ rest' = (q, v) :: rest := by
        rintro q' v' rest' pos' (⟨q1, v1, r1, q2, e, _, hp, hx, e2⟩ | ⟨q1, v1, r1, r, pop, q0, v0, base, q2, e, hl', _⟩)
        · have e : (q, v) :: rest = (q1, v1) :: r1 := e
          cases e
          have hp : pos < c := hp
          have e3 := congrArg Prod.fst e2
          have e3 : (q', v') :: rest' = (q2, (vt_A a_tokenLengths).1 pos) :: (q, v) :: rest := e3
          cases e3
          have hx : nx q (w pos) = some q' := hx
          rcases tp with ⟨_, tw, _⟩ | ⟨z', _⟩
          · exact ⟨hp, by rw [tw]; exact hx, rfl⟩
          · exact absurd hp z'
        · have e : (q, v) :: rest = (q1, v1) :: r1 := e
          cases e
          exact absurd (by rw [ht]; exact hl') (no r)
      refine pk_eq t 3 (fun e => h0 (Or.inr ⟨fun q' v' rest' pos' st => ?_, nacc⟩) _ _ _ _ _) (fun e => ?_)
      · have := (only q' v' rest' pos' st).1
        omega
      · obtain ⟨pc, tw, t3⟩ : pos < c ∧ t = w pos ∧ t < 3 := by
          rcases tp with z' | ⟨_, z'⟩
          · exact z'
          · exact absurd z' e
        refine ⟨vp_in_nI (by omega) (by decide), ?_⟩
        rw [nI_clamp (by omega : pos < 2 ^ 31)]
        refine xw_push_wideSteps (a_readStates := S) (a_readValues := V) hl Sq qn hn7 (by omega) (fun y => br_t rfl (h0 (Or.inr ⟨fun q' v' rest' pos' st => ?_, nacc⟩) _ _ _ _ _)) (fun y y2 => br_f (by decide) (nm_r (nI_1 pos) (nm_r (nI_1 x3) ?_)))
        · obtain ⟨_, o1, o2⟩ := only q' v' rest' pos' st
          rcases y with y | y
          · rcases hnx q t qn (by omega) with ⟨m1, _⟩ | ⟨q2, m0, m1, m2⟩
            · rw [m1] at o1; cases o1
            · exact absurd (m2.symm.trans y) (nI_nm (by omega))
          · rw [o2]
            show ¬ rest.length + 1 < 2048
            omega
        · rcases hnx q t qn (by omega) with ⟨_, m2⟩ | ⟨q2, m0, m1, m2⟩
          · exact absurd m2 y
          · have eu : vt_us (((q2, (vt_A a_tokenLengths).1 pos) :: (q, v) :: rest).map Prod.snd) = vt_us (((q, v) :: rest).map Prod.snd) := List.append_nil _
            have sp := xr_Sp (v := (vt_A a_tokenLengths).1 pos) hS m0 (by intro q; cases q)
            have := hs q2 ((vt_A a_tokenLengths).1 pos) ((q, v) :: rest) (pos + 1) _ _ Us x3lt (Or.inl ⟨q, v, rest, q2, rfl, fun r hr => no r (by rw [ht]; exact hr), pc, by rw [← m1, tw], rfl⟩) y2 sp (by rw [eu]; exact hu) (by rw [eu]; omega)
            rw [eu] at this
            rw [m2]
            exact this
    · have ex : ∃ k, bl Z k = true := by
        refine Classical.byContradiction fun no => z (bl_ext fun k _ => ?_)
        rw [bl_0]
        cases c1 : bl Z k
        · rfl
        · exact absurd ⟨k, c1⟩ no
      have b47 : ∀ k, bl Z k = true → k < 47 := by
        intro k hk
        obtain ⟨_, ⟨u, _⟩, e⟩ := (bits k).mp hk
        exact im_lt hg ⟨u, Nat.le_of_eq e⟩
      refine xw_ruleOf ex b47 (fun k hk => ?_)
      obtain ⟨lk1, ⟨u, r10⟩, ek⟩ := (bits k).mp hk
      generalize k / 5 = r at lk1 u r10 ek ⊢
      rw [ek] at lk1
      have lkt : lk q r (gr_c (tg_G g) r) (tx_k (w, c) pos) := by rw [← ht]; exact lk1
      refine pk_eq r 9 (fun e => ?_) (fun e => ?_)
      · subst e
        exact ha ⟨q, v, rest, rfl, lkt⟩
      · have uU : us_U g r := u.resolve_right e
        obtain ⟨_, _, pop, q0, v0, base, i0, e2, e3, _⟩ := lr_items hB _ pos hinv.1 q v rest rfl r _ _ lkt
        have e2 : (q, v) :: rest = pop ++ (q0, v0) :: base := e2
        have e3 : pop.length = rg_c g r := e3
        have el := congrArg List.length e2
        rw [List.length_append, List.length_cons, List.length_cons] at el
        have hS' := hS
        rw [e2] at hS'
        have hb := xr_Sb pop hS'
        obtain ⟨q0n, Sq0, _, _⟩ := hb
        have q0n : q0 < n := q0n
        have Sq0 : S base.length = nI q0 := Sq0
        have eb : rest.length - rg_c g r = base.length := by omega
        obtain ⟨l3, l7, cc4, _⟩ := hg.2.1 r uU.1
        obtain ⟨g1, g2, _⟩ := hG r (Or.inl uU.1)
        have vv := xr_Sv (b := (q0, v0) :: base) (by intro q; cases q) pop hS'
        have nacc : ¬ lr_acc (tg_G g) (w, c) lk ((q, v) :: rest, pos) := by
          rintro ⟨q1, v1, r1, e', hl'⟩
          have e' : (q, v) :: rest = (q1, v1) :: r1 := e'
          cases e'
          exact e (hA.2.2.2.1 q r 9 _ lkt hl')
        have only : ∀ q' v' rest' pos', lr_st (tg_G g) (w, c) (vt_A a_tokenLengths) lk nx ((q, v) :: rest, pos) ((q', v') :: rest', pos') → nx q0 (rg_l g r) = some q' ∧ rest' = (q0, v0) :: base := by
          rintro q' v' rest' pos' (⟨q1, v1, r1, q2, e', hno, _⟩ | ⟨q1, v1, r1, r', pop', q0', v0', base', q2, e', hl', _, f2, f3, hx, e4⟩)
          · have e' : (q, v) :: rest = (q1, v1) :: r1 := e'
            cases e'
            exact absurd lkt (hno r)
          · have e' : (q, v) :: rest = (q1, v1) :: r1 := e'
            cases e'
            have er := hA.2.2.2.1 q r r' _ lkt hl'
            subst er
            have f2 : (q, v) :: rest = pop' ++ (q0', v0') :: base' := f2
            have f3 : pop'.length = rg_c g r := f3
            have f4 := List.append_inj (e2.symm.trans f2) (by omega)
            have f5 := f4.2
            cases f5
            have e5 := congrArg Prod.fst e4
            have e5 : (q', v') :: rest' = (q2, (vt_A a_tokenLengths).2 r (pop'.map Prod.snd)) :: (q0, v0) :: base := e5
            cases e5
            exact ⟨hx, rfl⟩
        refine xw_use_wideSteps (a_readStates := S) (a_readValues := V) (a_usedRules := Us) (fs := xr_f pop) (q := q0) (by omega) g2 g1 cc4 l7 hl (by omega) (fun k' hk' => ?_) (by rw [eb]; exact Sq0) q0n hn7 (by omega) hu (fun y Us' => br_t rfl (h0 (Or.inr ⟨fun q' v' rest' pos' st => ?_, nacc⟩) _ _ _ _ _)) (fun y y2 Us' hu' => br_f (by decide) (nm_r (nI_1 x3) ?_))
        · have := vv k' (by omega)
          rw [List.length_cons] at this
          rw [eb, show base.length + (k' + 1) = base.length + 1 + k' by omega]
          exact this
        · obtain ⟨o1, o2⟩ := only q' v' rest' pos' st
          rcases y with y | y
          · rcases hnx q0 (rg_l g r) q0n l7 with ⟨m1, _⟩ | ⟨q2, m0, m1, m2⟩
            · rw [m1] at o1; cases o1
            · exact absurd (m2.symm.trans y) (nI_nm (by omega))
          · rw [o2]
            show ¬ base.length + 1 < 2048
            omega
        · rcases hnx q0 (rg_l g r) q0n l7 with ⟨_, m2⟩ | ⟨q2, m0, m1, m2⟩
          · exact absurd m2 y
          · have eu : vt_us (((q2, (vt_A a_tokenLengths).2 r (pop.map Prod.snd)) :: (q0, v0) :: base).map Prod.snd) = vt_us (((q, v) :: rest).map Prod.snd) ++ [r] := by
              rw [e2, List.map_append, vt_usa, List.append_assoc]
              rfl
            have sp := xr_Sp (v := (vt_A a_tokenLengths).2 r (pop.map Prod.snd)) (xr_Sb pop hS') m0 (by intro q; cases q)
            have := hs q2 ((vt_A a_tokenLengths).2 r (pop.map Prod.snd)) ((q0, v0) :: base) pos _ _ Us' x3lt (Or.inr ⟨q, v, rest, r, pop, q0, v0, base, q2, rfl, lkt, e, e2, e3, m1, rfl⟩) (by rw [List.length_cons, ← eb]; exact y2) sp (by rw [eu]; exact hu') (by rw [eu, List.length_append]; show _ + 1 ≤ _; omega)
            rw [eu] at this
            have ev : vt_vl r (vt_li (xr_f pop) (rg_c g r)) = ((vt_A a_tokenLengths).2 r (pop.map Prod.snd)).2.1 := by
              rw [← e3, xr_fl]; rfl
            rw [ev, m2, eb]
            exact this
  refine pk_le 1000000 x3 (fun z => h0 (Or.inl (by omega)) _ _ _ _ _) (fun z => pk_le c pos (fun y => ?_) (fun y => ⟨vp_in_nI (by omega) (by decide), ?_⟩))
  · exact core z 3 (if_neg (by show ¬ pos < c; omega)).symm
  · rw [nI_clamp (by omega : pos < 2 ^ 31), (hw pos y).1]
    exact core z (w pos) (if_pos (show pos < c from y)).symm
theorem xw_step_stateLooks (hg : rg_ok g) (hG : xg_G g a_lefts a_rights a_rightSizes) {w : Nat → Nat} {c n : Nat} {lk : lr_K} {nx : lr_N} (hc : c ≤ 24) (hw : ∀ i, i < c → a_tokenKinds i = nI (w i) ∧ w i < 3) (hT : xr_T lk nx n a_stateLooks a_stateSteps) (hn4 : n * 4 ≤ 240) (hn7 : n * 7 ≤ 420) (h7 : ∀ k, bl (a_nextItems 7) k = true ↔ (xu_U g (k / 5) ∧ k / 5 < 10) ∧ k % 5 = rg_c g (k / 5))
    (hA : lr_A (tg_G g) (fi_F g) lk nx) (hB : lr_B (tg_G g) lk nx) (hU9 : ∀ q r p t, lk q r p t → us_U g r ∨ r = 9) {post : Int32 → SX → Prop} {f x3 pos q : Nat} {v : vt_T} {rest : List (Nat × vt_T)} {S V Us : Nat → Int32} (hinv : lr_inv (tg_G g) (w, c) (vt_A a_tokenLengths) nx ((q, v) :: rest, pos)) (hl : rest.length < 2048) (hS : xr_S n ((q, v) :: rest) S V) (hu : yb_us (vt_us (((q, v) :: rest).map Prod.snd)) Us) (hx3 : x3 ≤ 1000000) (hul : (vt_us (((q, v) :: rest).map Prod.snd)).length ≤ x3) (hpos : pos ≤ c)
    (hs : ∀ q' v' rest' pos' S' V' Us', x3 < 1000000 → lr_st (tg_G g) (w, c) (vt_A a_tokenLengths) lk nx ((q, v) :: rest, pos) ((q', v') :: rest', pos') → rest'.length < 2048 → xr_S n ((q', v') :: rest') S' V' → yb_us (vt_us (((q', v') :: rest').map Prod.snd)) Us' → (vt_us (((q', v') :: rest').map Prod.snd)).length ≤ x3 + 1 → wX_readTokens__stateLooks_stateSteps_24 post f (nI (x3 + 1)) f_depth f_made f_textLength (nI c) f_wrongPlace f_ruleCount f_prepared f_rulesInUse f_stateCount f_wideCount f_gradeFound (nI rest'.length) (nI pos') (nI (vt_us (((q', v') :: rest').map Prod.snd)).length) a_spotCounts a_ends a_arrows a_takers a_groups a_marks a_text a_tokenKinds a_tokenLengths a_lefts a_rights a_rightSizes a_beginSets a_followSets a_nextItems a_openItems a_restItems a_stateItems a_stateSteps a_stateLooks a_wideSteps a_wideLooks S' V' Us')
    (ha : lr_acc (tg_G g) (w, c) lk ((q, v) :: rest, pos) → post 1 (f_depth, f_made, f_textLength, (nI c), f_wrongPlace, f_ruleCount, f_prepared, f_rulesInUse, f_stateCount, f_wideCount, f_gradeFound, (nI rest.length), (nI pos), (nI (vt_us (((q, v) :: rest).map Prod.snd)).length), a_spotCounts, a_ends, a_arrows, a_takers, a_groups, a_marks, a_text, a_tokenKinds, a_tokenLengths, a_lefts, a_rights, a_rightSizes, a_beginSets, a_followSets, a_nextItems, a_openItems, a_restItems, a_stateItems, a_stateSteps, a_stateLooks, a_wideSteps, a_wideLooks, S, V, Us))
    (h0 : (x3 = 1000000 ∨ ((∀ q' v' rest' pos', lr_st (tg_G g) (w, c) (vt_A a_tokenLengths) lk nx ((q, v) :: rest, pos) ((q', v') :: rest', pos') → ¬ rest'.length < 2048) ∧ ¬ lr_acc (tg_G g) (w, c) lk ((q, v) :: rest, pos))) → ∀ rh uc S' V' Us', post 0 (f_depth, f_made, f_textLength, (nI c), f_wrongPlace, f_ruleCount, f_prepared, f_rulesInUse, f_stateCount, f_wideCount, f_gradeFound, rh, (nI pos), uc, a_spotCounts, a_ends, a_arrows, a_takers, a_groups, a_marks, a_text, a_tokenKinds, a_tokenLengths, a_lefts, a_rights, a_rightSizes, a_beginSets, a_followSets, a_nextItems, a_openItems, a_restItems, a_stateItems, a_stateSteps, a_stateLooks, a_wideSteps, a_wideLooks, S', V', Us')) :
    wX_readTokens__stateLooks_stateSteps_24 post (f + 1) (nI x3) f_depth f_made f_textLength (nI c) f_wrongPlace f_ruleCount f_prepared f_rulesInUse f_stateCount f_wideCount f_gradeFound (nI rest.length) (nI pos) (nI (vt_us (((q, v) :: rest).map Prod.snd)).length) a_spotCounts a_ends a_arrows a_takers a_groups a_marks a_text a_tokenKinds a_tokenLengths a_lefts a_rights a_rightSizes a_beginSets a_followSets a_nextItems a_openItems a_restItems a_stateItems a_stateSteps a_stateLooks a_wideSteps a_wideLooks S V Us := by
  have hX : tx_ok (w, c) := fun i hi => (hw i hi).2
  obtain ⟨n1, hlk, hnx⟩ := hT
  have qn : q < n := hS.1
  have Sq : S rest.length = nI q := hS.2.1
  have core : x3 < 1000000 → ∀ t, t = tx_k (w, c) pos → wX_readTokens__stateLooks_stateSteps_55 post (wX_readTokens__stateLooks_stateSteps_24 post f) (nI x3) (nI t) f_depth f_made f_textLength (nI c) f_wrongPlace f_ruleCount f_prepared f_rulesInUse f_stateCount f_wideCount f_gradeFound (nI rest.length) (nI pos) (nI (vt_us (((q, v) :: rest).map Prod.snd)).length) a_spotCounts a_ends a_arrows a_takers a_groups a_marks a_text a_tokenKinds a_tokenLengths a_lefts a_rights a_rightSizes a_beginSets a_followSets a_nextItems a_openItems a_restItems a_stateItems a_stateSteps a_stateLooks a_wideSteps a_wideLooks S V Us := by
    intro x3lt t ht
    have tp : (pos < c ∧ t = w pos ∧ t < 3) ∨ (¬ pos < c ∧ t = 3) := by
      by_cases z : pos < c
      · have e : tx_k (w, c) pos = w pos := if_pos z
        rw [e] at ht
        exact Or.inl ⟨z, ht, by rw [ht]; exact (hw pos z).2⟩
      · have e : tx_k (w, c) pos = 3 := if_neg z
        rw [e] at ht
        exact Or.inr ⟨z, ht⟩
    have t4 : t < 4 := by omega
    refine ⟨vp_in_nI hl (by decide), ?_⟩
    rw [nI_clamp (by omega : rest.length < 2 ^ 31), Sq]
    refine ⟨pk_in (q * 4 + t) 240 (by omega) (ix_4 q t), nm_r (e' := a_stateLooks (q * 4 + t) &&& a_nextItems 7) (by rw [pk_cl (q * 4 + t) (ix_4 q t)]) ?_⟩
    have bits : ∀ k, bl (a_stateLooks (q * 4 + t) &&& a_nextItems 7) k = true ↔ lk q (k / 5) (k % 5) t ∧ (xu_U g (k / 5) ∧ k / 5 < 10) ∧ k % 5 = rg_c g (k / 5) := fun k => by rw [bl_and, Bool.and_eq_true, hlk q t k qn t4, h7 k]
    generalize a_stateLooks (q * 4 + t) &&& a_nextItems 7 = Z at bits ⊢
    have c4 : ∀ r, us_U g r ∨ r = 9 → rg_c g r ≤ 4 ∧ r < 10 := fun r hr => by
      have := rg_b hg (hr.imp (fun z => z.1) id)
      exact ⟨this.2.2.2.1, this.1⟩
    have cmp : ∀ r, lk q r (rg_c g r) t → bl Z (5 * r + rg_c g r) = true := fun r hr => by
      have u := hU9 _ _ _ _ hr
      obtain ⟨u1, u2⟩ := c4 r u
      rw [bits, show (5 * r + rg_c g r) / 5 = r by omega, show (5 * r + rg_c g r) % 5 = rg_c g r by omega]
      exact ⟨hr, ⟨u, u2⟩, rfl⟩
    refine br_c (fun z => ?_) (fun z => ?_)
    · have no : ∀ r, ¬ lk q r (gr_c (tg_G g) r) t := fun r hr => by
        have := cmp r hr
        rw [z, bl_0] at this
        cases this
      have nacc : ¬ lr_acc (tg_G g) (w, c) lk ((q, v) :: rest, pos) := by
        rintro ⟨q1, v1, r1, e, hl'⟩
        have e : (q, v) :: rest = (q1, v1) :: r1 := e
        cases e
        exact no 9 (by rw [ht]; exact hl')
      have only : ∀ q' v' rest' pos', lr_st (tg_G g) (w, c) (vt_A a_tokenLengths) lk nx ((q, v) :: rest, pos) ((q', v') :: rest', pos') → pos < c ∧ nx q t = some q' ∧ rest' = (q, v) :: rest := by
        rintro q' v' rest' pos' (⟨q1, v1, r1, q2, e, _, hp, hx, e2⟩ | ⟨q1, v1, r1, r, pop, q0, v0, base, q2, e, hl', _⟩)
        · have e : (q, v) :: rest = (q1, v1) :: r1 := e
          cases e
          have hp : pos < c := hp
          have e3 := congrArg Prod.fst e2
          have e3 : (q', v') :: rest' = (q2, (vt_A a_tokenLengths).1 pos) :: (q, v) :: rest := e3
          cases e3
          have hx : nx q (w pos) = some q' := hx
          rcases tp with ⟨_, tw, _⟩ | ⟨z', _⟩
          · exact ⟨hp, by rw [tw]; exact hx, rfl⟩
          · exact absurd hp z'
        · have e : (q, v) :: rest = (q1, v1) :: r1 := e
          cases e
          exact absurd (by rw [ht]; exact hl') (no r)
      refine pk_eq t 3 (fun e => h0 (Or.inr ⟨fun q' v' rest' pos' st => ?_, nacc⟩) _ _ _ _ _) (fun e => ?_)
      · have := (only q' v' rest' pos' st).1
        omega
      · obtain ⟨pc, tw, t3⟩ : pos < c ∧ t = w pos ∧ t < 3 := by
          rcases tp with z' | ⟨_, z'⟩
          · exact z'
          · exact absurd z' e
        refine ⟨vp_in_nI (by omega) (by decide), ?_⟩
        rw [nI_clamp (by omega : pos < 2 ^ 31)]
        refine xw_push_stateSteps (a_readStates := S) (a_readValues := V) hl Sq qn hn7 (by omega) (fun y => br_t rfl (h0 (Or.inr ⟨fun q' v' rest' pos' st => ?_, nacc⟩) _ _ _ _ _)) (fun y y2 => br_f (by decide) (nm_r (nI_1 pos) (nm_r (nI_1 x3) ?_)))
        · obtain ⟨_, o1, o2⟩ := only q' v' rest' pos' st
          rcases y with y | y
          · rcases hnx q t qn (by omega) with ⟨m1, _⟩ | ⟨q2, m0, m1, m2⟩
            · rw [m1] at o1; cases o1
            · exact absurd (m2.symm.trans y) (nI_nm (by omega))
          · rw [o2]
            show ¬ rest.length + 1 < 2048
            omega
        · rcases hnx q t qn (by omega) with ⟨_, m2⟩ | ⟨q2, m0, m1, m2⟩
          · exact absurd m2 y
          · have eu : vt_us (((q2, (vt_A a_tokenLengths).1 pos) :: (q, v) :: rest).map Prod.snd) = vt_us (((q, v) :: rest).map Prod.snd) := List.append_nil _
            have sp := xr_Sp (v := (vt_A a_tokenLengths).1 pos) hS m0 (by intro q; cases q)
            have := hs q2 ((vt_A a_tokenLengths).1 pos) ((q, v) :: rest) (pos + 1) _ _ Us x3lt (Or.inl ⟨q, v, rest, q2, rfl, fun r hr => no r (by rw [ht]; exact hr), pc, by rw [← m1, tw], rfl⟩) y2 sp (by rw [eu]; exact hu) (by rw [eu]; omega)
            rw [eu] at this
            rw [m2]
            exact this
    · have ex : ∃ k, bl Z k = true := by
        refine Classical.byContradiction fun no => z (bl_ext fun k _ => ?_)
        rw [bl_0]
        cases c1 : bl Z k
        · rfl
        · exact absurd ⟨k, c1⟩ no
      have b47 : ∀ k, bl Z k = true → k < 47 := by
        intro k hk
        obtain ⟨_, ⟨u, _⟩, e⟩ := (bits k).mp hk
        exact im_lt hg ⟨u, Nat.le_of_eq e⟩
      refine xw_ruleOf ex b47 (fun k hk => ?_)
      obtain ⟨lk1, ⟨u, r10⟩, ek⟩ := (bits k).mp hk
      generalize k / 5 = r at lk1 u r10 ek ⊢
      rw [ek] at lk1
      have lkt : lk q r (gr_c (tg_G g) r) (tx_k (w, c) pos) := by rw [← ht]; exact lk1
      refine pk_eq r 9 (fun e => ?_) (fun e => ?_)
      · subst e
        exact ha ⟨q, v, rest, rfl, lkt⟩
      · have uU : us_U g r := u.resolve_right e
        obtain ⟨_, _, pop, q0, v0, base, i0, e2, e3, _⟩ := lr_items hB _ pos hinv.1 q v rest rfl r _ _ lkt
        have e2 : (q, v) :: rest = pop ++ (q0, v0) :: base := e2
        have e3 : pop.length = rg_c g r := e3
        have el := congrArg List.length e2
        rw [List.length_append, List.length_cons, List.length_cons] at el
        have hS' := hS
        rw [e2] at hS'
        have hb := xr_Sb pop hS'
        obtain ⟨q0n, Sq0, _, _⟩ := hb
        have q0n : q0 < n := q0n
        have Sq0 : S base.length = nI q0 := Sq0
        have eb : rest.length - rg_c g r = base.length := by omega
        obtain ⟨l3, l7, cc4, _⟩ := hg.2.1 r uU.1
        obtain ⟨g1, g2, _⟩ := hG r (Or.inl uU.1)
        have vv := xr_Sv (b := (q0, v0) :: base) (by intro q; cases q) pop hS'
        have nacc : ¬ lr_acc (tg_G g) (w, c) lk ((q, v) :: rest, pos) := by
          rintro ⟨q1, v1, r1, e', hl'⟩
          have e' : (q, v) :: rest = (q1, v1) :: r1 := e'
          cases e'
          exact e (hA.2.2.2.1 q r 9 _ lkt hl')
        have only : ∀ q' v' rest' pos', lr_st (tg_G g) (w, c) (vt_A a_tokenLengths) lk nx ((q, v) :: rest, pos) ((q', v') :: rest', pos') → nx q0 (rg_l g r) = some q' ∧ rest' = (q0, v0) :: base := by
          rintro q' v' rest' pos' (⟨q1, v1, r1, q2, e', hno, _⟩ | ⟨q1, v1, r1, r', pop', q0', v0', base', q2, e', hl', _, f2, f3, hx, e4⟩)
          · have e' : (q, v) :: rest = (q1, v1) :: r1 := e'
            cases e'
            exact absurd lkt (hno r)
          · have e' : (q, v) :: rest = (q1, v1) :: r1 := e'
            cases e'
            have er := hA.2.2.2.1 q r r' _ lkt hl'
            subst er
            have f2 : (q, v) :: rest = pop' ++ (q0', v0') :: base' := f2
            have f3 : pop'.length = rg_c g r := f3
            have f4 := List.append_inj (e2.symm.trans f2) (by omega)
            have f5 := f4.2
            cases f5
            have e5 := congrArg Prod.fst e4
            have e5 : (q', v') :: rest' = (q2, (vt_A a_tokenLengths).2 r (pop'.map Prod.snd)) :: (q0, v0) :: base := e5
            cases e5
            exact ⟨hx, rfl⟩
        refine xw_use_stateSteps (a_readStates := S) (a_readValues := V) (a_usedRules := Us) (fs := xr_f pop) (q := q0) (by omega) g2 g1 cc4 l7 hl (by omega) (fun k' hk' => ?_) (by rw [eb]; exact Sq0) q0n hn7 (by omega) hu (fun y Us' => br_t rfl (h0 (Or.inr ⟨fun q' v' rest' pos' st => ?_, nacc⟩) _ _ _ _ _)) (fun y y2 Us' hu' => br_f (by decide) (nm_r (nI_1 x3) ?_))
        · have := vv k' (by omega)
          rw [List.length_cons] at this
          rw [eb, show base.length + (k' + 1) = base.length + 1 + k' by omega]
          exact this
        · obtain ⟨o1, o2⟩ := only q' v' rest' pos' st
          rcases y with y | y
          · rcases hnx q0 (rg_l g r) q0n l7 with ⟨m1, _⟩ | ⟨q2, m0, m1, m2⟩
            · rw [m1] at o1; cases o1
            · exact absurd (m2.symm.trans y) (nI_nm (by omega))
          · rw [o2]
            show ¬ base.length + 1 < 2048
            omega
        · rcases hnx q0 (rg_l g r) q0n l7 with ⟨_, m2⟩ | ⟨q2, m0, m1, m2⟩
          · exact absurd m2 y
          · have eu : vt_us (((q2, (vt_A a_tokenLengths).2 r (pop.map Prod.snd)) :: (q0, v0) :: base).map Prod.snd) = vt_us (((q, v) :: rest).map Prod.snd) ++ [r] := by
              rw [e2, List.map_append, vt_usa, List.append_assoc]
              rfl
            have sp := xr_Sp (v := (vt_A a_tokenLengths).2 r (pop.map Prod.snd)) (xr_Sb pop hS') m0 (by intro q; cases q)
            have := hs q2 ((vt_A a_tokenLengths).2 r (pop.map Prod.snd)) ((q0, v0) :: base) pos _ _ Us' x3lt (Or.inr ⟨q, v, rest, r, pop, q0, v0, base, q2, rfl, lkt, e, e2, e3, m1, rfl⟩) (by rw [List.length_cons, ← eb]; exact y2) sp (by rw [eu]; exact hu') (by rw [eu, List.length_append]; show _ + 1 ≤ _; omega)
            rw [eu] at this
            have ev : vt_vl r (vt_li (xr_f pop) (rg_c g r)) = ((vt_A a_tokenLengths).2 r (pop.map Prod.snd)).2.1 := by
              rw [← e3, xr_fl]; rfl
            rw [ev, m2, eb]
            exact this
  refine pk_le 1000000 x3 (fun z => h0 (Or.inl (by omega)) _ _ _ _ _) (fun z => pk_le c pos (fun y => ?_) (fun y => ⟨vp_in_nI (by omega) (by decide), ?_⟩))
  · exact core z 3 (if_neg (by show ¬ pos < c; omega)).symm
  · rw [nI_clamp (by omega : pos < 2 ^ 31), (hw pos y).1]
    exact core z (w pos) (if_pos (show pos < c from y)).symm
end
end
section
/-! the component reads the tokens -/
variable {f_depth f_made f_textLength f_tokenCount f_wrongPlace f_ruleCount f_prepared f_rulesInUse f_stateCount f_wideCount f_gradeFound f_readHeight f_tokensTaken f_usedCount : Int32} {a_spotCounts a_ends a_arrows a_takers a_groups a_marks a_text a_tokenKinds a_tokenLengths a_lefts a_rights a_rightSizes a_beginSets a_followSets a_stateSteps a_wideSteps a_readStates a_readValues a_usedRules : Nat → Int32} {a_nextItems a_openItems a_restItems a_stateItems a_stateLooks a_wideLooks : Nat → Int64}
section
variable {g : rg_T}
theorem lr_pos {V : Type} {G : gr_T} {X : tx_T} {A : al_T V} {lk : lr_K} {nx : lr_N} {c d : lr_C V} (h : lr_st G X A lk nx c d) (hc : c.2 ≤ X.2) : d.2 ≤ X.2 ∧ ∃ q v rest, d.1 = (q, v) :: rest := by
  rcases h with ⟨q, v, rest, q', e, _, hp, hx, rfl⟩ | ⟨q, v, rest, r, pop, q0, v0, base, q', e, hl', _, f2, f3, hx, rfl⟩
  · exact ⟨hp, _, _, _, rfl⟩
  · exact ⟨hc, _, _, _, rfl⟩
theorem xw_follow_wideLooks (hg : rg_ok g) (hG : xg_G g a_lefts a_rights a_rightSizes) {w : Nat → Nat} {c n : Nat} {lk : lr_K} {nx : lr_N} (hc : c ≤ 24) (hw : ∀ i, i < c → a_tokenKinds i = nI (w i) ∧ w i < 3) (hT : xr_T lk nx n a_wideLooks a_wideSteps) (hn4 : n * 4 ≤ 324) (hn7 : n * 7 ≤ 560) (h7 : ∀ k, bl (a_nextItems 7) k = true ↔ (xu_U g (k / 5) ∧ k / 5 < 10) ∧ k % 5 = rg_c g (k / 5))
    (hA : lr_A (tg_G g) (fi_F g) lk nx) (hB : lr_B (tg_G g) lk nx) (hU9 : ∀ q r p t, lk q r p t → us_U g r ∨ r = 9) {post : Int32 → SX → Prop} {H f q2 pos2 : Nat} {v2 : vt_T} {rest2 : List (Nat × vt_T)} (hH : H ≤ 2048) :
    ∀ k x3 pos q v rest S V Us, lr_run (tg_G g) (w, c) (vt_A a_tokenLengths) lk nx H k ((q, v) :: rest, pos) ((q2, v2) :: rest2, pos2) → lr_inv (tg_G g) (w, c) (vt_A a_tokenLengths) nx ((q, v) :: rest, pos) → rest.length < 2048 → xr_S n ((q, v) :: rest) S V → yb_us (vt_us (((q, v) :: rest).map Prod.snd)) Us → x3 + k ≤ 1000000 → (vt_us (((q, v) :: rest).map Prod.snd)).length ≤ x3 → pos ≤ c →
    (∀ S' V' Us', lr_inv (tg_G g) (w, c) (vt_A a_tokenLengths) nx ((q2, v2) :: rest2, pos2) → rest2.length < 2048 → xr_S n ((q2, v2) :: rest2) S' V' → yb_us (vt_us (((q2, v2) :: rest2).map Prod.snd)) Us' → (vt_us (((q2, v2) :: rest2).map Prod.snd)).length ≤ x3 + k → pos2 ≤ c → wX_readTokens__wideLooks_wideSteps_24 post f (nI (x3 + k)) f_depth f_made f_textLength (nI c) f_wrongPlace f_ruleCount f_prepared f_rulesInUse f_stateCount f_wideCount f_gradeFound (nI rest2.length) (nI pos2) (nI (vt_us (((q2, v2) :: rest2).map Prod.snd)).length) a_spotCounts a_ends a_arrows a_takers a_groups a_marks a_text a_tokenKinds a_tokenLengths a_lefts a_rights a_rightSizes a_beginSets a_followSets a_nextItems a_openItems a_restItems a_stateItems a_stateSteps a_stateLooks a_wideSteps a_wideLooks S' V' Us') →
    wX_readTokens__wideLooks_wideSteps_24 post (f + k) (nI x3) f_depth f_made f_textLength (nI c) f_wrongPlace f_ruleCount f_prepared f_rulesInUse f_stateCount f_wideCount f_gradeFound (nI rest.length) (nI pos) (nI (vt_us (((q, v) :: rest).map Prod.snd)).length) a_spotCounts a_ends a_arrows a_takers a_groups a_marks a_text a_tokenKinds a_tokenLengths a_lefts a_rights a_rightSizes a_beginSets a_followSets a_nextItems a_openItems a_restItems a_stateItems a_stateSteps a_stateLooks a_wideSteps a_wideLooks S V Us := by
  have hX : tx_ok (w, c) := fun i hi => (hw i hi).2
  intro k
  induction k with
  | zero =>
    intro x3 pos q v rest S V Us hr hi h1 h2 h3 h4 h5 h6 hk
    have e : ((q, v) :: rest, pos) = ((q2, v2) :: rest2, pos2) := hr
    cases e
    exact hk S V Us hi h1 h2 h3 h5 h6
  | succ k ih =>
    intro x3 pos q v rest S V Us hr hi h1 h2 h3 h4 h5 h6 hk
    obtain ⟨d, st, dl, run⟩ := hr
    obtain ⟨p1, qd, vd, rd, ed⟩ := lr_pos st h6
    obtain ⟨d1, d2⟩ := d
    have ed : d1 = (qd, vd) :: rd := ed
    subst ed
    have p1 : d2 ≤ c := p1
    have dl : rd.length + 1 ≤ H := dl
    refine xw_step_wideLooks (f := f + k) hg hG hc hw hT hn4 hn7 h7 hA hB hU9 hi h1 h2 h3 (by omega) h5 h6 (fun q' v' rest' pos' S' V' Us' a1 a2 a3 a4 a5 a6 => ?_) (fun ha => absurd st (lr_acc_no hA ha)) (fun h0 => ?_)
    · have e := lr_det hA a2 st
      cases e
      refine ih (x3 + 1) d2 qd vd rd S' V' Us' run (lr_keep hX hB hi st) a3 a4 a5 (by omega) a6 p1 (fun S2 V2 Us2 b1 b2 b3 b4 b5 b6 => ?_)
      rw [show x3 + 1 + k = x3 + (k + 1) by omega] at b5 ⊢
      exact hk S2 V2 Us2 b1 b2 b3 b4 b5 b6
    · exfalso
      rcases h0 with h0 | ⟨h0, _⟩
      · omega
      · exact h0 qd vd rd d2 st (by omega)
/-- past the last good token -/
theorem xw_wander_wideLooks (hg : rg_ok g) (hG : xg_G g a_lefts a_rights a_rightSizes) {w : Nat → Nat} {c n : Nat} {lk : lr_K} {nx : lr_N} (hc : c ≤ 24) (hw : ∀ i, i < c → a_tokenKinds i = nI (w i) ∧ w i < 3) (hT : xr_T lk nx n a_wideLooks a_wideSteps) (hn4 : n * 4 ≤ 324) (hn7 : n * 7 ≤ 560) (h7 : ∀ k, bl (a_nextItems 7) k = true ↔ (xu_U g (k / 5) ∧ k / 5 < 10) ∧ k % 5 = rg_c g (k / 5))
    (hA : lr_A (tg_G g) (fi_F g) lk nx) (hB : lr_B (tg_G g) lk nx) (hU9 : ∀ q r p t, lk q r p t → us_U g r ∨ r = 9) {post : Int32 → SX → Prop} {pos : Nat} (hp : rr_n (tg_G g) (w, c) pos) (hD : ¬ dv_D (tg_G g) (w, c) 3 0 c) (h0 : ∀ rh uc S' V' Us', post 0 (f_depth, f_made, f_textLength, (nI c), f_wrongPlace, f_ruleCount, f_prepared, f_rulesInUse, f_stateCount, f_wideCount, f_gradeFound, rh, (nI pos), uc, a_spotCounts, a_ends, a_arrows, a_takers, a_groups, a_marks, a_text, a_tokenKinds, a_tokenLengths, a_lefts, a_rights, a_rightSizes, a_beginSets, a_followSets, a_nextItems, a_openItems, a_restItems, a_stateItems, a_stateSteps, a_stateLooks, a_wideSteps, a_wideLooks, S', V', Us')) :
    ∀ f x3 q v rest S V Us, f + x3 = 1000001 → 1 ≤ f → lr_inv (tg_G g) (w, c) (vt_A a_tokenLengths) nx ((q, v) :: rest, pos) → rest.length < 2048 → xr_S n ((q, v) :: rest) S V → yb_us (vt_us (((q, v) :: rest).map Prod.snd)) Us → (vt_us (((q, v) :: rest).map Prod.snd)).length ≤ x3 →
    wX_readTokens__wideLooks_wideSteps_24 post f (nI x3) f_depth f_made f_textLength (nI c) f_wrongPlace f_ruleCount f_prepared f_rulesInUse f_stateCount f_wideCount f_gradeFound (nI rest.length) (nI pos) (nI (vt_us (((q, v) :: rest).map Prod.snd)).length) a_spotCounts a_ends a_arrows a_takers a_groups a_marks a_text a_tokenKinds a_tokenLengths a_lefts a_rights a_rightSizes a_beginSets a_followSets a_nextItems a_openItems a_restItems a_stateItems a_stateSteps a_stateLooks a_wideSteps a_wideLooks S V Us := by
  have hX : tx_ok (w, c) := fun i hi => (hw i hi).2
  intro f
  induction f with
  | zero => intro x3 q v rest S V Us _ q1; omega
  | succ f ih =>
    intro x3 q v rest S V Us e1 _ hi h1 h2 h3 h5
    refine xw_step_wideLooks (f := f) hg hG hc hw hT hn4 hn7 h7 hA hB hU9 hi h1 h2 h3 (by omega) h5 hp.1 (fun q' v' rest' pos' S' V' Us' a1 a2 a3 a4 a5 a6 => ?_) (fun ha => ?_) (fun _ rh uc S' V' Us' => h0 rh uc S' V' Us')
    · have ki := lr_keep hX hB hi a2
      have ep : pos' = pos := by
        rcases a2 with ⟨_, _, _, _, _, _, pc, _, e⟩ | ⟨_, _, _, _, _, _, _, _, _, _, _, _, _, _, _, e⟩
        · have e := congrArg Prod.snd e
          have e : pos' = pos + 1 := e
          subst e
          exact absurd (ki.2 pos (Nat.lt_succ_self _)) (hp.2.2 pc)
        · exact congrArg Prod.snd e
      subst ep
      exact ih (x3 + 1) q' v' rest' S' V' Us' (by omega) (by omega) ki a3 a4 a5 a6
    · obtain ⟨q1, v1, v0, d, _, z⟩ := lr_end (tg_ok hg) hX hB hi ha
      exact absurd (dv_D_of z) hD
theorem xw_follow_stateLooks (hg : rg_ok g) (hG : xg_G g a_lefts a_rights a_rightSizes) {w : Nat → Nat} {c n : Nat} {lk : lr_K} {nx : lr_N} (hc : c ≤ 24) (hw : ∀ i, i < c → a_tokenKinds i = nI (w i) ∧ w i < 3) (hT : xr_T lk nx n a_stateLooks a_stateSteps) (hn4 : n * 4 ≤ 240) (hn7 : n * 7 ≤ 420) (h7 : ∀ k, bl (a_nextItems 7) k = true ↔ (xu_U g (k / 5) ∧ k / 5 < 10) ∧ k % 5 = rg_c g (k / 5))
    (hA : lr_A (tg_G g) (fi_F g) lk nx) (hB : lr_B (tg_G g) lk nx) (hU9 : ∀ q r p t, lk q r p t → us_U g r ∨ r = 9) {post : Int32 → SX → Prop} {H f q2 pos2 : Nat} {v2 : vt_T} {rest2 : List (Nat × vt_T)} (hH : H ≤ 2048) :
    ∀ k x3 pos q v rest S V Us, lr_run (tg_G g) (w, c) (vt_A a_tokenLengths) lk nx H k ((q, v) :: rest, pos) ((q2, v2) :: rest2, pos2) → lr_inv (tg_G g) (w, c) (vt_A a_tokenLengths) nx ((q, v) :: rest, pos) → rest.length < 2048 → xr_S n ((q, v) :: rest) S V → yb_us (vt_us (((q, v) :: rest).map Prod.snd)) Us → x3 + k ≤ 1000000 → (vt_us (((q, v) :: rest).map Prod.snd)).length ≤ x3 → pos ≤ c →
    (∀ S' V' Us', lr_inv (tg_G g) (w, c) (vt_A a_tokenLengths) nx ((q2, v2) :: rest2, pos2) → rest2.length < 2048 → xr_S n ((q2, v2) :: rest2) S' V' → yb_us (vt_us (((q2, v2) :: rest2).map Prod.snd)) Us' → (vt_us (((q2, v2) :: rest2).map Prod.snd)).length ≤ x3 + k → pos2 ≤ c → wX_readTokens__stateLooks_stateSteps_24 post f (nI (x3 + k)) f_depth f_made f_textLength (nI c) f_wrongPlace f_ruleCount f_prepared f_rulesInUse f_stateCount f_wideCount f_gradeFound (nI rest2.length) (nI pos2) (nI (vt_us (((q2, v2) :: rest2).map Prod.snd)).length) a_spotCounts a_ends a_arrows a_takers a_groups a_marks a_text a_tokenKinds a_tokenLengths a_lefts a_rights a_rightSizes a_beginSets a_followSets a_nextItems a_openItems a_restItems a_stateItems a_stateSteps a_stateLooks a_wideSteps a_wideLooks S' V' Us') →
    wX_readTokens__stateLooks_stateSteps_24 post (f + k) (nI x3) f_depth f_made f_textLength (nI c) f_wrongPlace f_ruleCount f_prepared f_rulesInUse f_stateCount f_wideCount f_gradeFound (nI rest.length) (nI pos) (nI (vt_us (((q, v) :: rest).map Prod.snd)).length) a_spotCounts a_ends a_arrows a_takers a_groups a_marks a_text a_tokenKinds a_tokenLengths a_lefts a_rights a_rightSizes a_beginSets a_followSets a_nextItems a_openItems a_restItems a_stateItems a_stateSteps a_stateLooks a_wideSteps a_wideLooks S V Us := by
  have hX : tx_ok (w, c) := fun i hi => (hw i hi).2
  intro k
  induction k with
  | zero =>
    intro x3 pos q v rest S V Us hr hi h1 h2 h3 h4 h5 h6 hk
    have e : ((q, v) :: rest, pos) = ((q2, v2) :: rest2, pos2) := hr
    cases e
    exact hk S V Us hi h1 h2 h3 h5 h6
  | succ k ih =>
    intro x3 pos q v rest S V Us hr hi h1 h2 h3 h4 h5 h6 hk
    obtain ⟨d, st, dl, run⟩ := hr
    obtain ⟨p1, qd, vd, rd, ed⟩ := lr_pos st h6
    obtain ⟨d1, d2⟩ := d
    have ed : d1 = (qd, vd) :: rd := ed
    subst ed
    have p1 : d2 ≤ c := p1
    have dl : rd.length + 1 ≤ H := dl
    refine xw_step_stateLooks (f := f + k) hg hG hc hw hT hn4 hn7 h7 hA hB hU9 hi h1 h2 h3 (by omega) h5 h6 (fun q' v' rest' pos' S' V' Us' a1 a2 a3 a4 a5 a6 => ?_) (fun ha => absurd st (lr_acc_no hA ha)) (fun h0 => ?_)
    · have e := lr_det hA a2 st
      cases e
      refine ih (x3 + 1) d2 qd vd rd S' V' Us' run (lr_keep hX hB hi st) a3 a4 a5 (by omega) a6 p1 (fun S2 V2 Us2 b1 b2 b3 b4 b5 b6 => ?_)
      rw [show x3 + 1 + k = x3 + (k + 1) by omega] at b5 ⊢
      exact hk S2 V2 Us2 b1 b2 b3 b4 b5 b6
    · exfalso
      rcases h0 with h0 | ⟨h0, _⟩
      · omega
      · exact h0 qd vd rd d2 st (by omega)
/-- past the last good token -/
theorem xw_wander_stateLooks (hg : rg_ok g) (hG : xg_G g a_lefts a_rights a_rightSizes) {w : Nat → Nat} {c n : Nat} {lk : lr_K} {nx : lr_N} (hc : c ≤ 24) (hw : ∀ i, i < c → a_tokenKinds i = nI (w i) ∧ w i < 3) (hT : xr_T lk nx n a_stateLooks a_stateSteps) (hn4 : n * 4 ≤ 240) (hn7 : n * 7 ≤ 420) (h7 : ∀ k, bl (a_nextItems 7) k = true ↔ (xu_U g (k / 5) ∧ k / 5 < 10) ∧ k % 5 = rg_c g (k / 5))
    (hA : lr_A (tg_G g) (fi_F g) lk nx) (hB : lr_B (tg_G g) lk nx) (hU9 : ∀ q r p t, lk q r p t → us_U g r ∨ r = 9) {post : Int32 → SX → Prop} {pos : Nat} (hp : rr_n (tg_G g) (w, c) pos) (hD : ¬ dv_D (tg_G g) (w, c) 3 0 c) (h0 : ∀ rh uc S' V' Us', post 0 (f_depth, f_made, f_textLength, (nI c), f_wrongPlace, f_ruleCount, f_prepared, f_rulesInUse, f_stateCount, f_wideCount, f_gradeFound, rh, (nI pos), uc, a_spotCounts, a_ends, a_arrows, a_takers, a_groups, a_marks, a_text, a_tokenKinds, a_tokenLengths, a_lefts, a_rights, a_rightSizes, a_beginSets, a_followSets, a_nextItems, a_openItems, a_restItems, a_stateItems, a_stateSteps, a_stateLooks, a_wideSteps, a_wideLooks, S', V', Us')) :
    ∀ f x3 q v rest S V Us, f + x3 = 1000001 → 1 ≤ f → lr_inv (tg_G g) (w, c) (vt_A a_tokenLengths) nx ((q, v) :: rest, pos) → rest.length < 2048 → xr_S n ((q, v) :: rest) S V → yb_us (vt_us (((q, v) :: rest).map Prod.snd)) Us → (vt_us (((q, v) :: rest).map Prod.snd)).length ≤ x3 →
    wX_readTokens__stateLooks_stateSteps_24 post f (nI x3) f_depth f_made f_textLength (nI c) f_wrongPlace f_ruleCount f_prepared f_rulesInUse f_stateCount f_wideCount f_gradeFound (nI rest.length) (nI pos) (nI (vt_us (((q, v) :: rest).map Prod.snd)).length) a_spotCounts a_ends a_arrows a_takers a_groups a_marks a_text a_tokenKinds a_tokenLengths a_lefts a_rights a_rightSizes a_beginSets a_followSets a_nextItems a_openItems a_restItems a_stateItems a_stateSteps a_stateLooks a_wideSteps a_wideLooks S V Us := by
  have hX : tx_ok (w, c) := fun i hi => (hw i hi).2
  intro f
  induction f with
  | zero => intro x3 q v rest S V Us _ q1; omega
  | succ f ih =>
    intro x3 q v rest S V Us e1 _ hi h1 h2 h3 h5
    refine xw_step_stateLooks (f := f) hg hG hc hw hT hn4 hn7 h7 hA hB hU9 hi h1 h2 h3 (by omega) h5 hp.1 (fun q' v' rest' pos' S' V' Us' a1 a2 a3 a4 a5 a6 => ?_) (fun ha => ?_) (fun _ rh uc S' V' Us' => h0 rh uc S' V' Us')
    · have ki := lr_keep hX hB hi a2
      have ep : pos' = pos := by
        rcases a2 with ⟨_, _, _, _, _, _, pc, _, e⟩ | ⟨_, _, _, _, _, _, _, _, _, _, _, _, _, _, _, e⟩
        · have e := congrArg Prod.snd e
          have e : pos' = pos + 1 := e
          subst e
          exact absurd (ki.2 pos (Nat.lt_succ_self _)) (hp.2.2 pc)
        · exact congrArg Prod.snd e
      subst ep
      exact ih (x3 + 1) q' v' rest' S' V' Us' (by omega) (by omega) ki a3 a4 a5 a6
    · obtain ⟨q1, v1, v0, d, _, z⟩ := lr_end (tg_ok hg) hX hB hi ha
      exact absurd (dv_D_of z) hD
end
end
