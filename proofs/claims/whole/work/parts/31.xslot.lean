/-! repeats and joins of slots -/
theorem xs_sh {v : Int32} {P : Nat → Prop} {c : Nat} (hc : c < 32) (h : ∀ b, bt v b = true ↔ P b) (hP : ∀ b, P b → b + c < 32) (b : Nat) : bt (v <<< (nI c &&& 31)) b = true ↔ c ≤ b ∧ P (b - c) := by
  rcases Nat.lt_or_ge b 32 with z | z
  · rw [b_shl c hc v z, Bool.and_eq_true, decide_eq_true_eq, h]
  · rw [b_big z]
    refine ⟨(fun y => by cases y), fun y => ?_⟩
    have := hP _ y.2
    omega
theorem xs_or {v w : Int32} {P Q : Prop} {b : Nat} (h1 : bt v b = true ↔ P) (h2 : bt w b = true ↔ Q) : bt (v ||| w) b = true ↔ P ∨ Q := by rw [b_or, Bool.or_eq_true, h1, h2]
theorem xs_rep {c e a t e' a' : Nat → Int32} {s o : Nat} {x : gk_T} (h : xs_S c e a t s x) (ha : o ≠ 2 → a' = xw_aa a s (e s) (a (s * 7 + 6))) (ha2 : o = 2 → a' = a) (he : o ≠ 1 → e' = upd e s (e s ||| 64)) (he1 : o = 1 → e' = e) : xs_S c e' a' t s (gk_rep o x) := by
  obtain ⟨g0, g1, g2, g3, g4, g5⟩ := h
  have h6 : gk_c x ≤ 6 := g0.1
  refine ⟨gk_wf_rep g0, g1, fun i => ?_, fun i b hi => ?_, fun b => ?_, g5⟩
  · by_cases h1 : o = 1
    · rw [he1 h1, g2]
      refine ⟨fun z => ?_, fun z => ?_⟩
      · rcases z with z | ⟨z1, z2⟩
        · exact Or.inl z
        · exact Or.inr ⟨z1, Or.inl z2⟩
      · rcases z with z | ⟨z1, z2 | z2⟩
        · exact Or.inl z
        · exact Or.inr ⟨z1, z2⟩
        · exact absurd h1 z2
    · rw [he h1, pk_us, xs_or (g2 i) (by rw [b_64, decide_eq_true_eq])]
      refine ⟨fun z => ?_, fun z => ?_⟩
      · rcases z with (z | ⟨z1, z2⟩) | z
        · exact Or.inl z
        · exact Or.inr ⟨z1, Or.inl z2⟩
        · exact Or.inr ⟨z, Or.inr h1⟩
      · rcases z with z | ⟨z1, _⟩
        · exact Or.inl (Or.inl z)
        · exact Or.inr z1
  · have hi : i < gk_c x := hi
    by_cases h2 : o = 2
    · rw [ha2 h2, g3 i b hi]
      exact ⟨fun z => Or.inl z, fun z => by
        rcases z with z | ⟨z, _⟩
        · exact z
        · exact absurd h2 z⟩
    · rw [ha h2]
      unfold xw_aa
      rw [ax_in (by omega)]
      by_cases z : bt (e s) i = true
      · rw [if_pos z, xs_or (g3 i b hi) (g4 b)]
        have z : gk_en x i := by
          rcases (g2 i).mp z with z | ⟨z, _⟩
          · exact z
          · omega
        exact ⟨fun y => by
          rcases y with y | y
          · exact Or.inl y
          · exact Or.inr ⟨h2, z, y⟩, fun y => by
          rcases y with y | ⟨_, _, y⟩
          · exact Or.inl y
          · exact Or.inr y⟩
      · rw [if_neg z, g3 i b hi]
        exact ⟨fun y => Or.inl y, fun y => by
          rcases y with y | ⟨_, y, _⟩
          · exact y
          · exact absurd ((g2 i).mpr (Or.inl y)) z⟩
  · by_cases h2 : o = 2
    · rw [ha2 h2]; exact g4 b
    · rw [ha h2]
      unfold xw_aa
      rw [ax_in (by omega)]
      split
      · rw [xs_or (g4 b) (g4 b)]; exact ⟨fun y => y.elim id id, Or.inl⟩
      · exact g4 b
section
variable {c e a t : Nat → Int32} {s : Nat} {x y : gk_T}
theorem xs_jb (hx : xs_S c e a t s x) (hy : xs_S c e a t (s + 1) y) (b : Nat) : bt (xw_jb a s (gk_c x)) b = true ↔ gk_c x ≤ b ∧ gk_bg y (b - gk_c x) :=
  xs_sh (by have := hx.1.1; omega) hy.2.2.2.2.1 (fun b z => by have := hy.1.2.1 b z; have := hx.1.1; have := hy.1.1; omega) b
theorem xs_je (hy : xs_S c e a t (s + 1) y) (b : Nat) : bt (xw_je e s) b = true ↔ b = 6 ∧ gk_nu y := by
  unfold xw_je
  rw [b_and, Bool.and_eq_true, b_64, decide_eq_true_eq, hy.2.2.1]
  refine ⟨fun z => ⟨z.2, ?_⟩, fun z => ⟨Or.inr z, z.1⟩⟩
  rcases z.1 with y1 | y1
  · have := hy.1.2.2.1 _ y1; have := hy.1.1; omega
  · exact y1.2
theorem xs_jE (hx : xs_S c e a t s x) (hy : xs_S c e a t (s + 1) y) (b : Nat) : bt (xw_jE e s (gk_c x)) b = true ↔ gk_c x ≤ b ∧ gk_en y (b - gk_c x) := by
  refine xs_sh (P := gk_en y) (by have := hx.1.1; omega) (fun b => ?_) (fun b z => by have := hy.1.2.2.1 b z; have := hx.1.1; have := hy.1.1; omega) b
  have h1 := hy.2.2.1 b
  have h2 := xs_je (s := s) hy b
  unfold xw_je at h2
  rw [b_xor]
  have h6 : gk_en y b → b ≠ 6 := fun z => by have := hy.1.2.2.1 b z; have := hy.1.1; omega
  cases z1 : bt (e (s + 1)) b
  · rw [z1] at h1
    have n1 : ¬ (gk_en y b ∨ b = 6 ∧ gk_nu y) := fun z => by cases h1.mpr z
    cases z2 : bt (e (s + 1) &&& 64) b
    · exact ⟨(fun z => by cases z), fun z => absurd (Or.inl z) n1⟩
    · exact absurd (Or.inr (h2.mp z2)) n1
  · rw [z1] at h1
    have n1 := h1.mp rfl
    cases z2 : bt (e (s + 1) &&& 64) b
    · refine ⟨fun _ => ?_, fun _ => rfl⟩
      rcases n1 with n1 | n1
      · exact n1
      · rw [h2.mpr n1] at z2; cases z2
    · refine ⟨(fun z => by cases z), fun z => absurd (h2.mp z2).1 (h6 z)⟩
/-- a row of the arrows of the joined slot -/
theorem xs_ja (hx : xs_S c e a t s x) (hy : xs_S c e a t (s + 1) y) (h6 : gk_c x + gk_c y ≤ 6) {M : Int32} {i : Nat} (hi : i < gk_c x + gk_c y) (hM : bt M i = true → i < gk_c x) (b : Nat) :
    bt (xw_aa (xw_ja a s (gk_c x) (gk_c y)) s M (xw_jb a s (gk_c x)) (s * 7 + i)) b = true ↔ gk_ar x i b ∨ (gk_c x ≤ i ∧ gk_c x ≤ b ∧ gk_ar y (i - gk_c x) (b - gk_c x)) ∨ (bt M i = true ∧ gk_c x ≤ b ∧ gk_bg y (b - gk_c x)) := by
  unfold xw_aa
  rw [ax_in (by omega)]
  rcases Nat.lt_or_ge i (gk_c x) with z | z
  · have e1 : xw_ja a s (gk_c x) (gk_c y) (s * 7 + i) = a (s * 7 + i) := ax_out (by omega)
    rw [e1]
    by_cases w : bt M i = true
    · rw [if_pos w, xs_or (hx.2.2.2.1 i b z) (xs_jb hx hy b)]
      exact ⟨fun k => by
        rcases k with k | k
        · exact Or.inl k
        · exact Or.inr (Or.inr ⟨w, k⟩), fun k => by
        rcases k with k | ⟨k, _⟩ | ⟨_, k⟩
        · exact Or.inl k
        · omega
        · exact Or.inr k⟩
    · rw [if_neg w, hx.2.2.2.1 i b z]
      exact ⟨Or.inl, fun k => by
        rcases k with k | ⟨k, _⟩ | ⟨k, _⟩
        · exact k
        · omega
        · exact absurd k w⟩
  · have w : ¬ bt M i = true := fun w => by have := hM w; omega
    rw [if_neg w]
    have e1 : xw_ja a s (gk_c x) (gk_c y) (s * 7 + i) = a ((s + 1) * 7 + (i - gk_c x)) <<< (nI (gk_c x) &&& 31) := by
      have := ax_in (a := a) (b := s * 7 + gk_c x) (n := gk_c y) (j := i - gk_c x) (v := fun p => a ((s + 1) * 7 + p) <<< (nI (gk_c x) &&& 31)) (by omega)
      rw [show s * 7 + gk_c x + (i - gk_c x) = s * 7 + i by omega] at this
      exact this
    rw [e1, xs_sh (P := fun b => gk_ar y (i - gk_c x) b) (by omega) (fun b => hy.2.2.2.1 (i - gk_c x) b (by omega)) (fun b k => by have := (hy.1.2.2.2.1 _ _ k).2; omega)]
    exact ⟨fun k => Or.inr (Or.inl ⟨z, k⟩), fun k => by
      rcases k with k | ⟨_, k⟩ | ⟨k, _⟩
      · have := (hx.1.2.2.2.1 _ _ k).1; omega
      · exact k
      · exact absurd k w⟩
theorem xs_j6 (hx : xs_S c e a t s x) (hy : xs_S c e a t (s + 1) y) (h6 : gk_c x + gk_c y ≤ 6) {M : Int32} (b : Nat) :
    bt (xw_aa (xw_ja a s (gk_c x) (gk_c y)) s M (xw_jb a s (gk_c x)) (s * 7 + 6)) b = true ↔ gk_bg x b ∨ (gk_c x ≤ b ∧ gk_bg y (b - gk_c x) ∧ bt M 6 = true) := by
  unfold xw_aa
  rw [ax_in (by omega)]
  have e1 : xw_ja a s (gk_c x) (gk_c y) (s * 7 + 6) = a (s * 7 + 6) := ax_out (by omega)
  rw [e1]
  by_cases w : bt M 6 = true
  · rw [if_pos w, xs_or (hx.2.2.2.2.1 b) (xs_jb hx hy b)]
    exact ⟨fun k => by
      rcases k with k | k
      · exact Or.inl k
      · exact Or.inr ⟨k.1, k.2, w⟩, fun k => by
      rcases k with k | k
      · exact Or.inl k
      · exact Or.inr ⟨k.1, k.2.1⟩⟩
  · rw [if_neg w, hx.2.2.2.2.1 b]
    exact ⟨Or.inl, fun k => by
      rcases k with k | k
      · exact k
      · exact absurd k.2.2 w⟩
theorem xs_jt (hx : xs_S c e a t s x) (hy : xs_S c e a t (s + 1) y) {l : Nat} (hl : l < 3) (b : Nat) : bt (xw_jt t s (gk_c x) (s * 3 + l)) b = true ↔ gk_tk x b l ∨ (gk_c x ≤ b ∧ gk_tk y (b - gk_c x) l) := by
  unfold xw_jt
  rw [ax_in hl]
  refine xs_or (hx.2.2.2.2.2 l b hl) (xs_sh (P := fun b => gk_tk y b l) (by have := hx.1.1; omega) (fun b => hy.2.2.2.2.2 l b hl) (fun b k => by have := hy.1.2.2.2.2 _ _ k; have := hx.1.1; have := hy.1.1; omega) b)
theorem xs_alt (hx : xs_S c e a t s x) (hy : xs_S c e a t (s + 1) y) (h6 : gk_c x + gk_c y ≤ 6) :
    xs_S (upd c s (nI (gk_c x + gk_c y))) (upd e s (e s ||| (xw_jE e s (gk_c x) ||| xw_je e s))) (xw_aa (xw_ja a s (gk_c x) (gk_c y)) s 64 (xw_jb a s (gk_c x))) (xw_jt t s (gk_c x)) s (gk_join 1 x y) := by
  refine ⟨gk_wf_join hx.1 hy.1 h6, pk_us, fun i => ?_, fun i b hi => ?_, fun b => ?_, fun l b hl => xs_jt hx hy hl b⟩
  · rw [pk_us, xs_or (hx.2.2.1 i) (xs_or (xs_jE hx hy i) (xs_je hy i))]
    refine ⟨fun k => ?_, fun k => ?_⟩
    · rcases k with (k | k) | k | k
      · exact Or.inl (Or.inl ⟨k, Or.inl (by decide)⟩)
      · exact Or.inr ⟨k.1, Or.inr ⟨by decide, Or.inl k.2⟩⟩
      · exact Or.inl (Or.inr k)
      · exact Or.inr ⟨k.1, Or.inr ⟨by decide, Or.inr k.2⟩⟩
    · rcases k with (k | k) | ⟨k1, k2 | ⟨_, k2 | k2⟩⟩
      · exact Or.inl (Or.inl k.1)
      · exact Or.inr (Or.inl k)
      · exact absurd k2.1 (by decide)
      · exact Or.inl (Or.inr ⟨k1, k2⟩)
      · exact Or.inr (Or.inr ⟨k1, k2⟩)
  · have hi : i < gk_c x + gk_c y := hi
    have n : ¬ bt 64 i = true := by rw [b_64, decide_eq_true_eq]; omega
    rw [xs_ja hx hy h6 hi (fun z => absurd z n)]
    refine ⟨fun k => ?_, fun k => ?_⟩
    · rcases k with k | k | k
      · exact Or.inl k
      · exact Or.inr (Or.inl k)
      · exact absurd k.1 n
    · rcases k with k | k | k
      · exact Or.inl k
      · exact Or.inr (Or.inl k)
      · exact absurd k.1 (by decide)
  · rw [xs_j6 hx hy h6]
    have y6 : bt 64 6 = true := by decide
    exact ⟨fun k => k.imp id (fun k => ⟨k.1, k.2.1, Or.inl (by decide)⟩), fun k => k.imp id (fun k => ⟨k.1, k.2.1, y6⟩)⟩
theorem xs_cat (hx : xs_S c e a t s x) (hy : xs_S c e a t (s + 1) y) (h6 : gk_c x + gk_c y ≤ 6) :
    xs_S (upd c s (nI (gk_c x + gk_c y))) (upd e s (if xw_je e s = 0 then xw_jE e s (gk_c x) else e s ||| xw_jE e s (gk_c x))) (xw_aa (xw_ja a s (gk_c x) (gk_c y)) s (e s) (xw_jb a s (gk_c x))) (xw_jt t s (gk_c x)) s (gk_join 0 x y) := by
  have x6 : gk_c x ≤ 6 := hx.1.1
  refine ⟨gk_wf_join hx.1 hy.1 h6, pk_us, fun i => ?_, fun i b hi => ?_, fun b => ?_, fun l b hl => xs_jt hx hy hl b⟩
  · rw [pk_us]
    by_cases z : xw_je e s = 0
    · rw [if_pos z, xs_jE hx hy i]
      have nn : ¬ gk_nu y := fun k => by
        have := (xs_je hy 6).mpr ⟨rfl, k⟩
        rw [z, b_0] at this
        cases this
      refine ⟨fun k => Or.inl (Or.inr k), fun k => ?_⟩
      rcases k with (k | k) | ⟨k1, k2 | k2⟩
      · rcases k.2 with k | k
        · exact absurd rfl k
        · exact absurd k nn
      · exact k
      · exact absurd k2.2.2 nn
      · exact absurd rfl k2.1
    · rw [if_neg z, xs_or (hx.2.2.1 i) (xs_jE hx hy i)]
      have nn : gk_nu y := by
        refine Classical.byContradiction fun k => z (b_zero.mpr fun i _ => ?_)
        cases w : bt (xw_je e s) i
        · rfl
        · exact absurd ((xs_je hy i).mp w).2 k
      refine ⟨fun k => ?_, fun k => ?_⟩
      · rcases k with (k | k) | k
        · exact Or.inl (Or.inl ⟨k, Or.inr nn⟩)
        · exact Or.inr ⟨k.1, Or.inl ⟨rfl, k.2, nn⟩⟩
        · exact Or.inl (Or.inr k)
      · rcases k with (k | k) | ⟨k1, k2 | k2⟩
        · exact Or.inl (Or.inl k.1)
        · exact Or.inr k
        · exact Or.inl (Or.inr ⟨k1, k2.2.1⟩)
        · exact absurd rfl k2.1
  · have hi : i < gk_c x + gk_c y := hi
    have eM : bt (e s) i = true ↔ gk_en x i := by
      rw [hx.2.2.1 i]
      exact ⟨fun k => by
        rcases k with k | k
        · exact k
        · omega, Or.inl⟩
    rw [xs_ja hx hy h6 hi (fun z => hx.1.2.2.1 _ (eM.mp z))]
    refine ⟨fun k => ?_, fun k => ?_⟩
    · rcases k with k | k | k
      · exact Or.inl k
      · exact Or.inr (Or.inl k)
      · exact Or.inr (Or.inr ⟨rfl, eM.mp k.1, k.2⟩)
    · rcases k with k | k | k
      · exact Or.inl k
      · exact Or.inr (Or.inl k)
      · exact Or.inr (Or.inr ⟨eM.mpr k.2.1, k.2.2⟩)
  · rw [xs_j6 hx hy h6]
    have eM : bt (e s) 6 = true ↔ gk_nu x := by
      rw [hx.2.2.1 6]
      exact ⟨fun k => by
        rcases k with k | k
        · have := hx.1.2.2.1 _ k; omega
        · exact k.2, fun k => Or.inr ⟨rfl, k⟩⟩
    exact ⟨fun k => k.imp id (fun k => ⟨k.1, k.2.1, Or.inr (eM.mp k.2.2)⟩), fun k => k.imp id (fun k => ⟨k.1, k.2.1, by
      rcases k.2.2 with k | k
      · exact absurd rfl k
      · exact eM.mpr k⟩)⟩
end
