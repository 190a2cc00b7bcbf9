/-! the states: closed sets of items; their steps; the looks that spread along them; the wide states -/
def tb_mv (g : rg_T) (S : Int64) (x k : Nat) : Prop := ∃ i, k = i + 1 ∧ bl S i = true ∧ im_nx g i x
noncomputable def tb_to (g : rg_T) (S : Int64) (x : Nat) : Option Int64 := @ite _ (∃ k, tb_mv g S x k) (Classical.propDecidable _) (some (mk_l (cl_0 g (tb_mv g S x)))) none
noncomputable def tb_a0 (g : rg_T) : Int64 := mk_l (cl_0 g (fun k => k = 45))
def tb_io (g : rg_T) (S : Int64) : Prop := ∀ i, bl S i = true → im_ok g i
theorem tb_mv_ok {g : rg_T} (hg : rg_ok g) {S : Int64} (hS : tb_io g S) {x k : Nat} (h : tb_mv g S x k) : im_ok g k := by
  obtain ⟨i, rfl, h1, h2⟩ := h
  exact (im_s hg (hS i h1) h2).1
theorem tb_mk {g : rg_T} (hg : rg_ok g) {S : Nat → Prop} (hS : ∀ i, S i → im_ok g i) (k : Nat) : bl (mk_l (cl_0 g S)) k = true ↔ cl_0 g S k := by
  rcases Nat.lt_or_ge k 64 with h | h
  · exact mk_bl _ h
  · rw [bl_big h]
    refine ⟨(fun z => by cases z), fun z => ?_⟩
    have := im_lt hg (cl_ok hS z)
    omega
theorem tb_io0 {g : rg_T} (hg : rg_ok g) : tb_io g (tb_a0 g) := by
  have h45 : ∀ i, i = 45 → im_ok g i := by rintro i rfl; exact im_45 g
  intro i h
  exact cl_ok h45 ((tb_mk hg h45 i).mp h)
theorem tb_some {g : rg_T} {S T : Int64} {x : Nat} (h : tb_to g S x = some T) : (∃ k, tb_mv g S x k) ∧ T = mk_l (cl_0 g (tb_mv g S x)) := by
  unfold tb_to at h
  by_cases z : ∃ k, tb_mv g S x k
  · rw [if_pos z] at h
    exact ⟨z, (Option.some.inj h).symm⟩
  · rw [if_neg z] at h; cases h
theorem tb_ex {g : rg_T} {S : Int64} {x k : Nat} (h : tb_mv g S x k) : tb_to g S x = some (mk_l (cl_0 g (tb_mv g S x))) := if_pos ⟨k, h⟩
theorem tb_io1 {g : rg_T} (hg : rg_ok g) {S T : Int64} {x : Nat} (hS : tb_io g S) (h : tb_to g S x = some T) : tb_io g T := by
  obtain ⟨_, rfl⟩ := tb_some h
  intro i hi
  exact cl_ok (fun k z => tb_mv_ok hg hS z) ((tb_mk hg (fun k z => tb_mv_ok hg hS z) i).mp hi)
/-- a full list of states -/
def tb_full (g : rg_T) (f : Nat → Int64) (n : Nat) : Prop :=
  1 ≤ n ∧ f 0 = tb_a0 g ∧ (∀ s t, s < n → t < n → f s = f t → s = t) ∧ (∀ P : Int64 → Prop, P (tb_a0 g) → (∀ a x b, x < 7 → P a → tb_to g a x = some b → P b) → ∀ s, s < n → P (f s)) ∧ (∀ s x a, s < n → x < 7 → tb_to g (f s) x = some a → ∃ s', s' < n ∧ f s' = a)
theorem bf_full {α : Type} {a0 : α} {to : α → Nat → Option α} {k : Nat} (h : (bf_at a0 to k).2 * 7 ≤ k) :
    1 ≤ (bf_at a0 to k).2 ∧ (bf_at a0 to k).1 0 = a0 ∧ (∀ s t, s < (bf_at a0 to k).2 → t < (bf_at a0 to k).2 → (bf_at a0 to k).1 s = (bf_at a0 to k).1 t → s = t) ∧
    (∀ P : α → Prop, P a0 → (∀ a x b, x < 7 → P a → to a x = some b → P b) → ∀ s, s < (bf_at a0 to k).2 → P ((bf_at a0 to k).1 s)) ∧
    (∀ s x a, s < (bf_at a0 to k).2 → x < 7 → to ((bf_at a0 to k).1 s) x = some a → ∃ s', s' < (bf_at a0 to k).2 ∧ (bf_at a0 to k).1 s' = a) := by
  refine ⟨(bf_pos k).1, (bf_pos k).2, bf_diff k, fun P h0 hs => bf_gen P h0 hs k, fun s x a hs hx ha => ?_⟩
  -- the place of s and x in the list was gone through after s was there
  have hk : s * 7 + x < k := by omega
  have e1 : (s * 7 + x) / 7 = s := by omega
  have e2 : (s * 7 + x) % 7 = x := by omega
  have hl : (s * 7 + x) / 7 < (bf_at a0 to (s * 7 + x)).2 := by
    rw [e1]
    refine Classical.byContradiction fun z => ?_
    have z : (bf_at a0 to (s * 7 + x)).2 ≤ s := by omega
    have st := bf_stop (a0 := a0) (to := to) (k := s * 7 + x) (by omega) (k - (s * 7 + x))
    rw [show s * 7 + x + (k - (s * 7 + x)) = k by omega] at st
    rw [st] at hs
    omega
  have := bf_done k (s * 7 + x) hk hl a (by rw [e1, e2]; exact ha)
  exact this
theorem tb_bl0 {g : rg_T} (hg : rg_ok g) (k : Nat) : bl (tb_a0 g) k = true ↔ cl_0 g (fun k => k = 45) k := tb_mk hg (by rintro i rfl; exact im_45 g) k
theorem tb_blt {g : rg_T} (hg : rg_ok g) {S T : Int64} {x : Nat} (hS : tb_io g S) (h : tb_to g S x = some T) (k : Nat) : bl T k = true ↔ cl_0 g (tb_mv g S x) k := by
  obtain ⟨_, rfl⟩ := tb_some h
  exact tb_mk hg (fun k z => tb_mv_ok hg hS z) k
theorem tb_fio {g : rg_T} (hg : rg_ok g) {f : Nat → Int64} {n : Nat} (hf : tb_full g f n) {s : Nat} (hs : s < n) : tb_io g (f s) := hf.2.2.2.1 (tb_io g) (tb_io0 hg) (fun _ _ _ _ h1 h2 => tb_io1 hg h1 h2) s hs
/-- a state is closed -/
theorem tb_fcl {g : rg_T} (hg : rg_ok g) {f : Nat → Int64} {n : Nat} (hf : tb_full g f n) {s : Nat} (hs : s < n) : cl_cl g (fun k => bl (f s) k = true) := by
  have key := hf.2.2.2.1 (fun S => tb_io g S ∧ cl_cl g (fun k => bl S k = true)) ⟨tb_io0 hg, fun k r h hU hn => (tb_bl0 hg _).mpr (cl_self g _ k r ((tb_bl0 hg k).mp h) hU hn)⟩ (fun a x b _ h1 h2 => ⟨tb_io1 hg h1.1 h2, fun k r h hU hn => (tb_blt hg h1.1 h2 _).mpr (cl_self g _ k r ((tb_blt hg h1.1 h2 k).mp h) hU hn)⟩) s hs
  exact key.2
/-! looks in the states -/
def la_cl (g : rg_T) (f : Nat → Int64) (n : Nat) (P : Nat → Nat → Nat → Prop) : Prop :=
  P 0 3 45 ∧ (∀ s, s < n → cw_cl g (P s)) ∧ (∀ s t k x s', s < n → s' < n → P s t k → im_nx g k x → tb_to g (f s) x = some (f s') → P s' t (k + 1))
def la_L (g : rg_T) (f : Nat → Int64) (n : Nat) (s t k : Nat) : Prop := ∀ P, la_cl g f n P → P s t k
theorem la_self (g : rg_T) (f : Nat → Int64) (n : Nat) : la_cl g f n (la_L g f n) :=
  ⟨fun _ h => h.1, fun s hs t k r t' h1 h2 h3 h4 P hP => hP.2.1 s hs t k r t' (h1 P hP) h2 h3 h4, fun s t k x s' h1 h2 h3 h4 h5 P hP => hP.2.2 s t k x s' h1 h2 (h3 P hP) h4 h5⟩
theorem fs_t_le {F : Nat → Nat → Prop} {h : Nat → Nat} {c p t a : Nat} (ht : t ≤ 3) (z : fs_t F h c p t a) : a ≤ 3 := by
  rcases z with ⟨z, _⟩ | ⟨_, z⟩ <;> omega
/-- a look is at an item of its state -/
theorem la_in {g : rg_T} (hg : rg_ok g) {f : Nat → Int64} {n : Nat} (hf : tb_full g f n) {s t k : Nat} (h : la_L g f n s t k) : s < n ∧ bl (f s) k = true ∧ t ≤ 3 ∧ (k / 5 = 9 → t = 3) := by
  refine h (fun s t k => s < n ∧ bl (f s) k = true ∧ t ≤ 3 ∧ (k / 5 = 9 → t = 3)) ⟨⟨hf.1, ?_, by omega, fun _ => rfl⟩, ?_, ?_⟩
  · rw [hf.2.1]; exact (tb_bl0 hg 45).mpr (cl_sub rfl)
  · intro s hs t k r t' h1 hU hn hfs
    refine ⟨hs, tb_fcl hg hf hs k r h1.2.1 hU hn, fs_t_le h1.2.2.1 hfs, fun z => ?_⟩
    have := hU.1
    have := hg.1
    omega
  · intro s t k x s' hs hs' h1 hn ht
    have hio := tb_fio hg hf hs
    refine ⟨hs', (tb_blt hg hio ht _).mpr (cl_sub ⟨k, rfl, h1.2.1, hn⟩), h1.2.2.1, fun z => h1.2.2.2 ?_⟩
    have := (im_s hg (hio k h1.2.1) hn).2.1
    omega
/-- every item of a state has a look -/
theorem la_ex {g : rg_T} (hg : rg_ok g) (hu : ∃ r, us_U g r) {f : Nat → Int64} {n : Nat} (hf : tb_full g f n) {s k : Nat} (hs : s < n) (h : bl (f s) k = true) : ∃ t, la_L g f n s t k := by
  have L := la_self g f n
  have hne := fi_ne hg hu
  have look : ∀ k x t, im_ok g k → im_nx g k x → ∃ t', fs_t (fi_F g) (rg_h g (k / 5)) (rg_c g (k / 5) - (k % 5 + 1)) (k % 5 + 1) t t' := by
    intro k x t hk hn
    exact fs_ex (G := tg_G g) hne hk.1 t _ _ (by have := hn.1; show k % 5 + 1 + (rg_c g (k / 5) - (k % 5 + 1)) = rg_c g (k / 5); omega)
  have key := hf.2.2.2.1 (fun a => (∃ s, s < n ∧ f s = a) ∧ tb_io g a ∧ ∀ s, s < n → f s = a → ∀ k, bl a k = true → ∃ t, la_L g f n s t k) ⟨⟨0, hf.1, hf.2.1⟩, tb_io0 hg, ?_⟩ ?_ s hs
  · exact key.2.2 s hs rfl k h
  · intro s hs e k hk
    have e0 : s = 0 := hf.2.2.1 s 0 hs hf.1 (by rw [e, hf.2.1])
    subst e0
    have hk := (tb_bl0 hg k).mp hk
    refine (hk (fun k => im_ok g k ∧ ∃ t, la_L g f n 0 t k) ?_ ?_).2
    · rintro i rfl; exact ⟨im_45 g, 3, L.1⟩
    · rintro k r ⟨h1, t, h2⟩ hU hn
      obtain ⟨t', h3⟩ := look k _ t h1 hn
      exact ⟨im_0 hU, t', L.2.1 0 hf.1 t k r t' h2 hU hn h3⟩
  · intro a x b hx ⟨⟨s0, hs0, e0⟩, hio, ha⟩ hto
    obtain ⟨s1, hs1, e1⟩ := hf.2.2.2.2 s0 x b hs0 hx (by rw [e0]; exact hto)
    refine ⟨⟨s1, hs1, e1⟩, tb_io1 hg hio hto, fun s hs e k hk => ?_⟩
    have hk := (tb_blt hg hio hto k).mp hk
    refine (hk (fun k => im_ok g k ∧ ∃ t, la_L g f n s t k) ?_ ?_).2
    · rintro k ⟨i, rfl, h1, h2⟩
      obtain ⟨t, h3⟩ := ha s0 hs0 e0 i h1
      exact ⟨(im_s hg (hio i h1) h2).1, t, L.2.2 s0 t i x s hs0 hs h3 h2 (by rw [e0, e]; exact hto)⟩
    · rintro k r ⟨h1, t, h2⟩ hU hn
      obtain ⟨t', h3⟩ := look k _ t h1 hn
      exact ⟨im_0 hU, t', L.2.1 s hs t k r t' h2 hU hn h3⟩
/-- the looks follow -/
theorem la_fo {g : rg_T} (hg : rg_ok g) {f : Nat → Int64} {n : Nat} (hf : tb_full g f n) {s t k : Nat} (h : la_L g f n s t k) : us_U g (k / 5) → fo_W g (rg_l g (k / 5)) t := by
  have W := fo_self g
  have key := h (fun s t k => (s < n ∧ bl (f s) k = true) ∧ (k / 5 = 9 → t = 3) ∧ (us_U g (k / 5) → fo_W g (rg_l g (k / 5)) t)) ⟨⟨⟨hf.1, ?_⟩, fun _ => rfl, fun z => ?_⟩, ?_, ?_⟩
  · exact key.2.2
  · rw [hf.2.1]; exact (tb_bl0 hg 45).mpr (cl_sub rfl)
  · have := z.1; have := hg.1; omega
  · intro s hs t k r t' ⟨⟨_, h0⟩, h1, h2⟩ hU hn hfs
    have e : 5 * r / 5 = r := by omega
    rw [e]
    refine ⟨⟨hs, tb_fcl hg hf hs k r h0 hU hn⟩, fun z => ?_, fun _ => ?_⟩
    · have := hU.1; have := hg.1; omega
    · have hio := tb_fio hg hf hs k h0
      rcases hio.1 with hk | hk
      · rw [← hn.2]
        rcases hfs with ⟨z1, z2⟩ | ⟨z1, rfl⟩
        · exact (W.2 (k / 5) (k % 5) hk hn.1).1 t' z1 z2
        · exact (W.2 (k / 5) (k % 5) hk hn.1).2 z1 _ (h2 hk)
      · have ht := h1 hk
        have hp := hn.1
        rw [hk, hg.2.2.2.1] at hp
        have hp0 : k % 5 = 0 := by omega
        have hl := hn.2
        rw [hk, hp0, hg.2.2.2.2] at hl
        rw [← hl]
        rw [hk, hp0, hg.2.2.2.1] at hfs
        have : t' = 3 := by
          rcases hfs with ⟨z1, z2⟩ | ⟨_, z⟩
          · have z2 : t' = 3 := z2; exact z2
          · omega
        rw [this]
        exact W.1
  · intro s t k x s' hs hs' ⟨⟨_, h0⟩, h1, h2⟩ hn ht
    have hio := tb_fio hg hf hs
    have e := (im_s hg (hio k h0) hn).2.1
    rw [e]
    exact ⟨⟨hs', (tb_blt hg hio ht _).mpr (cl_sub ⟨k, rfl, h0, hn⟩)⟩, h1, h2⟩
/-! what a clash is: N the items, C t those that count at look t -/
def cs_x (g : rg_T) (N : Nat → Prop) (C : Nat → Nat → Prop) (t : Nat) : Prop :=
  (∃ k k', k ≠ k' ∧ N k ∧ N k' ∧ C t k ∧ C t k' ∧ k % 5 = rg_c g (k / 5) ∧ k' % 5 = rg_c g (k' / 5)) ∨ (t < 3 ∧ ∃ k k', N k ∧ C t k ∧ k % 5 = rg_c g (k / 5) ∧ N k' ∧ im_nx g k' t)
theorem cs_mono {g : rg_T} {N : Nat → Prop} {C C' : Nat → Nat → Prop} {t : Nat} (h : ∀ k, N k → k % 5 = rg_c g (k / 5) → C t k → C' t k) (z : cs_x g N C t) : cs_x g N C' t := by
  rcases z with ⟨k, k', h1, h2, h3, h4, h5, h6, h7⟩ | ⟨h1, k, k', h2, h3, h4, h5, h6⟩
  · exact Or.inl ⟨k, k', h1, h2, h3, h k h2 h6 h4, h k' h3 h7 h5, h6, h7⟩
  · exact Or.inr ⟨h1, k, k', h2, h k h2 h4 h3, h4, h5, h6⟩
/-- what counts in the states: all; those whose left is followed; the looks -/
def cs_C1 (g : rg_T) (t k : Nat) : Prop := if k / 5 = 9 then t = 3 else fo_W g (rg_l g (k / 5)) t
def cs_0 (g : rg_T) (f : Nat → Int64) (n : Nat) : Prop := ∃ s t, s < n ∧ t < 4 ∧ cs_x g (fun k => bl (f s) k = true) (fun _ _ => True) t
def cs_1 (g : rg_T) (f : Nat → Int64) (n : Nat) : Prop := ∃ s t, s < n ∧ t < 4 ∧ cs_x g (fun k => bl (f s) k = true) (cs_C1 g) t
def cs_2 (g : rg_T) (f : Nat → Int64) (n : Nat) : Prop := ∃ s t, s < n ∧ t < 4 ∧ cs_x g (fun k => bl (f s) k = true) (la_L g f n s) t
theorem cs_20 {g : rg_T} {f : Nat → Int64} {n : Nat} (h : cs_2 g f n) : cs_0 g f n := by
  obtain ⟨s, t, h1, h2, h3⟩ := h
  exact ⟨s, t, h1, h2, cs_mono (fun _ _ _ _ => trivial) h3⟩
theorem cs_21 {g : rg_T} (hg : rg_ok g) {f : Nat → Int64} {n : Nat} (hf : tb_full g f n) (h : cs_2 g f n) : cs_1 g f n := by
  obtain ⟨s, t, h1, h2, h3⟩ := h
  refine ⟨s, t, h1, h2, cs_mono (fun k hk _ hl => ?_) h3⟩
  unfold cs_C1
  have hi := la_in hg hf hl
  have hio := tb_fio hg hf h1 k hk
  split
  · rename_i z; exact hi.2.2.2 z
  · rename_i z
    rcases hio.1 with y | y
    · exact la_fo hg hf hl y
    · exact absurd y z
/-! the reader over the states -/
def tb_nx (g : rg_T) (f : Nat → Int64) (n : Nat) (nx : lr_N) : Prop := ∀ q x q', nx q x = some q' ↔ q < n ∧ x < 7 ∧ q' < n ∧ tb_to g (f q) x = some (f q')
def tb_lk (g : rg_T) (f : Nat → Int64) (n : Nat) : lr_K := fun q r p t => p < 5 ∧ la_L g f n q t (5 * r + p)
theorem im_rp {r p : Nat} (hp : p < 5) : (5 * r + p) / 5 = r ∧ (5 * r + p) % 5 = p := by omega
theorem tb_A {g : rg_T} (hg : rg_ok g) {f : Nat → Int64} {n : Nat} (hf : tb_full g f n) {nx : lr_N} (hx : tb_nx g f n nx) (hc : ¬ cs_2 g f n) : lr_A (tg_G g) (fi_F g) (tb_lk g f n) nx := by
  have L := la_self g f n
  have hc4 : ∀ q r p t, tb_lk g f n q r p t → q < n ∧ bl (f q) (5 * r + p) = true ∧ im_ok g (5 * r + p) ∧ rg_c g r ≤ 4 ∧ t ≤ 3 := by
    intro q r p t h
    obtain ⟨e1, e2⟩ := im_rp (r := r) h.1
    have hi := la_in hg hf h.2
    have hio := tb_fio hg hf hi.1 _ hi.2.1
    refine ⟨hi.1, hi.2.1, hio, ?_, hi.2.2.1⟩
    have := hio.1
    rw [e1] at this
    exact ((tg_ok hg).2.1 r this).1
  refine ⟨⟨by omega, L.1⟩, ?_, ?_, ?_, ?_⟩
  · intro q r p t r' t' h hp hU hl hfs
    obtain ⟨e1, e2⟩ := im_rp (r := r) h.1
    have h4 := hc4 q r p t h
    refine ⟨by omega, L.2.1 q h4.1 t (5 * r + p) r' t' h.2 hU ⟨?_, ?_⟩ ?_⟩
    · rw [e1, e2]; exact hp
    · rw [e1, e2]; exact hl.symm
    · rw [e1, e2]; exact hfs
  · intro q r p t h hp
    have hp : p < rg_c g r := hp
    obtain ⟨e1, e2⟩ := im_rp (r := r) h.1
    have h4 := hc4 q r p t h
    have hn : im_nx g (5 * r + p) (rg_h g r p) := ⟨by rw [e1, e2]; exact hp, by rw [e1, e2]⟩
    have hx7 : rg_h g r p < 7 := by
      have := h4.2.2.1.1
      rw [e1] at this
      exact ((tg_ok hg).2.1 r this).2 p hp
    have hto := tb_ex (g := g) (S := f q) (x := rg_h g r p) (k := 5 * r + p + 1) ⟨_, rfl, h4.2.1, hn⟩
    obtain ⟨q', h1, h2⟩ := hf.2.2.2.2 q (rg_h g r p) _ h4.1 hx7 hto
    rw [← h2] at hto
    exact ⟨q', (hx _ _ _).mpr ⟨h4.1, hx7, h1, hto⟩, by omega, L.2.2 q t _ _ q' h4.1 h1 h.2 hn hto⟩
  · intro q r r' t h h'
    have h4 := hc4 q r _ t h
    have h4' := hc4 q r' _ t h'
    obtain ⟨e1, e2⟩ := im_rp (r := r) h.1
    obtain ⟨e1', e2'⟩ := im_rp (r := r') h'.1
    refine Classical.byContradiction fun z => hc ⟨q, t, h4.1, by omega, Or.inl ⟨_, _, ?_, h4.2.1, h4'.2.1, h.2, h'.2, ?_, ?_⟩⟩
    · intro e
      have : (5 * r + gr_c (tg_G g) r) / 5 = (5 * r' + gr_c (tg_G g) r') / 5 := by rw [e]
      rw [e1, e1'] at this
      exact z this
    · rw [e1, e2]; rfl
    · rw [e1', e2']; rfl
  · intro q r t r' p' t' h ht h' hp' he
    have h4 := hc4 q r _ t h
    have h4' := hc4 q r' _ t' h'
    obtain ⟨e1, e2⟩ := im_rp (r := r) h.1
    obtain ⟨e1', e2'⟩ := im_rp (r := r') h'.1
    refine hc ⟨q, t, h4.1, by omega, Or.inr ⟨ht, _, _, h4.2.1, h.2, ?_, h4'.2.1, ?_, ?_⟩⟩
    · rw [e1, e2]; rfl
    · rw [e1', e2']; exact hp'
    · rw [e1', e2']; exact he
theorem tb_B {g : rg_T} (hg : rg_ok g) (hu : ∃ r, us_U g r) {f : Nat → Int64} {n : Nat} (hf : tb_full g f n) {nx : lr_N} (hx : tb_nx g f n nx) : lr_B (tg_G g) (tb_lk g f n) nx := by
  refine ⟨?_, ?_, ?_, ?_⟩
  · intro R h9 hcl r p t h
    have hi := la_in hg hf h.2
    have hk := hi.2.1
    rw [hf.2.1] at hk
    have hk := (tb_bl0 hg _).mp hk
    have := hk (fun k => R (k / 5) (k % 5)) (by rintro i rfl; exact h9) (fun k r h1 hU hn => by
      have := hcl (k / 5) (k % 5) r h1 hn.1 hU hn.2.symm
      show R (5 * r / 5) (5 * r % 5)
      rw [show 5 * r / 5 = r by omega, show 5 * r % 5 = 0 by omega]; exact this)
    obtain ⟨e1, e2⟩ := im_rp (r := r) h.1
    rw [e1, e2] at this
    exact this
  · intro q x q' hq R hk0 hcl r p t h
    obtain ⟨hq1, hx7, hq2, hto⟩ := (hx _ _ _).mp hq
    have hio := tb_fio hg hf hq1
    have hi := la_in hg hf h.2
    have hk := (tb_blt hg hio hto _).mp hi.2.1
    have := hk (fun k => R (k / 5) (k % 5)) (by
      rintro k ⟨i, rfl, h1, h2⟩
      obtain ⟨t, ht⟩ := la_ex hg hu hf hq1 h1
      obtain ⟨_, e1, e2⟩ := im_s hg (hio i h1) h2
      rw [e1, e2]
      refine hk0 (i / 5) (i % 5) t ⟨by omega, ?_⟩ h2.1 h2.2
      rw [show 5 * (i / 5) + i % 5 = i by omega]; exact ht) (fun k r h1 hU hn => by
      have := hcl (k / 5) (k % 5) r h1 hn.1 hU hn.2.symm
      show R (5 * r / 5) (5 * r % 5)
      rw [show 5 * r / 5 = r by omega, show 5 * r % 5 = 0 by omega]; exact this)
    obtain ⟨e1, e2⟩ := im_rp (r := r) h.1
    rw [e1, e2] at this
    exact this
  · intro q p t h
    obtain ⟨e1, e2⟩ := im_rp (r := 9) h.1
    exact (la_in hg hf h.2).2.2.2 e1
  · intro q x q' hq
    obtain ⟨hq1, hx7, hq2, hto⟩ := (hx _ _ _).mp hq
    obtain ⟨⟨k, i, rfl, h1, h2⟩, _⟩ := tb_some hto
    obtain ⟨t, ht⟩ := la_ex hg hu hf hq1 h1
    refine ⟨i / 5, i % 5, t, ⟨by omega, ?_⟩, h2.1, h2.2⟩
    rw [show 5 * (i / 5) + i % 5 = i by omega]; exact ht
