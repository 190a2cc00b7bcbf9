/-! wide states: four sets of items, one a look -/
abbrev w4_T : Type := Int64 × Int64 × Int64 × Int64
def w4_t (a : w4_T) (t : Nat) : Int64 := if t = 0 then a.1 else if t = 1 then a.2.1 else if t = 2 then a.2.2.1 else a.2.2.2
def w4_mk (F : Nat → Int64) : w4_T := (F 0, F 1, F 2, F 3)
theorem w4_tm {F : Nat → Int64} {t : Nat} (ht : t < 4) : w4_t (w4_mk F) t = F t := by
  have : t = 0 ∨ t = 1 ∨ t = 2 ∨ t = 3 := by omega
  rcases this with rfl | rfl | rfl | rfl <;> rfl
theorem w4_ext {a b : w4_T} (h : ∀ t, t < 4 → w4_t a t = w4_t b t) : a = b := by
  obtain ⟨a0, a1, a2, a3⟩ := a
  obtain ⟨b0, b1, b2, b3⟩ := b
  have h0 : a0 = b0 := h 0 (by omega)
  have h1 : a1 = b1 := h 1 (by omega)
  have h2 : a2 = b2 := h 2 (by omega)
  have h3 : a3 = b3 := h 3 (by omega)
  subst h0 h1 h2 h3
  rfl
def tw_mv (g : rg_T) (a : w4_T) (x t k : Nat) : Prop := t < 4 ∧ ∃ i, k = i + 1 ∧ bl (w4_t a t) i = true ∧ im_nx g i x
noncomputable def tw_to (g : rg_T) (a : w4_T) (x : Nat) : Option w4_T := @ite _ (∃ t k, tw_mv g a x t k) (Classical.propDecidable _) (some (w4_mk fun t => mk_l (cw_0 g (tw_mv g a x) t))) none
noncomputable def tw_a0 (g : rg_T) : w4_T := w4_mk fun t => mk_l (cw_0 g (fun t k => t = 3 ∧ k = 45) t)
def tw_in (g : rg_T) (t k : Nat) : Prop := im_ok g k ∧ t ≤ 3 ∧ (k / 5 = 9 → t = 3)
def tw_io (g : rg_T) (a : w4_T) : Prop := ∀ t k, t < 4 → bl (w4_t a t) k = true → tw_in g t k
theorem cw_ok {g : rg_T} (hg : rg_ok g) {S : Nat → Nat → Prop} (hS : ∀ t k, S t k → tw_in g t k) {t k : Nat} (h : cw_0 g S t k) : tw_in g t k := by
  refine h (tw_in g) hS (fun t k r t' h1 hU hn hf => ⟨im_0 hU, fs_t_le h1.2.1 hf, fun z => ?_⟩)
  have := hU.1
  have := hg.1
  omega
theorem tw_mk {g : rg_T} (hg : rg_ok g) {S : Nat → Nat → Prop} (hS : ∀ t k, S t k → tw_in g t k) {t : Nat} (ht : t < 4) (k : Nat) : bl (w4_t (w4_mk fun t => mk_l (cw_0 g S t)) t) k = true ↔ cw_0 g S t k := by
  rw [w4_tm ht]
  rcases Nat.lt_or_ge k 64 with h | h
  · exact mk_bl _ h
  · rw [bl_big h]
    refine ⟨(fun z => by cases z), fun z => ?_⟩
    have := im_lt hg (cw_ok hg hS z).1
    omega
theorem tw_mv_ok {g : rg_T} (hg : rg_ok g) {a : w4_T} (ha : tw_io g a) {x t k : Nat} (h : tw_mv g a x t k) : tw_in g t k := by
  obtain ⟨ht, i, rfl, h1, h2⟩ := h
  have h3 := ha t i ht h1
  have h4 := im_s hg h3.1 h2
  exact ⟨h4.1, by omega, fun z => h3.2.2 (by rw [← h4.2.1]; exact z)⟩
theorem tw_45 {g : rg_T} : ∀ t k, t = 3 ∧ k = 45 → tw_in g t k := by
  rintro t k ⟨rfl, rfl⟩
  exact ⟨im_45 g, by omega, fun _ => rfl⟩
theorem tw_bl0 {g : rg_T} (hg : rg_ok g) {t : Nat} (ht : t < 4) (k : Nat) : bl (w4_t (tw_a0 g) t) k = true ↔ cw_0 g (fun t k => t = 3 ∧ k = 45) t k := tw_mk hg tw_45 ht k
theorem tw_some {g : rg_T} {a b : w4_T} {x : Nat} (h : tw_to g a x = some b) : (∃ t k, tw_mv g a x t k) ∧ b = w4_mk fun t => mk_l (cw_0 g (tw_mv g a x) t) := by
  unfold tw_to at h
  by_cases z : ∃ t k, tw_mv g a x t k
  · rw [if_pos z] at h
    exact ⟨z, (Option.some.inj h).symm⟩
  · rw [if_neg z] at h; cases h
theorem tw_ex {g : rg_T} {a : w4_T} {x t k : Nat} (h : tw_mv g a x t k) : tw_to g a x = some (w4_mk fun t => mk_l (cw_0 g (tw_mv g a x) t)) := if_pos ⟨t, k, h⟩
theorem tw_blt {g : rg_T} (hg : rg_ok g) {a b : w4_T} {x : Nat} (ha : tw_io g a) (h : tw_to g a x = some b) {t : Nat} (ht : t < 4) (k : Nat) : bl (w4_t b t) k = true ↔ cw_0 g (tw_mv g a x) t k := by
  obtain ⟨_, rfl⟩ := tw_some h
  exact tw_mk hg (fun t k z => tw_mv_ok hg ha z) ht k
theorem tw_io0 {g : rg_T} (hg : rg_ok g) : tw_io g (tw_a0 g) := fun _ k ht h => cw_ok hg tw_45 ((tw_bl0 hg ht k).mp h)
theorem tw_io1 {g : rg_T} (hg : rg_ok g) {a b : w4_T} {x : Nat} (ha : tw_io g a) (h : tw_to g a x = some b) : tw_io g b := fun _ k ht hk => cw_ok hg (fun _ _ z => tw_mv_ok hg ha z) ((tw_blt hg ha h ht k).mp hk)
def tw_full (g : rg_T) (f : Nat → w4_T) (n : Nat) : Prop :=
  1 ≤ n ∧ f 0 = tw_a0 g ∧ (∀ s t, s < n → t < n → f s = f t → s = t) ∧ (∀ P : w4_T → Prop, P (tw_a0 g) → (∀ a x b, x < 7 → P a → tw_to g a x = some b → P b) → ∀ s, s < n → P (f s)) ∧ (∀ s x a, s < n → x < 7 → tw_to g (f s) x = some a → ∃ s', s' < n ∧ f s' = a)
theorem tw_fio {g : rg_T} (hg : rg_ok g) {f : Nat → w4_T} {n : Nat} (hf : tw_full g f n) {s : Nat} (hs : s < n) : tw_io g (f s) := hf.2.2.2.1 (tw_io g) (tw_io0 hg) (fun _ _ _ _ h1 h2 => tw_io1 hg h1 h2) s hs
theorem tw_fcl {g : rg_T} (hg : rg_ok g) {f : Nat → w4_T} {n : Nat} (hf : tw_full g f n) {s : Nat} (hs : s < n) : cw_cl g (fun t k => t < 4 ∧ bl (w4_t (f s) t) k = true) := by
  have key := hf.2.2.2.1 (fun a => tw_io g a ∧ cw_cl g (fun t k => t < 4 ∧ bl (w4_t a t) k = true)) ⟨tw_io0 hg, fun t k r t' h hU hn hfs => ?_⟩ (fun a x b _ h1 h2 => ⟨tw_io1 hg h1.1 h2, fun t k r t' h hU hn hfs => ?_⟩) s hs
  · exact key.2
  · have ht' : t' < 4 := by have := fs_t_le (t := t) (by omega) hfs; omega
    exact ⟨ht', (tw_bl0 hg ht' _).mpr (cw_self g _ t k r t' ((tw_bl0 hg h.1 k).mp h.2) hU hn hfs)⟩
  · have ht' : t' < 4 := by have := fs_t_le (t := t) (by omega) hfs; omega
    exact ⟨ht', (tw_blt hg h1.1 h2 ht' _).mpr (cw_self g _ t k r t' ((tw_blt hg h1.1 h2 h.1 k).mp h.2) hU hn hfs)⟩
def cs_3 (g : rg_T) (f : Nat → w4_T) (n : Nat) : Prop := ∃ s t, s < n ∧ t < 4 ∧ cs_x g (fun k => ∃ u, u < 4 ∧ bl (w4_t (f s) u) k = true) (fun t k => bl (w4_t (f s) t) k = true) t
def tw_nx (g : rg_T) (f : Nat → w4_T) (n : Nat) (nx : lr_N) : Prop := ∀ q x q', nx q x = some q' ↔ q < n ∧ x < 7 ∧ q' < n ∧ tw_to g (f q) x = some (f q')
def tw_lk (f : Nat → w4_T) (n : Nat) : lr_K := fun q r p t => q < n ∧ p < 5 ∧ t < 4 ∧ bl (w4_t (f q) t) (5 * r + p) = true
theorem tw_A {g : rg_T} (hg : rg_ok g) {f : Nat → w4_T} {n : Nat} (hf : tw_full g f n) {nx : lr_N} (hx : tw_nx g f n nx) (hc : ¬ cs_3 g f n) : lr_A (tg_G g) (fi_F g) (tw_lk f n) nx := by
  refine ⟨⟨hf.1, by omega, by omega, ?_⟩, ?_, ?_, ?_, ?_⟩
  · rw [hf.2.1]; exact (tw_bl0 hg (by omega) 45).mpr (cw_sub ⟨rfl, rfl⟩)
  · intro q r p t r' t' h hp hU hl hfs
    obtain ⟨e1, e2⟩ := im_rp (r := r) h.2.1
    have := tw_fcl hg hf h.1 t (5 * r + p) r' t' h.2.2 hU ⟨by rw [e1, e2]; exact hp, by rw [e1, e2]; exact hl.symm⟩ (by rw [e1, e2]; exact hfs)
    exact ⟨h.1, by omega, this.1, this.2⟩
  · intro q r p t h hp
    have hp : p < rg_c g r := hp
    obtain ⟨e1, e2⟩ := im_rp (r := r) h.2.1
    have hio := tw_fio hg hf h.1
    have hin := hio t _ h.2.2.1 h.2.2.2
    have hn : im_nx g (5 * r + p) (rg_h g r p) := ⟨by rw [e1, e2]; exact hp, by rw [e1, e2]⟩
    have hr := hin.1.1
    rw [e1] at hr
    have hc4 : rg_c g r ≤ 4 := ((tg_ok hg).2.1 r hr).1
    have hx7 : rg_h g r p < 7 := ((tg_ok hg).2.1 r hr).2 p hp
    have hmv : tw_mv g (f q) (rg_h g r p) t (5 * r + p + 1) := ⟨h.2.2.1, _, rfl, h.2.2.2, hn⟩
    have hto := tw_ex hmv
    obtain ⟨q', h1, h2⟩ := hf.2.2.2.2 q (rg_h g r p) _ h.1 hx7 hto
    rw [← h2] at hto
    exact ⟨q', (hx _ _ _).mpr ⟨h.1, hx7, h1, hto⟩, h1, by omega, h.2.2.1, (tw_blt hg hio hto h.2.2.1 _).mpr (cw_sub hmv)⟩
  · intro q r r' t h h'
    obtain ⟨e1, e2⟩ := im_rp (r := r) h.2.1
    obtain ⟨e1', e2'⟩ := im_rp (r := r') h'.2.1
    refine Classical.byContradiction fun z => hc ⟨q, t, h.1, h.2.2.1, Or.inl ⟨_, _, ?_, ⟨t, h.2.2⟩, ⟨t, h'.2.2⟩, h.2.2.2, h'.2.2.2, ?_, ?_⟩⟩
    · intro e
      have : (5 * r + gr_c (tg_G g) r) / 5 = (5 * r' + gr_c (tg_G g) r') / 5 := by rw [e]
      rw [e1, e1'] at this
      exact z this
    · rw [e1, e2]; rfl
    · rw [e1', e2']; rfl
  · intro q r t r' p' t' h ht h' hp' he
    obtain ⟨e1, e2⟩ := im_rp (r := r) h.2.1
    obtain ⟨e1', e2'⟩ := im_rp (r := r') h'.2.1
    refine hc ⟨q, t, h.1, h.2.2.1, Or.inr ⟨ht, _, _, ⟨t, h.2.2⟩, h.2.2.2, ?_, ⟨t', h'.2.2⟩, ?_, ?_⟩⟩
    · rw [e1, e2]; rfl
    · rw [e1', e2']; exact hp'
    · rw [e1', e2']; exact he
theorem tw_B {g : rg_T} (hg : rg_ok g) {f : Nat → w4_T} {n : Nat} (hf : tw_full g f n) {nx : lr_N} (hx : tw_nx g f n nx) : lr_B (tg_G g) (tw_lk f n) nx := by
  refine ⟨?_, ?_, ?_, ?_⟩
  · intro R h9 hcl r p t h
    have hk := h.2.2.2
    rw [hf.2.1] at hk
    have hk := (tw_bl0 hg h.2.2.1 _).mp hk
    have := hk (fun _ k => R (k / 5) (k % 5)) (by rintro t i ⟨_, rfl⟩; exact h9) (fun t k r t' h1 hU hn _ => by
      have := hcl (k / 5) (k % 5) r h1 hn.1 hU hn.2.symm
      show R (5 * r / 5) (5 * r % 5)
      rw [show 5 * r / 5 = r by omega, show 5 * r % 5 = 0 by omega]; exact this)
    obtain ⟨e1, e2⟩ := im_rp (r := r) h.2.1
    rw [e1, e2] at this
    exact this
  · intro q x q' hq R hk0 hcl r p t h
    obtain ⟨hq1, hx7, hq2, hto⟩ := (hx _ _ _).mp hq
    have hio := tw_fio hg hf hq1
    have hk := (tw_blt hg hio hto h.2.2.1 _).mp h.2.2.2
    have := hk (fun _ k => R (k / 5) (k % 5)) (by
      rintro t k ⟨ht, i, rfl, h1, h2⟩
      obtain ⟨_, e1, e2⟩ := im_s hg (hio t i ht h1).1 h2
      rw [e1, e2]
      refine hk0 (i / 5) (i % 5) t ⟨hq1, by omega, ht, ?_⟩ h2.1 h2.2
      rw [show 5 * (i / 5) + i % 5 = i by omega]; exact h1) (fun t k r t' h1 hU hn _ => by
      have := hcl (k / 5) (k % 5) r h1 hn.1 hU hn.2.symm
      show R (5 * r / 5) (5 * r % 5)
      rw [show 5 * r / 5 = r by omega, show 5 * r % 5 = 0 by omega]; exact this)
    obtain ⟨e1, e2⟩ := im_rp (r := r) h.2.1
    rw [e1, e2] at this
    exact this
  · intro q p t h
    obtain ⟨e1, e2⟩ := im_rp (r := 9) h.2.1
    exact (tw_fio hg hf h.1 t _ h.2.2.1 h.2.2.2).2.2 e1
  · intro q x q' hq
    obtain ⟨hq1, hx7, hq2, hto⟩ := (hx _ _ _).mp hq
    obtain ⟨⟨t, k, ht, i, rfl, h1, h2⟩, _⟩ := tw_some hto
    refine ⟨i / 5, i % 5, t, ⟨hq1, by omega, ht, ?_⟩, h2.1, h2.2⟩
    rw [show 5 * (i / 5) + i % 5 = i by omega]; exact h1
