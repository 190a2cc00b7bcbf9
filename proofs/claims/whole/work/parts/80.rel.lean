/-! the relation of the two states, in pieces -/
theorem yn_add {m : Nat} {g : Nat → gk_T} {lo op fi se : Nat → Nat} {A B C D : Nat → Int32} (h : yn_N m g lo op fi se A B C D) {o x y l : Nat} {z : gk_T} {a b c e : Int32} (hw : gk_wf z) (ha : a = nI o) (he : e = nI (gk_c z)) (hl : l ≤ m)
    (hc : (o < 5 ∧ z = gk_leaf o ∧ b = -1 ∧ c = -1 ∧ l = m) ∨ (5 ≤ o ∧ o < 8 ∧ x < m ∧ b = nI x ∧ c = -1 ∧ z = gk_rep (o - 5) (g x) ∧ l = lo x) ∨ (8 ≤ o ∧ o < 10 ∧ x < lo y ∧ y < m ∧ b = nI x ∧ c = nI y ∧ z = gk_join (o - 8) (g x) (g y) ∧ l = lo x)) :
    yn_N (m + 1) (gh_u g m z) (gh_u lo m l) (gh_u op m o) (gh_u fi m x) (gh_u se m y) (upd A m a) (upd B m b) (upd C m c) (upd D m e) := by
  intro p hp
  by_cases q : p = m
  · subst q
    rw [pk_us, pk_us, pk_us, pk_us, gh_s, gh_s, gh_s, gh_s, gh_s]
    refine ⟨ha, hw, he, hl, ?_⟩
    rcases hc with k | k | k
    · exact Or.inl k
    · rw [gh_n (f := g) (by omega : x ≠ p), gh_n (f := lo) (by omega : x ≠ p)]
      exact Or.inr (Or.inl k)
    · have := (h y k.2.2.2.1).2.2.2.1
      rw [gh_n (f := g) (by omega : x ≠ p), gh_n (f := lo) (by omega : x ≠ p), gh_n (f := g) (by omega : y ≠ p), gh_n (f := lo) (by omega : y ≠ p)]
      exact Or.inr (Or.inr k)
  · rw [pk_un q, pk_un q, pk_un q, pk_un q, gh_n q, gh_n q, gh_n q, gh_n q, gh_n q]
    obtain ⟨h1, h2, h3, h4, k⟩ := h p (by omega)
    refine ⟨h1, h2, h3, h4, ?_⟩
    rcases k with k | k | k
    · exact Or.inl k
    · rw [gh_n (f := g) (by omega : fi p ≠ m), gh_n (f := lo) (by omega : fi p ≠ m)]
      exact Or.inr (Or.inl k)
    · have := (h (se p) (by omega)).2.2.2.1
      rw [gh_n (f := g) (by omega : fi p ≠ m), gh_n (f := lo) (by omega : fi p ≠ m), gh_n (f := g) (by omega : se p ≠ m), gh_n (f := lo) (by omega : se p ≠ m)]
      exact Or.inr (Or.inr k)
theorem yn_Ra {m : Nat} {g : Nat → gk_T} {b : Nat → Int32} {kd : Nat → gk_T} (h : yn_R m g b kd) (z : gk_T) : yn_R (m + 1) (gh_u g m z) b kd := by
  intro k hk
  rcases h k hk with a | ⟨p, a1, a2, a3⟩
  · exact Or.inl a
  · exact Or.inr ⟨p, by omega, a2, by rw [gh_n (by omega : p ≠ m)]; exact a3⟩
/-- the slots but one stay -/
def xs_fr (s0 : Nat) (c e a t c' e' a' t' : Nat → Int32) : Prop := ∀ s, s ≠ s0 → c' s = c s ∧ e' s = e s ∧ (∀ i, i < 7 → a' (s * 7 + i) = a (s * 7 + i)) ∧ ∀ i, i < 3 → t' (s * 3 + i) = t (s * 3 + i)
theorem xs_fk {s0 s : Nat} {c e a t c' e' a' t' : Nat → Int32} (h : xs_fr s0 c e a t c' e' a' t') (hs : s ≠ s0) {x : gk_T} (k : xs_S c e a t s x) : xs_S c' e' a' t' s x := by
  obtain ⟨h1, h2, h3, h4⟩ := h s hs
  exact xs_frame k h1 h2 h3 h4
theorem fr_u {s0 s : Nat} {a : Nat → Int32} {x : Int32} (h : s ≠ s0) : upd a s0 x s = a s := pk_un h
theorem fr_7 {s0 s b n i : Nat} {a v : Nat → Int32} (h : s ≠ s0) (hb : s0 * 7 ≤ b) (hn : b + n ≤ s0 * 7 + 7) (hi : i < 7) : ax_set a b n v (s * 7 + i) = a (s * 7 + i) := ax_out (by omega)
theorem fr_3 {s0 s i : Nat} {a v : Nat → Int32} (h : s ≠ s0) (hi : i < 3) : ax_set a (s0 * 3) 3 v (s * 3 + i) = a (s * 3 + i) := ax_out (by omega)
theorem fr_aa {s0 s i : Nat} {a : Nat → Int32} {x y : Int32} (h : s ≠ s0) (hi : i < 7) : xw_aa a s0 x y (s * 7 + i) = a (s * 7 + i) := ax_out (by omega)
/-- patterns: d on the stack, m made, the stack's nodes st -/
def ir_P (m d : Nat) (ga : Nat → gk_T) (lo op fi se st : Nat → Nat) (kd : Nat → gk_T) (f_depth f_made : Int32) (a_spotCounts a_ends a_arrows a_takers : Nat → Int32) (h_made h_depth : Int32) (b_ops b_firsts b_seconds b_sizes b_stack b_roots : Nat → Int32) : Prop :=
  m ≤ 60 ∧ d ≤ 8 ∧ f_depth = nI d ∧ f_made = nI m ∧ h_made = nI m ∧ h_depth = nI d ∧ yn_N m ga lo op fi se b_ops b_firsts b_seconds b_sizes ∧
  (∀ s, s < d → st s < m ∧ b_stack s = nI (st s) ∧ xs_S a_spotCounts a_ends a_arrows a_takers s (ga (st s))) ∧ (∀ s, s + 1 < d → st s < lo (st (s + 1))) ∧
  yn_R m ga b_roots kd ∧ ∀ k, k < 3 → xs_S a_spotCounts a_ends a_arrows a_takers (8 + k) (kd k)
section
variable {m d : Nat} {ga : Nat → gk_T} {lo op fi se st : Nat → Nat} {kd : Nat → gk_T} {f_depth f_made : Int32} {c e a t : Nat → Int32} {h_made h_depth : Int32} {b_ops b_firsts b_seconds b_sizes b_stack b_roots : Nat → Int32}
theorem ir_leaf (h : ir_P m d ga lo op fi se st kd f_depth f_made c e a t h_made h_depth b_ops b_firsts b_seconds b_sizes b_stack b_roots) (hm : m < 60) (hd : d < 8) {o : Nat} (ho : o < 5) {c' e' a' t' : Nat → Int32} (hs : xs_S c' e' a' t' d (gk_leaf o)) (hf : xs_fr d c e a t c' e' a' t') {z : Int32} (hz : z = nI (gk_c (gk_leaf o))) :
    ir_P (m + 1) (d + 1) (gh_u ga m (gk_leaf o)) (gh_u lo m m) (gh_u op m o) (gh_u fi m 0) (gh_u se m 0) (gh_u st d m) kd (nI (d + 1)) (nI (m + 1)) c' e' a' t' (nI (m + 1)) (nI (d + 1)) (upd b_ops m (nI o)) (upd b_firsts m (-1)) (upd b_seconds m (-1)) (upd b_sizes m z) (upd b_stack d (nI m)) b_roots := by
  obtain ⟨_, _, _, _, _, _, hN, hS, hO, hR, hK⟩ := h
  refine ⟨by omega, by omega, rfl, rfl, rfl, rfl, yn_add hN (x := 0) (y := 0) (gk_wf_leaf o) rfl hz (Nat.le_refl _) (Or.inl ⟨ho, rfl, rfl, rfl, rfl⟩), fun s hs' => ?_, fun s hs' => ?_, yn_Ra hR _, fun k hk => xs_fk hf (by omega) (hK k hk)⟩
  · by_cases q : s = d
    · subst q
      rw [gh_s, gh_s, pk_us]
      exact ⟨by omega, rfl, hs⟩
    · obtain ⟨k1, k2, k3⟩ := hS s (by omega)
      rw [gh_n q, pk_un q, gh_n (by omega : st s ≠ m)]
      exact ⟨by omega, k2, xs_fk hf q k3⟩
  · rw [gh_n (by omega : s ≠ d)]
    by_cases q : s + 1 = d
    · rw [q, gh_s, gh_s]
      exact (hS s (by omega)).1
    · obtain ⟨k1, _⟩ := hS (s + 1) (by omega)
      rw [gh_n q, gh_n (by omega : st (s + 1) ≠ m)]
      exact hO s (by omega)
theorem ir_rep (h : ir_P m d ga lo op fi se st kd f_depth f_made c e a t h_made h_depth b_ops b_firsts b_seconds b_sizes b_stack b_roots) (hm : m < 60) {s0 : Nat} (hd : d = s0 + 1) {o : Nat} (ho : o < 3) {c' e' a' t' : Nat → Int32} (hs : xs_S c' e' a' t' s0 (gk_rep o (ga (st s0)))) (hf : xs_fr s0 c e a t c' e' a' t') :
    ir_P (m + 1) d (gh_u ga m (gk_rep o (ga (st s0)))) (gh_u lo m (lo (st s0))) (gh_u op m (5 + o)) (gh_u fi m (st s0)) (gh_u se m 0) (gh_u st s0 m) kd (nI d) (nI (m + 1)) c' e' a' t' (nI (m + 1)) (nI d) (upd b_ops m (nI (5 + o))) (upd b_firsts m (nI (st s0))) (upd b_seconds m (-1)) (upd b_sizes m (b_sizes (st s0))) (upd b_stack s0 (nI m)) b_roots := by
  obtain ⟨_, d8, _, _, _, _, hN, hS, hO, hR, hK⟩ := h
  obtain ⟨t1, t2, t3⟩ := hS s0 (by omega)
  obtain ⟨n1, n2, n3, n4, _⟩ := hN (st s0) t1
  refine ⟨by omega, d8, rfl, rfl, rfl, rfl, yn_add hN (y := 0) (gk_wf_rep n2) rfl n3 (by omega) (Or.inr (Or.inl ⟨by omega, by omega, t1, rfl, rfl, by rw [Nat.add_sub_cancel_left], rfl⟩)), fun s hs' => ?_, fun s hs' => ?_, yn_Ra hR _, fun k hk => xs_fk hf (by omega) (hK k hk)⟩
  · by_cases q : s = s0
    · subst q
      rw [gh_s, gh_s, pk_us]
      exact ⟨by omega, rfl, hs⟩
    · obtain ⟨k1, k2, k3⟩ := hS s (by omega)
      rw [gh_n q, pk_un q, gh_n (by omega : st s ≠ m)]
      exact ⟨by omega, k2, xs_fk hf q k3⟩
  · rw [gh_n (by omega : s ≠ s0)]
    by_cases q : s + 1 = s0
    · rw [q, gh_s, gh_s]
      have := hO s (by omega)
      rw [q] at this
      exact this
    · obtain ⟨k1, _⟩ := hS (s + 1) (by omega)
      rw [gh_n q, gh_n (by omega : st (s + 1) ≠ m)]
      exact hO s (by omega)
theorem ir_join (h : ir_P m d ga lo op fi se st kd f_depth f_made c e a t h_made h_depth b_ops b_firsts b_seconds b_sizes b_stack b_roots) (hm : m < 60) {s0 : Nat} (hd : d = s0 + 2) {o : Nat} (ho : o < 2) (h6 : gk_c (ga (st s0)) + gk_c (ga (st (s0 + 1))) ≤ 6) {c' e' a' t' : Nat → Int32} (hs : xs_S c' e' a' t' s0 (gk_join o (ga (st s0)) (ga (st (s0 + 1))))) (hf : xs_fr s0 c e a t c' e' a' t') :
    ir_P (m + 1) (s0 + 1) (gh_u ga m (gk_join o (ga (st s0)) (ga (st (s0 + 1))))) (gh_u lo m (lo (st s0))) (gh_u op m (8 + o)) (gh_u fi m (st s0)) (gh_u se m (st (s0 + 1))) (gh_u st s0 m) kd (nI (s0 + 1)) (nI (m + 1)) c' e' a' t' (nI (m + 1)) (nI (s0 + 1)) (upd b_ops m (nI (8 + o))) (upd b_firsts m (nI (st s0))) (upd b_seconds m (nI (st (s0 + 1)))) (upd b_sizes m (nI (gk_c (ga (st s0)) + gk_c (ga (st (s0 + 1)))))) (upd b_stack s0 (nI m)) b_roots := by
  obtain ⟨_, d8, _, _, _, _, hN, hS, hO, hR, hK⟩ := h
  obtain ⟨t1, t2, t3⟩ := hS s0 (by omega)
  obtain ⟨u1, u2, u3⟩ := hS (s0 + 1) (by omega)
  obtain ⟨n1, n2, n3, n4, _⟩ := hN (st s0) t1
  obtain ⟨v1, v2, v3, v4, _⟩ := hN (st (s0 + 1)) u1
  refine ⟨by omega, by omega, rfl, rfl, rfl, rfl, yn_add hN (gk_wf_join n2 v2 h6) rfl rfl (by omega) (Or.inr (Or.inr ⟨by omega, by omega, hO s0 (by omega), u1, rfl, rfl, by rw [Nat.add_sub_cancel_left], rfl⟩)), fun s hs' => ?_, fun s hs' => ?_, yn_Ra hR _, fun k hk => xs_fk hf (by omega) (hK k hk)⟩
  · by_cases q : s = s0
    · subst q
      rw [gh_s, gh_s, pk_us]
      exact ⟨by omega, rfl, hs⟩
    · obtain ⟨k1, k2, k3⟩ := hS s (by omega)
      rw [gh_n q, pk_un q, gh_n (by omega : st s ≠ m)]
      exact ⟨by omega, k2, xs_fk hf q k3⟩
  · rw [gh_n (by omega : s ≠ s0)]
    by_cases q : s + 1 = s0
    · rw [q, gh_s, gh_s]
      have := hO s (by omega)
      rw [q] at this
      exact this
    · obtain ⟨k1, _⟩ := hS (s + 1) (by omega)
      rw [gh_n q, gh_n (by omega : st (s + 1) ≠ m)]
      exact hO s (by omega)
theorem ir_kind (h : ir_P m d ga lo op fi se st kd f_depth f_made c e a t h_made h_depth b_ops b_firsts b_seconds b_sizes b_stack b_roots) {s0 : Nat} (hd : d = s0 + 1) {k : Nat} (hk : k < 3) {c' e' a' t' : Nat → Int32} (hs : xs_S c' e' a' t' (8 + k) (ga (st s0))) (hf : xs_fr (8 + k) c e a t c' e' a' t') :
    ir_P m s0 ga lo op fi se st (gh_u kd k (ga (st s0))) (nI s0) f_made c' e' a' t' h_made (nI s0) b_ops b_firsts b_seconds b_sizes b_stack (upd b_roots k (nI (st s0))) := by
  obtain ⟨m60, d8, _, em, em', _, hN, hS, hO, hR, hK⟩ := h
  obtain ⟨t1, t2, t3⟩ := hS s0 (by omega)
  refine ⟨m60, by omega, rfl, em, em', rfl, hN, fun s hs' => ?_, fun s hs' => hO s (by omega), fun j hj => ?_, fun j hj => ?_⟩
  · obtain ⟨k1, k2, k3⟩ := hS s (by omega)
    exact ⟨k1, k2, xs_fk hf (by omega) k3⟩
  · by_cases q : j = k
    · subst q
      rw [gh_s, pk_us]
      exact Or.inr ⟨st s0, t1, rfl, rfl⟩
    · rw [gh_n q, pk_un q]
      exact hR j hj
  · by_cases q : j = k
    · subst q
      rw [gh_s]
      exact hs
    · rw [gh_n q]
      exact xs_fk hf (by omega) (hK j hj)
end
/-- no patterns at all -/
theorem ir_p0 {ga : Nat → gk_T} {lo op fi se st : Nat → Nat} {c e a t : Nat → Int32} {b_ops b_firsts b_seconds b_sizes b_stack b_roots : Nat → Int32} (hK : ∀ k, k < 3 → xs_S c e a t (8 + k) gk_none) (hR : ∀ k, k < 3 → b_roots k = -1) : ir_P 0 0 ga lo op fi se st (fun _ => gk_none) 0 0 c e a t 0 0 b_ops b_firsts b_seconds b_sizes b_stack b_roots :=
  ⟨by omega, by omega, rfl, rfl, rfl, rfl, fun p hp => absurd hp (Nat.not_lt_zero _), fun p hp => absurd hp (Nat.not_lt_zero _), fun p hp => absurd hp (Nat.not_lt_zero _), fun k hk => Or.inl ⟨hR k hk, rfl⟩, hK⟩
/-- the text -/
def ir_T (n : Nat) (t : Nat → Nat) (f_textLength : Int32) (a_text : Nat → Int32) (h_length : Int32) (b_text : Nat → Int32) : Prop := n ≤ 24 ∧ f_textLength = nI n ∧ h_length = nI n ∧ (∀ i, i < n → a_text i = nI (t i) ∧ t i < 3) ∧ ∀ i, i < n → b_text i = nI (t i) ∧ t i < 3
theorem ir_Ta {n : Nat} {t : Nat → Nat} {f h : Int32} {a b : Nat → Int32} (z : ir_T n t f a h b) (hn : n < 24) {l : Nat} (hl : l < 3) : ir_T (n + 1) (gh_u t n l) (nI (n + 1)) (upd a n (nI l)) (nI (n + 1)) (upd b n (nI l)) := by
  obtain ⟨_, _, _, h1, h2⟩ := z
  refine ⟨by omega, rfl, rfl, fun i hi => ?_, fun i hi => ?_⟩
  · by_cases q : i = n
    · subst q; rw [pk_us, gh_s]; exact ⟨rfl, hl⟩
    · rw [pk_un q, gh_n q]; exact h1 i (by omega)
  · by_cases q : i = n
    · subst q; rw [pk_us, gh_s]; exact ⟨rfl, hl⟩
    · rw [pk_un q, gh_n q]; exact h2 i (by omega)
/-- the rules, and the right being made -/
def ir_G (g : rg_T) (c : Nat) (mk : Nat → Nat) (f_ruleCount : Int32) (a_lefts a_rights a_rightSizes : Nat → Int32) (h_ruleCount h_makingCount : Int32) (b_lefts b_rights b_counts b_making : Nat → Int32) : Prop :=
  rg_ok g ∧ f_ruleCount = nI (rg_n g) ∧ h_ruleCount = nI (rg_n g) ∧ xg_G g a_lefts a_rights a_rightSizes ∧ xg_G g b_lefts b_rights b_counts ∧ (∀ r, r < 9 → ∃ v, v < 7 ∧ b_lefts r = nI v) ∧
  c ≤ 4 ∧ a_rightSizes 10 = nI c ∧ h_makingCount = nI c ∧ ∀ i, i < c → mk i < 7 ∧ a_rights (40 + i) = nI (mk i) ∧ b_making i = nI (mk i)
theorem ir_sym {g : rg_T} {c : Nat} {mk : Nat → Nat} {f h hc : Int32} {la ra sa lb rb sb mb : Nat → Int32} (z : ir_G g c mk f la ra sa h hc lb rb sb mb) (hc4 : c < 4) {s : Nat} (hs : s < 7) : ir_G g (c + 1) (gh_u mk c s) f la (upd ra (40 + c) (nI s)) (upd sa 10 (nI (c + 1))) h (nI (c + 1)) lb rb sb (upd mb c (nI s)) := by
  obtain ⟨hg, h1, h2, h3, h4, h5, h6, h7, h8, h9⟩ := z
  refine ⟨hg, h1, h2, fun r hr => ?_, h4, h5, by omega, pk_us, rfl, fun i hi => ?_⟩
  · obtain ⟨k1, k2, k3⟩ := h3 r hr
    have n9 := hg.1
    refine ⟨k1, by rw [pk_un (by omega)]; exact k2, fun k hk => ?_⟩
    have := rg_b hg hr
    rw [pk_un (by omega)]
    exact k3 k hk
  · by_cases q : i = c
    · subst q
      rw [gh_s, pk_us, pk_us]
      exact ⟨hs, rfl, rfl⟩
    · rw [gh_n q, pk_un (by omega), pk_un q]
      exact h9 i (by omega)
/-- a rule more -/
def rg_add (g : rg_T) (v c : Nat) (mk : Nat → Nat) : rg_T := (rg_n g + 1, gh_u (rg_l g) (rg_n g) v, gh_u (rg_c g) (rg_n g) c, gh_u (rg_h g) (rg_n g) mk)
theorem ir_rule {g : rg_T} {c : Nat} {mk : Nat → Nat} {f h hc : Int32} {la ra sa lb rb sb mb : Nat → Int32} (z : ir_G g c mk f la ra sa h hc lb rb sb mb) (hn : rg_n g < 9) {v : Nat} (v3 : 3 ≤ v) (v7 : v < 7) {ra' rb' : Nat → Int32} (hra : ∀ j, ¬ (rg_n g * 4 ≤ j ∧ j < rg_n g * 4 + 4) → ra' j = ra j) (hra2 : ∀ i, i < c → ra' (rg_n g * 4 + i) = ra (40 + i)) (hrb : ∀ j, ¬ (rg_n g * 4 ≤ j ∧ j < rg_n g * 4 + 4) → rb' j = rb j) (hrb2 : ∀ i, i < c → rb' (rg_n g * 4 + i) = mb i) :
    ir_G (rg_add g v c mk) 0 mk (nI (rg_n g + 1)) (upd la (rg_n g) (nI v)) ra' (upd (upd sa (rg_n g) (nI c)) 10 0) (nI (rg_n g + 1)) 0 (upd lb (rg_n g) (nI v)) rb' (upd sb (rg_n g) (nI c)) mb := by
  obtain ⟨hg, h1, h2, h3, h4, h5, h6, h7, h8, h9⟩ := z
  have hok : rg_ok (rg_add g v c mk) := by
    obtain ⟨g1, g2, g3, g4, g5⟩ := hg
    refine ⟨by show rg_n g + 1 ≤ 9; omega, fun r hr => ?_, ?_, ?_, ?_⟩
    · have hr : r < rg_n g + 1 := hr
      show 3 ≤ gh_u (rg_l g) (rg_n g) v r ∧ gh_u (rg_l g) (rg_n g) v r < 7 ∧ gh_u (rg_c g) (rg_n g) c r ≤ 4 ∧ ∀ k, k < gh_u (rg_c g) (rg_n g) c r → gh_u (rg_h g) (rg_n g) mk r k < 7
      by_cases q : r = rg_n g
      · rw [q, gh_s, gh_s, gh_s]
        exact ⟨v3, v7, h6, fun k hk => (h9 k hk).1⟩
      · rw [gh_n q, gh_n q, gh_n q]
        exact g2 r (by omega)
    · show gh_u (rg_l g) (rg_n g) v 9 = 7
      rw [gh_n (by omega)]; exact g3
    · show gh_u (rg_c g) (rg_n g) c 9 = 1
      rw [gh_n (by omega)]; exact g4
    · show gh_u (rg_h g) (rg_n g) mk 9 0 = 3
      rw [gh_n (by omega)]; exact g5
  refine ⟨hok, rfl, rfl, fun r hr => ?_, fun r hr => ?_, fun r hr => ?_, by omega, pk_us, rfl, fun i hi => absurd hi (Nat.not_lt_zero _)⟩
  · show upd la (rg_n g) (nI v) r = nI (gh_u (rg_l g) (rg_n g) v r) ∧ upd (upd sa (rg_n g) (nI c)) 10 0 r = nI (gh_u (rg_c g) (rg_n g) c r) ∧ ∀ k, k < gh_u (rg_c g) (rg_n g) c r → ra' (r * 4 + k) = nI (gh_u (rg_h g) (rg_n g) mk r k)
    have hr : r < rg_n g + 1 ∨ r = 9 := hr
    rw [pk_un (by omega : r ≠ 10)]
    by_cases q : r = rg_n g
    · rw [q, gh_s, gh_s, gh_s, pk_us, pk_us]
      exact ⟨rfl, rfl, fun k hk => by rw [hra2 k hk]; exact (h9 k hk).2.1⟩
    · have hr' : r < rg_n g ∨ r = 9 := by omega
      obtain ⟨k1, k2, k3⟩ := h3 r hr'
      have := rg_b hg hr'
      rw [gh_n q, gh_n q, gh_n q, pk_un q, pk_un q]
      exact ⟨k1, k2, fun k hk => by rw [hra _ (by omega)]; exact k3 k hk⟩
  · show upd lb (rg_n g) (nI v) r = nI (gh_u (rg_l g) (rg_n g) v r) ∧ upd sb (rg_n g) (nI c) r = nI (gh_u (rg_c g) (rg_n g) c r) ∧ ∀ k, k < gh_u (rg_c g) (rg_n g) c r → rb' (r * 4 + k) = nI (gh_u (rg_h g) (rg_n g) mk r k)
    have hr : r < rg_n g + 1 ∨ r = 9 := hr
    by_cases q : r = rg_n g
    · rw [q, gh_s, gh_s, gh_s, pk_us, pk_us]
      exact ⟨rfl, rfl, fun k hk => by rw [hrb2 k hk]; exact (h9 k hk).2.2⟩
    · have hr' : r < rg_n g ∨ r = 9 := by omega
      obtain ⟨k1, k2, k3⟩ := h4 r hr'
      have := rg_b hg hr'
      rw [gh_n q, gh_n q, gh_n q, pk_un q, pk_un q]
      exact ⟨k1, k2, fun k hk => by rw [hrb _ (by omega)]; exact k3 k hk⟩
  · by_cases q : r = rg_n g
    · rw [q, pk_us]; exact ⟨v, v7, rfl⟩
    · rw [pk_un q]; exact h5 r hr
/-- a rule less -/
def rg_less (g : rg_T) (n : Nat) : rg_T := (n, rg_l g, rg_c g, rg_h g)
theorem ir_less {g : rg_T} {c n : Nat} {mk : Nat → Nat} {f h hc : Int32} {la ra sa lb rb sb mb : Nat → Int32} (z : ir_G g c mk f la ra sa h hc lb rb sb mb) (hn : rg_n g = n + 1) : ir_G (rg_less g n) c mk (nI n) la ra sa (nI n) hc lb rb sb mb := by
  obtain ⟨⟨g1, g2, g3⟩, h1, h2, h3, h4, h5, h6⟩ := z
  have sub : ∀ r, r < n ∨ r = 9 → r < rg_n g ∨ r = 9 := fun r hr => by omega
  exact ⟨⟨by show n ≤ 9; omega, fun r hr => g2 r (by have hr : r < n := hr; omega), g3⟩, rfl, rfl, fun r hr => h3 r (sub r hr), fun r hr => h4 r (sub r hr), h5, h6⟩
/-- what was found of the rules -/
def ir_C (g : rg_T) (f_prepared rulesInUse stateCount wideCount gradeFound : Int32) (beginSets followSets : Nat → Int32) (nextItems openItems restItems stateItems : Nat → Int64) (stateSteps : Nat → Int32) (stateLooks : Nat → Int64) (wideSteps : Nat → Int32) (wideLooks : Nat → Int64) : Prop :=
  f_prepared = 0 ∨ (f_prepared = 1 ∧ xp_T g rulesInUse stateCount wideCount gradeFound beginSets followSets nextItems openItems restItems stateItems stateSteps stateLooks wideSteps wideLooks)
