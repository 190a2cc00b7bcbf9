/-! what is told of a tree: the rules it uses, its value, its levels, its moves -/
abbrev vt_T : Type := List Nat × Int32 × Nat × Nat
def vt_us : List vt_T → List Nat
  | [] => []
  | v :: vs => vt_us vs ++ v.1
def vt_vl (r : Nat) : List vt_T → Int32
  | [] => nI r + 1
  | v :: vs => vt_vl r vs + nI (vs.length + 1) * v.2.1
def vt_dp : List vt_T → Nat
  | [] => 0
  | v :: vs => if vt_dp vs ≤ v.2.2.1 then v.2.2.1 else vt_dp vs
def vt_sz (v : vt_T) : Nat := v.2.2.2
def vt_A (len : Nat → Int32) : al_T vt_T := (fun i => ([], len i, 0, 1), fun r vs => (vt_us vs ++ [r], vt_vl r vs, vt_dp vs + 1, lr_sum vt_sz vs + 1))
theorem vt_ok (len : Nat → Int32) : lr_sz (vt_A len) vt_sz := ⟨fun _ => rfl, fun _ _ => rfl⟩
theorem vt_dpc {v : vt_T} {vs : List vt_T} : v.2.2.1 ≤ vt_dp (v :: vs) ∧ vt_dp vs ≤ vt_dp (v :: vs) := by
  show v.2.2.1 ≤ (if vt_dp vs ≤ v.2.2.1 then v.2.2.1 else vt_dp vs) ∧ vt_dp vs ≤ (if vt_dp vs ≤ v.2.2.1 then v.2.2.1 else vt_dp vs)
  split <;> omega
theorem vt_deep {G : gr_T} {X : tx_T} {len : Nat → Int32} : ∀ d s i j v, dv_tr G X (vt_A len) d s i j v → v.2.2.1 ≤ d := by
  intro d
  induction d with
  | zero => intro s i j v z; obtain ⟨_, _, _, _, rfl⟩ := z; exact Nat.le_refl _
  | succ d ih =>
    intro s i j v z
    rcases z with z | ⟨r, vs, _, _, z, rfl⟩
    · have := ih _ _ _ _ z; omega
    · have key : ∀ k i j vs, dv_pre (gr_h G r) (dv_tr G X (vt_A len) d) k i j vs → vt_dp vs ≤ d := by
        intro k
        induction k with
        | zero => intro i j vs z; obtain ⟨_, rfl⟩ := z; exact Nat.zero_le _
        | succ k ihk =>
          intro i j vs z
          obtain ⟨m, v, ws, z1, z2, rfl⟩ := z
          have a := ihk _ _ _ z1
          have b := ih _ _ _ _ z2
          show (if vt_dp ws ≤ v.2.2.1 then v.2.2.1 else vt_dp ws) ≤ d
          split <;> omega
      have := key _ _ _ _ z
      show vt_dp vs + 1 ≤ d + 1
      omega
/-- the values f 0 .. f (c - 1), the last one first -/
def vt_li {V : Type} (f : Nat → V) : Nat → List V
  | 0 => []
  | c + 1 => f c :: vt_li f c
theorem vt_li_len {V : Type} (f : Nat → V) : ∀ c, (vt_li f c).length = c := by
  intro c
  induction c with
  | zero => rfl
  | succ c ih => show (vt_li f c).length + 1 = c + 1; rw [ih]
theorem vt_chain {V : Type} {G : gr_T} {X : tx_T} {A : al_T V} {h e : Nat → Nat} {f : Nat → V} : ∀ c, (∀ k, k < c → ∃ d, dv_tr G X A d (h k) (e k) (e (k + 1)) (f k)) → ∃ d, dv_pre h (dv_tr G X A d) c (e 0) (e c) (vt_li f c) := by
  intro c
  induction c with
  | zero => intro _; exact ⟨0, rfl, rfl⟩
  | succ c ih =>
    intro hc
    obtain ⟨d, h1⟩ := ih (fun k hk => hc k (by omega))
    obtain ⟨d', h2⟩ := hc c (by omega)
    exact ⟨d + d', e c, f c, vt_li f c, dv_pre_mono (fun _ _ _ _ z => dv_tr_up d' d z) _ _ _ _ h1, dv_tr_le (by omega) h2, rfl⟩
theorem vt_node {V : Type} {G : gr_T} {X : tx_T} {A : al_T V} {r : Nat} (hU : gr_U G r) {e : Nat → Nat} {f : Nat → V} (hc : ∀ k, k < gr_c G r → ∃ d, dv_tr G X A d (gr_h G r k) (e k) (e (k + 1)) (f k)) : ∃ d, dv_tr G X A d (gr_l G r) (e 0) (e (gr_c G r)) (A.2 r (vt_li f (gr_c G r))) := by
  obtain ⟨d, h⟩ := vt_chain _ hc
  exact ⟨d + 1, Or.inr ⟨r, _, hU, rfl, h, rfl⟩⟩
/-- a span of a symbol in a sentence's tree, D levels below its top -/
def cx_C (G : gr_T) (X : tx_T) (len : Nat → Int32) (D x i j : Nat) : Prop :=
  ∃ K, ∀ d u, dv_tr G X (vt_A len) d x i j u → ∃ d' v, dv_tr G X (vt_A len) d' 3 0 X.2 v ∧ vt_sz v = vt_sz u + K ∧ u.2.2.1 + D ≤ v.2.2.1
theorem cx_root {G : gr_T} {X : tx_T} {len : Nat → Int32} : cx_C G X len 0 3 0 X.2 := ⟨0, fun d u h => ⟨d, u, h, rfl, Nat.le_refl _⟩⟩
def cx_one (G : gr_T) (X : tx_T) (len : Nat → Int32) : Prop := ∀ d e v w, dv_tr G X (vt_A len) d 3 0 X.2 v → dv_tr G X (vt_A len) e 3 0 X.2 w → v = w
theorem cx_sz {G : gr_T} {X : tx_T} {len : Nat → Int32} (h1 : cx_one G X len) {D x i j : Nat} (h : cx_C G X len D x i j) {d e : Nat} {u u' : vt_T} (a : dv_tr G X (vt_A len) d x i j u) (b : dv_tr G X (vt_A len) e x i j u') : vt_sz u = vt_sz u' := by
  obtain ⟨K, h⟩ := h
  obtain ⟨_, v, a1, a2, _⟩ := h d u a
  obtain ⟨_, w, b1, b2, _⟩ := h e u' b
  have := h1 _ _ _ _ a1 b1
  subst this
  omega
def cx_ks (f : Nat → vt_T) (k : Nat) : Nat → Nat
  | 0 => 0
  | c + 1 => cx_ks f k c + if c = k then 0 else vt_sz (f c)
theorem cx_sum {f : Nat → vt_T} {k : Nat} {u : vt_T} : ∀ c, lr_sum vt_sz (vt_li (fun m => if m = k then u else f m) c) = cx_ks f k c + if k < c then vt_sz u else 0 := by
  intro c
  induction c with
  | zero => rw [if_neg (by omega)]; rfl
  | succ c ih =>
    show lr_sum vt_sz (vt_li (fun m => if m = k then u else f m) c) + vt_sz (if c = k then u else f c) = cx_ks f k c + (if c = k then 0 else vt_sz (f c)) + _
    rw [ih]
    by_cases e : c = k
    · subst e
      rw [if_pos rfl, if_pos rfl, if_neg (by omega), if_pos (by omega)]
    · rw [if_neg e, if_neg e]
      by_cases z : k < c
      · rw [if_pos z, if_pos (by omega)]; omega
      · rw [if_neg z, if_neg (by omega)]; omega
theorem cx_dp {f : Nat → vt_T} {k : Nat} {u : vt_T} : ∀ c, k < c → u.2.2.1 ≤ vt_dp (vt_li (fun m => if m = k then u else f m) c) := by
  intro c
  induction c with
  | zero => intro h; omega
  | succ c ih =>
    intro h
    have a := vt_dpc (v := if c = k then u else f c) (vs := vt_li (fun m => if m = k then u else f m) c)
    show u.2.2.1 ≤ vt_dp ((if c = k then u else f c) :: vt_li (fun m => if m = k then u else f m) c)
    by_cases e : c = k
    · have := a.1
      rw [if_pos e] at this ⊢
      exact this
    · exact Nat.le_trans (ih (by omega)) a.2
theorem cx_child {G : gr_T} {X : tx_T} {len : Nat → Int32} {D r k : Nat} {e : Nat → Nat} (hU : gr_U G r) (hC : cx_C G X len D (gr_l G r) (e 0) (e (gr_c G r))) (hd : ∀ k, k < gr_c G r → dv_D G X (gr_h G r k) (e k) (e (k + 1))) (hk : k < gr_c G r) : cx_C G X len (D + 1) (gr_h G r k) (e k) (e (k + 1)) := by
  have ex : ∀ k, ∃ v, k < gr_c G r → ∃ d, dv_tr G X (vt_A len) d (gr_h G r k) (e k) (e (k + 1)) v := by
    intro k
    rcases Nat.lt_or_ge k (gr_c G r) with z | z
    · obtain ⟨d, v, h⟩ := dv_D_to (vt_A len) (hd k z)
      exact ⟨v, fun _ => ⟨d, h⟩⟩
    · exact ⟨([], 0, 0, 0), fun z' => by omega⟩
  obtain ⟨f, hf⟩ : ∃ f : Nat → vt_T, ∀ k, k < gr_c G r → ∃ d, dv_tr G X (vt_A len) d (gr_h G r k) (e k) (e (k + 1)) (f k) := ⟨fun k => Classical.choose (ex k), fun k => Classical.choose_spec (ex k)⟩
  obtain ⟨K, hC⟩ := hC
  refine ⟨K + cx_ks f k (gr_c G r) + 1, fun d u hu => ?_⟩
  obtain ⟨d1, h1⟩ := vt_node (A := vt_A len) hU (e := e) (f := fun m => if m = k then u else f m) (fun m hm => by
    by_cases z : m = k
    · subst z
      refine ⟨d, ?_⟩
      show dv_tr G X (vt_A len) d (gr_h G r m) (e m) (e (m + 1)) (if m = m then u else f m)
      rw [if_pos rfl]; exact hu
    · obtain ⟨d', h⟩ := hf m hm
      refine ⟨d', ?_⟩
      show dv_tr G X (vt_A len) d' (gr_h G r m) (e m) (e (m + 1)) (if m = k then u else f m)
      rw [if_neg z]; exact h)
  obtain ⟨d', v, a, b, c⟩ := hC d1 _ h1
  refine ⟨d', v, a, ?_, ?_⟩
  · rw [b]
    show lr_sum vt_sz (vt_li (fun m => if m = k then u else f m) (gr_c G r)) + 1 + K = _
    rw [cx_sum, if_pos hk]
    omega
  · have := cx_dp (f := f) (u := u) (gr_c G r) hk
    have c : vt_dp (vt_li (fun m => if m = k then u else f m) (gr_c G r)) + 1 + D ≤ v.2.2.1 := c
    omega
/-- the span lies not too deep -/
theorem cx_100 {G : gr_T} {X : tx_T} {len : Nat → Int32} (h1 : cx_one G X len) (hG : gr_ok G) (hn : X.2 ≤ 24) {D x i j : Nat} (h : cx_C G X len D x i j) (hD : dv_D G X x i j) : D ≤ 100 := by
  obtain ⟨d, u, hu⟩ := dv_D_to (vt_A len) hD
  obtain ⟨K, h⟩ := h
  obtain ⟨d', v, a, _, c⟩ := h d u hu
  obtain ⟨w, b1, _⟩ := gd_24 (A := vt_A len) hG (vt_ok len) hn (dv_D_of a) (Nat.zero_le _)
  have e := h1 _ _ _ _ a b1
  subst e
  have := vt_deep _ _ _ _ _ b1
  omega
