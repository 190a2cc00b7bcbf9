/-! how many states and wide states there are -/
section
variable {g : rg_T}
def sn_S (g : rg_T) (r : Int32) : Prop := ((¬ ∃ r, us_U g r) ∧ r = -4) ∨ ((∃ r, us_U g r) ∧ (∃ k, 60 < (sb_B g k).2) ∧ r = -5) ∨ ((∃ r, us_U g r) ∧ ∃ f n, bf_fin (tb_a0 g) (tb_to g) f n ∧ n ≤ 60 ∧ r = nI n)
theorem sn_1 {r r' : Int32} (h : sn_S g r) (h' : sn_S g r') : r = r' := by
  rcases h with ⟨a1, a2⟩ | ⟨a1, a2, a3⟩ | ⟨a1, f, n, a2, a3, a4⟩ <;> rcases h' with ⟨b1, b2⟩ | ⟨b1, b2, b3⟩ | ⟨b1, f', n', b2, b3, b4⟩
  · rw [a2, b2]
  · exact absurd b1 a1
  · exact absurd b1 a1
  · exact absurd a1 b1
  · rw [a3, b3]
  · exact absurd a2 (yg_no b2 b3)
  · exact absurd a1 b1
  · exact absurd b2 (yg_no a2 a3)
  · obtain ⟨_, rfl⟩ := bf_one a2 b2
    rw [a4, b4]
def wn_S (g : rg_T) (r : Int32) : Prop := ((¬ ∃ r, us_U g r) ∧ r = -4) ∨ ((∃ r, us_U g r) ∧ (∃ k, 60 < (sb_B g k).2) ∧ r = -5) ∨ ((∃ r, us_U g r) ∧ (∃ f n, bf_fin (tb_a0 g) (tb_to g) f n ∧ n ≤ 60) ∧ ((wz_L g ∧ r = -5) ∨ ∃ f n, bf_fin (tw_a0 g) (tw_to g) f n ∧ n ≤ 80 ∧ r = nI n))
theorem wz_no {f : Nat → w4_T} {n : Nat} (h : bf_fin (tw_a0 g) (tw_to g) f n) (hn : n ≤ 80) : ¬ wz_L g := by
  rintro ⟨k, hk⟩
  have := bf_big (k := k) h
  have hk : 80 < (bf_at (tw_a0 g) (tw_to g) k).2 := hk
  omega
theorem wn_1 {r r' : Int32} (h : wn_S g r) (h' : wn_S g r') : r = r' := by
  rcases h with ⟨a1, a2⟩ | ⟨a1, a2, a3⟩ | ⟨a1, ⟨f, n, a2, a3⟩, a4⟩ <;> rcases h' with ⟨b1, b2⟩ | ⟨b1, b2, b3⟩ | ⟨b1, ⟨f', n', b2, b3⟩, b4⟩
  · rw [a2, b2]
  · exact absurd b1 a1
  · exact absurd b1 a1
  · exact absurd a1 b1
  · rw [a3, b3]
  · exact absurd a2 (yg_no b2 b3)
  · exact absurd a1 b1
  · exact absurd b2 (yg_no a2 a3)
  · rcases a4 with ⟨w, e⟩ | ⟨fw, nw, w, w2, e⟩ <;> rcases b4 with ⟨w', e'⟩ | ⟨fw', nw', w', w2', e'⟩
    · rw [e, e']
    · exact absurd w (wz_no w' w2')
    · exact absurd w' (wz_no w w2)
    · obtain ⟨_, rfl⟩ := bf_one w w'
      rw [e, e']
theorem xp_sn {ru sc wc gf : Int32} {bs fs : Nat → Int32} {ni oi ri si : Nat → Int64} {ss : Nat → Int32} {sl : Nat → Int64} {ws : Nat → Int32} {wl : Nat → Int64} (h : xp_T g ru sc wc gf bs fs ni oi ri si ss sl ws wl) : sn_S g sc ∧ wn_S g wc := by
  obtain ⟨_, _, _, _, h | h | ⟨h1, f, n, h2, h3, h4, h5, h6⟩⟩ := h
  · exact ⟨Or.inl ⟨h.1, h.2.1⟩, Or.inl ⟨h.1, h.2.2.1⟩⟩
  · exact ⟨Or.inr (Or.inl ⟨h.1, h.2.1, h.2.2.1⟩), Or.inr (Or.inl ⟨h.1, h.2.1, h.2.2.2.1⟩)⟩
  · refine ⟨Or.inr (Or.inr ⟨h1, f, n, h2.1, h2.2.1, h3⟩), Or.inr (Or.inr ⟨h1, ⟨f, n, h2.1, h2.2.1⟩, ?_⟩)⟩
    rcases h4 with ⟨k1, k2⟩ | ⟨fw, nw, k1, k2, k3, _⟩
    · exact Or.inl ⟨k2, k1⟩
    · exact Or.inr ⟨fw, nw, k1, k2, k3⟩
theorem yt_fin {cnt : Int32} {items : Nat → Int64} (h : yt_ok g cnt items) : (∃ n, cnt = nI n ∧ 60 < n ∧ n ≤ 61 ∧ ∃ k, 60 < (sb_B g k).2) ∨ ∃ f n, bf_fin (tb_a0 g) (tb_to g) f n ∧ n ≤ 60 ∧ cnt = nI n := by
  obtain ⟨k, n, ⟨h1, _⟩, h2, h3, h4⟩ := h
  by_cases z : 60 < n
  · exact Or.inl ⟨n, h4, z, h2, k, by rw [h1]; exact z⟩
  · refine Or.inr ⟨(sb_B g k).1, n, ⟨k, ?_, by omega⟩, by omega, h4⟩
    rw [← h1]; rfl
theorem yz_fin {cnt : Int32} {arr : Nat → Int64} (h : yz_ok g cnt arr) : (∃ n, cnt = nI n ∧ 80 < n ∧ n ≤ 81 ∧ wz_L g) ∨ ∃ f n, bf_fin (tw_a0 g) (tw_to g) f n ∧ n ≤ 80 ∧ cnt = nI n := by
  obtain ⟨k, n, ⟨h1, _⟩, h2, h3, h4⟩ := h
  by_cases z : 80 < n
  · exact Or.inl ⟨n, h4, z, h2, k, by rw [h1]; exact z⟩
  · refine Or.inr ⟨(wb_B g k).1, n, ⟨k, ?_, by omega⟩, by omega, h4⟩
    rw [← h1]; rfl
/-- no useful rule -/
theorem yg_0 (u : Int32) (hU : yg_U g u) : u = 0 ↔ ¬ ∃ r, us_U g r := by
  constructor
  · rintro rfl ⟨r, hr⟩
    have := (hU r).mpr hr
    rw [b_0] at this; cases this
  · intro no
    rw [b_zero]
    intro i _
    cases e : bt u i
    · rfl
    · exact absurd ⟨i, (hU i).mp e⟩ no
theorem yg_v {r : Int32} (h : yg_R g r) : r = -4 ∨ r = -5 ∨ r = 0 ∨ r = 1 ∨ r = 2 ∨ r = 3 ∨ r = 4 := by
  rcases h with ⟨_, e⟩ | ⟨_, _, e⟩ | ⟨_, f, n, _, _, ⟨_, e⟩ | ⟨_, _, e⟩ | ⟨_, _, _, e⟩ | ⟨_, _, _, _, e⟩ | ⟨_, _, _, fw, nw, _, _, ⟨_, e⟩ | ⟨_, e⟩⟩⟩
  · exact Or.inl e
  · exact Or.inr (Or.inl e)
  · exact Or.inr (Or.inr (Or.inl e))
  · exact Or.inr (Or.inr (Or.inr (Or.inl e)))
  · exact Or.inr (Or.inr (Or.inr (Or.inr (Or.inl e))))
  · exact Or.inr (Or.inl e)
  · exact Or.inr (Or.inr (Or.inr (Or.inr (Or.inr (Or.inl e)))))
  · exact Or.inr (Or.inr (Or.inr (Or.inr (Or.inr (Or.inr e)))))
end
