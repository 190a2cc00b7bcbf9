/-! one step of the component's reading -/
variable {f_depth f_made f_textLength f_tokenCount f_wrongPlace f_ruleCount f_prepared f_rulesInUse f_stateCount f_wideCount f_gradeFound f_readHeight f_tokensTaken f_usedCount : Int32} {a_spotCounts a_ends a_arrows a_takers a_groups a_marks a_text a_tokenKinds a_tokenLengths a_lefts a_rights a_rightSizes a_beginSets a_followSets a_stateSteps a_wideSteps a_readStates a_readValues a_usedRules : Nat → Int32} {a_nextItems a_openItems a_restItems a_stateItems a_stateLooks a_wideLooks : Nat → Int64}
section
variable {g : rg_T}
/-- the arrays hold the reader's tables -/
def xr_T (lk : lr_K) (nx : lr_N) (n : Nat) (looks : Nat → Int64) (steps : Nat → Int32) : Prop := 1 ≤ n ∧ (∀ q t k, q < n → t < 4 → (bl (looks (q * 4 + t)) k = true ↔ lk q (k / 5) (k % 5) t)) ∧ ∀ q x, q < n → x < 7 → (nx q x = none ∧ steps (q * 7 + x) = -1) ∨ ∃ q', q' < n ∧ nx q x = some q' ∧ steps (q * 7 + x) = nI q'
/-- the arrays hold the stack -/
def xr_S (n : Nat) : List (Nat × vt_T) → (Nat → Int32) → (Nat → Int32) → Prop
  | [] => fun _ _ => True
  | a :: rest => fun S V => a.1 < n ∧ S rest.length = nI a.1 ∧ (rest ≠ [] → V rest.length = a.2.2.1) ∧ xr_S n rest S V
theorem xr_Sk {n : Nat} {S V S' V' : Nat → Int32} : ∀ st : List (Nat × vt_T), (∀ k, k < st.length → S' k = S k ∧ V' k = V k) → xr_S n st S V → xr_S n st S' V' := by
  intro st
  induction st with
  | nil => intro _ _; trivial
  | cons a rest ih =>
    intro h z
    obtain ⟨z1, z2, z3, z4⟩ := z
    have hl := h rest.length (Nat.lt_succ_self _)
    exact ⟨z1, hl.1.trans z2, fun q => hl.2.trans (z3 q), ih (fun k hk => h k (Nat.lt_succ_of_lt hk)) z4⟩
theorem xr_Sp {n : Nat} {S V : Nat → Int32} {st : List (Nat × vt_T)} {q : Nat} {v : vt_T} (h : xr_S n st S V) (hq : q < n) (h0 : st ≠ []) : xr_S n ((q, v) :: st) (upd S st.length (nI q)) (upd V st.length v.2.1) :=
  ⟨hq, pk_us, fun _ => pk_us, xr_Sk st (fun k hk => ⟨pk_un (by omega), pk_un (by omega)⟩) h⟩
/-- below what is popped -/
theorem xr_Sb {n : Nat} {S V : Nat → Int32} {b : List (Nat × vt_T)} : ∀ pop : List (Nat × vt_T), xr_S n (pop ++ b) S V → xr_S n b S V := by
  intro pop
  induction pop with
  | nil => exact fun z => z
  | cons a rest ih => exact fun z => ih z.2.2.2
/-- the values that are popped, the first one first -/
def xr_f (pop : List (Nat × vt_T)) (k : Nat) : vt_T := ((pop.map Prod.snd).reverse[k]?).getD ([], 0, 0, 0)
theorem xr_fc {a : Nat × vt_T} {rest : List (Nat × vt_T)} {k : Nat} (h : k < rest.length) : xr_f (a :: rest) k = xr_f rest k := by
  unfold xr_f
  rw [List.map_cons, List.reverse_cons, List.getElem?_append_left (by rw [List.length_reverse, List.length_map]; exact h)]
theorem xr_f0 {a : Nat × vt_T} {rest : List (Nat × vt_T)} : xr_f (a :: rest) rest.length = a.2 := by
  unfold xr_f
  rw [List.map_cons, List.reverse_cons, List.getElem?_append_right (by rw [List.length_reverse, List.length_map]; exact Nat.le_refl _)]
  rw [List.length_reverse, List.length_map, Nat.sub_self]
  rfl
theorem vt_lic {V : Type} {f f' : Nat → V} : ∀ c, (∀ k, k < c → f k = f' k) → vt_li f c = vt_li f' c := by
  intro c
  induction c with
  | zero => intro _; rfl
  | succ c ih =>
    intro h
    show f c :: vt_li f c = f' c :: vt_li f' c
    rw [h c (by omega), ih (fun k hk => h k (by omega))]
theorem xr_fl : ∀ pop : List (Nat × vt_T), vt_li (xr_f pop) pop.length = pop.map Prod.snd := by
  intro pop
  induction pop with
  | nil => rfl
  | cons a rest ih =>
    show xr_f (a :: rest) rest.length :: vt_li (xr_f (a :: rest)) rest.length = a.2 :: rest.map Prod.snd
    rw [xr_f0, vt_lic rest.length (fun k hk => xr_fc hk), ih]
theorem xr_Sv {n : Nat} {S V : Nat → Int32} {b : List (Nat × vt_T)} (hb : b ≠ []) : ∀ pop : List (Nat × vt_T), xr_S n (pop ++ b) S V → ∀ k, k < pop.length → V (b.length + k) = (xr_f pop k).2.1 := by
  intro pop
  induction pop with
  | nil => intro _ k hk; exact absurd hk (Nat.not_lt_zero _)
  | cons a rest ih =>
    intro z k hk
    obtain ⟨z1, z2, z3, z4⟩ := z
    by_cases e : k = rest.length
    · subst e
      rw [xr_f0]
      have := z3 (by intro q; exact hb (List.append_eq_nil_iff.mp q).2)
      rw [List.length_append, Nat.add_comm] at this
      exact this
    · have hk : k < rest.length + 1 := hk
      rw [xr_fc (by omega)]
      exact ih z4 k (by omega)
theorem vt_usa : ∀ a b : List vt_T, vt_us (a ++ b) = vt_us b ++ vt_us a := by
  intro a
  induction a with
  | nil => intro b; exact (List.append_nil _).symm
  | cons x xs ih =>
    intro b
    show vt_us (xs ++ b) ++ x.1 = vt_us b ++ (vt_us xs ++ x.1)
    rw [ih b, List.append_assoc]
end
