/-! constructors: the list of cells grows -/
theorem cj_ws {G : ab_G} {sk : aa_Sk} {V V' : aa_V} {c : aa_Ce} (h : ∀ k, k < sk.length → V' k = V k) : ab_ws G (sk ++ [c]) V' = ab_ws G sk V ++ [(G.1 + sk.length, ab_en G (V' sk.length) c)] := by
  unfold ab_ws
  apply List.ext_getElem?
  intro k
  rw [List.getElem?_mapIdx]
  rcases Nat.lt_trichotomy k sk.length with q | q | q
  · rw [List.getElem?_append_left q, List.getElem?_append_left (by rw [List.length_mapIdx]; exact q), List.getElem?_mapIdx, h k q]
  · subst q
    rw [List.getElem?_append_right (Nat.le_refl _), List.getElem?_append_right (by rw [List.length_mapIdx]; exact Nat.le_refl _), List.length_mapIdx, Nat.sub_self]
    rfl
  · rw [List.getElem?_eq_none (by rw [List.length_append]; show sk.length + 1 ≤ k; omega), List.getElem?_eq_none (by rw [List.length_append, List.length_mapIdx]; show sk.length + 1 ≤ k; omega)]
    rfl
theorem cj_us {sk : aa_Sk} {c : aa_Ce} : ab_us (sk ++ [c]) = ab_us sk + c.2.1 := by
  induction sk with
  | nil => show c.2.1 + 0 = 0 + c.2.1; omega
  | cons a t ih =>
    show a.2.1 + ab_us (t ++ [c]) = a.2.1 + ab_us t + c.2.1
    omega
theorem cj_u {sk : aa_Sk} {c : aa_Ce} : ab_u (sk ++ [c]) = ab_u sk + 1 := by
  show (sk ++ [c]).length = sk.length + 1
  rw [List.length_append]
  rfl
theorem cj_wf {sk : aa_Sk} {c : aa_Ce} (h : aa_wf sk) (hc : (c.1 < 100 → ∃ r : vw_C, vwCl[c.1]? = some r ∧ r.2.2 = c.2.1) ∧ c.1 < 104) : aa_wf (sk ++ [c]) := by
  have sh : ∀ (l : aa_Sk) (a : Nat) (x : aa_Ce), aa_sh (l ++ [c]) a = some x → aa_sh l a = some x ∨ x = c := by
    intro l
    induction l with
    | nil =>
      intro a x hx
      cases a with
      | zero => exact Or.inr (Option.some.inj hx).symm
      | succ a => cases hx
    | cons b t ih =>
      intro a x hx
      cases a with
      | zero => exact Or.inl hx
      | succ a => exact ih a x hx
  intro a x hx
  rcases sh sk a x hx with q | q
  · exact h a x q
  · rw [q]; exact hc
