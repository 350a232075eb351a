/-! sworn, began -/
theorem sb_l {z : Int32} : (z &&& (1 : Int32)) = 1 ↔ sb z 0 = true := by
  rw [← Int32.toBitVec_inj, Int32.toBitVec_and]
  exact sb_and1 _
theorem sb_sh {a : Int32} {j : Nat} (hj : j < 32) : sb (a >>> ((nI j) &&& 31)) 0 = sb a j := by
  rw [Bool.eq_iff_iff, ← sb_l]
  exact sb_t hj
theorem sb_e {x y : Int32} : x = y ↔ ∀ k, k < 32 → sb x k = sb y k := ⟨fun h k _ => by rw [h], sb_ext⟩
/-- the two of a meeting -/
def swp (V : aa_V) (i : Nat) : Int32 := ((1 : Int32) <<< ((V 55 i) &&& 31)) ||| ((1 : Int32) <<< ((V 56 i) &&& 31))
def swf (V : aa_V) (by_ : Int32) (i : Nat) (a : Int32) : Int32 := if by_ < V 57 i then a else if a &&& swp V i = 0 then a else a ||| swp V i
theorem fo_st {α : Type} {f : Nat → α → α} : ∀ (n k : Nat) (a : α), (∀ i x, k ≤ i → i < n → f i x = x) → k ≤ n → fo f n a = fo f k a
  | 0, k, a, _, h => by rw [show k = 0 by omega]
  | n + 1, k, a, h, hk => by
    rcases Nat.lt_or_ge k (n + 1) with q | q
    · rw [fo_s, h n _ (by omega) (by omega), fo_st n k a (fun i x h1 h2 => h i x h1 (by omega)) (by omega)]
    · rw [show k = n + 1 by omega]
theorem q13f {V : aa_V} {by_ a0 : Int32} {m : Nat} (hs : ∀ i j, i ≤ j → j < m → ¬ V 57 j < V 57 i) : ∀ k, k ≤ m → (∀ x, fe (fun (i_13 : Nat) (a_13 : Int32) => ((if by_ < (V 57 i_13) then .inr a_13 else (if (a_13 &&& (((1 : Int32) <<< ((V 55 i_13) &&& 31)) ||| ((1 : Int32) <<< ((V 56 i_13) &&& 31)))) = 0 then .inl a_13 else .inl (a_13 ||| (((1 : Int32) <<< ((V 55 i_13) &&& 31)) ||| ((1 : Int32) <<< ((V 56 i_13) &&& 31)))))) : Int32 ⊕ Int32)) k a0 = .inl x → x = fo (swf V by_) k a0) ∧ (∀ b, fe (fun (i_13 : Nat) (a_13 : Int32) => ((if by_ < (V 57 i_13) then .inr a_13 else (if (a_13 &&& (((1 : Int32) <<< ((V 55 i_13) &&& 31)) ||| ((1 : Int32) <<< ((V 56 i_13) &&& 31)))) = 0 then .inl a_13 else .inl (a_13 ||| (((1 : Int32) <<< ((V 55 i_13) &&& 31)) ||| ((1 : Int32) <<< ((V 56 i_13) &&& 31)))))) : Int32 ⊕ Int32)) k a0 = .inr b → b = fo (swf V by_) k a0 ∧ ∃ j, j < k ∧ by_ < V 57 j)
  | 0, _ => ⟨fun x h => by injection h with h; exact h.symm, fun b h => by cases h⟩
  | k + 1, hk => by
    obtain ⟨ih1, ih2⟩ := q13f hs (by_ := by_) (a0 := a0) k (by omega)
    cases e : fe (fun (i_13 : Nat) (a_13 : Int32) => ((if by_ < (V 57 i_13) then .inr a_13 else (if (a_13 &&& (((1 : Int32) <<< ((V 55 i_13) &&& 31)) ||| ((1 : Int32) <<< ((V 56 i_13) &&& 31)))) = 0 then .inl a_13 else .inl (a_13 ||| (((1 : Int32) <<< ((V 55 i_13) &&& 31)) ||| ((1 : Int32) <<< ((V 56 i_13) &&& 31)))))) : Int32 ⊕ Int32)) k a0 with
    | inl y =>
      have hy := ih1 y e
      rw [fe_s, e, fo_s, ← hy]
      unfold swf swp
      dsimp only
      by_cases c1 : by_ < V 57 k
      · rw [if_pos c1, if_pos c1]
        exact ⟨fun x h => (by cases h), fun b h => by injection h with h; exact ⟨h.symm, k, by omega, c1⟩⟩
      · rw [if_neg c1, if_neg c1]
        by_cases c2 : (y &&& (((1 : Int32) <<< ((V 55 k) &&& 31)) ||| ((1 : Int32) <<< ((V 56 k) &&& 31)))) = 0
        · rw [if_pos c2, if_pos c2]
          exact ⟨fun x h => by injection h with h; exact h.symm, fun b h => by cases h⟩
        · rw [if_neg c2, if_neg c2]
          exact ⟨fun x h => by injection h with h; exact h.symm, fun b h => by cases h⟩
    | inr b =>
      obtain ⟨hb, j, hj, hj2⟩ := ih2 b e
      have c1 : by_ < V 57 k := by
        have := hs j k (by omega) (by omega)
        simp only [zz_lt] at this hj2 ⊢
        omega
      rw [fe_s, e, fo_s, ← hb]
      unfold swf
      rw [if_pos c1]
      exact ⟨fun x h => (by cases h), fun b' h => by injection h with h; exact ⟨h.symm, j, by omega, hj2⟩⟩
section
variable {V : aa_V}
theorem q13 (ho : nv_o V) (i1 i2 : Int32) : va_13 i1 i2 V = fo (swf V i2) (V 54 0).toNatClampNeg i1 := by
  obtain ⟨⟨o1, o2, o3, o4⟩, o5, o6, o7, o8, o9⟩ := ho
  have key := q13f (V := V) (by_ := i2) (a0 := i1) o6 (V 54 0).toNatClampNeg (Nat.le_refl _)
  unfold va_13 vl_13_5
  split
  · rename_i a h
    exact key.1 a h
  · rename_i b h
    exact (key.2 b h).1
theorem swp_b (ho : nv_o V) {a : Int32} {i : Nat} : (∃ x y : Nat, x < 12 ∧ y < 12 ∧ V 55 i = nI x ∧ V 56 i = nI y ∧ ((a &&& swp V i = 0) ↔ ¬ (sb a x = true ∨ sb a y = true)) ∧ (∀ k, k < 32 → (sb (swp V i) k = true ↔ k = x ∨ k = y)) ∧ ((((a >>> ((V 55 i) &&& 31)) ||| (a >>> ((V 56 i) &&& 31))) &&& (1 : Int32)) = (1 : Int32) ↔ (sb a x = true ∨ sb a y = true))) := by
  obtain ⟨⟨o1, o2, o3, o4⟩, o5, o6, o7, o8, o9⟩ := ho
  obtain ⟨x, hx, hx2⟩ := zb_i (o7 i)
  obtain ⟨y, hy, hy2⟩ := zb_i (o8 i)
  have hp : ∀ k, k < 32 → (sb (swp V i) k = true ↔ k = x ∨ k = y) := fun k hk => by
    unfold swp
    rw [hx, hy, sb_or, sb_shl (by omega) hk, sb_shl (by omega) hk, Bool.or_eq_true, decide_eq_true_eq, decide_eq_true_eq]
  refine ⟨x, y, by omega, by omega, hx, hy, ?_, hp, ?_⟩
  · rw [sb_e]
    constructor
    · intro h q
      rcases q with q | q
      · have := h x (by omega)
        rw [sb_and, q, (hp x (by omega)).mpr (Or.inl rfl), sb_0] at this
        cases this
      · have := h y (by omega)
        rw [sb_and, q, (hp y (by omega)).mpr (Or.inr rfl), sb_0] at this
        cases this
    · intro h k hk
      rw [sb_and, sb_0]
      cases e1 : sb a k with
      | false => rfl
      | true =>
        cases e2 : sb (swp V i) k with
        | false => rfl
        | true =>
          rcases (hp k hk).mp e2 with q | q
          · exact absurd (Or.inl (q ▸ e1)) h
          · exact absurd (Or.inr (q ▸ e1)) h
  · rw [hx, hy, sb_l, sb_or, sb_sh (by omega), sb_sh (by omega), Bool.or_eq_true]
theorem q259 (ho : nv_o V) (i1 i2 : Int32) : va_259 i1 i2 V = fo (swf V i2) (V 54 0).toNatClampNeg i1 := by
  have ho' := ho
  obtain ⟨⟨o1, o2, o3, o4⟩, o5, o6, o7, o8, o9⟩ := ho'
  unfold va_259 vl_259_5
  rw [o1]
  dsimp only
  refine fo_c (fun i hi a => ?_)
  obtain ⟨o, h1, h2, h3, h4, h5⟩ := o5 i hi
  have h40 : (V 54 0).toNatClampNeg ≤ 40 := o2.2
  rw [h2, zz_ix (by omega), ← h3, ← h4, ← h5]
  obtain ⟨x, y, _, _, hx, hy, g1, g2, g3⟩ := swp_b ho (a := a) (i := i)
  unfold swf
  by_cases c1 : i2 < V 57 i
  · rw [if_pos c1, if_pos c1]
  · rw [if_neg c1, if_neg c1]
    by_cases c2 : sb a x = true ∨ sb a y = true
    · rw [if_pos (g3.mpr c2), if_neg (fun z => g1.mp z c2)]
      rfl
    · rw [if_neg (fun z => c2 (g3.mp z)), if_pos (g1.mpr c2)]
theorem q141 (ho : nv_o V) : ∀ i, i < (V 105 54).toNatClampNeg → vp_in (V 141 i) 40 := fun i hi => by
  obtain ⟨⟨o1, o2, o3, o4⟩, o5, o6, o7, o8, o9⟩ := ho
  rw [o1] at hi
  obtain ⟨o, h1, h2, h3, h4, h5⟩ := o5 i hi
  have h40 : (V 54 0).toNatClampNeg ≤ 40 := o2.2
  rw [h2]
  exact vp_in_nI (by omega) (by decide)
/-- what one more meeting does -/
theorem swf_b (ho : nv_o V) (by_ a : Int32) (i : Nat) : ∃ x y : Nat, x < 12 ∧ y < 12 ∧ ∀ k, k < 32 → (sb (swf V by_ i a) k = true ↔ (sb a k = true ∨ (¬ by_ < V 57 i ∧ (sb a x = true ∨ sb a y = true) ∧ (k = x ∨ k = y)))) := by
  obtain ⟨x, y, l1, l2, hx, hy, g1, g2, g3⟩ := swp_b ho (a := a) (i := i)
  refine ⟨x, y, l1, l2, fun k hk => ?_⟩
  unfold swf
  by_cases c1 : by_ < V 57 i
  · rw [if_pos c1]
    exact ⟨fun h => Or.inl h, fun h => h.elim id (fun z => absurd c1 z.1)⟩
  · rw [if_neg c1]
    by_cases c2 : sb a x = true ∨ sb a y = true
    · rw [if_neg (fun z => g1.mp z c2), sb_or, Bool.or_eq_true, g2 k hk]
      exact ⟨fun h => h.elim Or.inl (fun z => Or.inr ⟨c1, c2, z⟩), fun h => h.elim Or.inl (fun z => Or.inr z.2.2)⟩
    · rw [if_pos (g1.mpr c2)]
      exact ⟨fun h => Or.inl h, fun h => h.elim id (fun z => absurd z.2.1 c2)⟩
theorem swf_x (ho : nv_o V) (i : Nat) : ∃ x y : Nat, x < 12 ∧ y < 12 ∧ ∀ (by_ a : Int32) (k : Nat), k < 32 → (sb (swf V by_ i a) k = true ↔ (sb a k = true ∨ (¬ by_ < V 57 i ∧ (sb a x = true ∨ sb a y = true) ∧ (k = x ∨ k = y)))) := by
  obtain ⟨⟨o1, o2, o3, o4⟩, o5, o6, o7, o8, o9⟩ := id ho
  obtain ⟨x, hx, hx2⟩ := zb_i (o7 i)
  obtain ⟨y, hy, hy2⟩ := zb_i (o8 i)
  refine ⟨x, y, by omega, by omega, fun by_ a k hk => ?_⟩
  obtain ⟨x', y', l1, l2, hx', hy', g1, g2, g3⟩ := swp_b ho (a := a) (i := i)
  have e1 : x' = x := nI_j (by omega) (by omega) (hx'.symm.trans hx)
  have e2 : y' = y := nI_j (by omega) (by omega) (hy'.symm.trans hy)
  subst e1
  subst e2
  unfold swf
  by_cases c1 : by_ < V 57 i
  · rw [if_pos c1]
    exact ⟨fun h => Or.inl h, fun h => h.elim id (fun z => absurd c1 z.1)⟩
  · rw [if_neg c1]
    by_cases c2 : sb a x' = true ∨ sb a y' = true
    · rw [if_neg (fun z => g1.mp z c2), sb_or, Bool.or_eq_true, g2 k hk]
      exact ⟨fun h => h.elim Or.inl (fun z => Or.inr ⟨c1, c2, z⟩), fun h => h.elim Or.inl (fun z => Or.inr z.2.2)⟩
    · rw [if_pos (g1.mpr c2)]
      exact ⟨fun h => Or.inl h, fun h => h.elim id (fun z => absurd z.2.1 c2)⟩
/-- what several swear in is what each of them alone would -/
theorem sw_lin (ho : nv_o V) (by_ s : Int32) : ∀ (n q : Nat), q < 32 → (sb (fo (swf V by_) n s) q = true ↔ ∃ p, p < 32 ∧ sb s p = true ∧ sb (fo (swf V by_) n ((1 : Int32) <<< ((nI p) &&& 31))) q = true)
  | 0, q, hq => ⟨fun h => ⟨q, hq, h, by show sb ((1 : Int32) <<< ((nI q) &&& 31)) q = true; rw [sb_shl hq hq]; exact decide_eq_true rfl⟩, fun ⟨p, hp, h1, h2⟩ => by
      have h2 : sb ((1 : Int32) <<< ((nI p) &&& 31)) q = true := h2
      rw [sb_shl hp hq, decide_eq_true_eq] at h2
      rw [h2]
      exact h1⟩
  | n + 1, q, hq => by
    obtain ⟨x, y, hx, hy, g⟩ := swf_x ho n
    have ih := sw_lin ho by_ s n
    rw [fo_s, g by_ _ q hq, ih q hq, ih x (by omega), ih y (by omega)]
    constructor
    · rintro (⟨p, h1, h2, h3⟩ | ⟨h0, ⟨p, h1, h2, h3⟩ | ⟨p, h1, h2, h3⟩, h4⟩)
      · exact ⟨p, h1, h2, by rw [fo_s, g by_ _ q hq]; exact Or.inl h3⟩
      · exact ⟨p, h1, h2, by rw [fo_s, g by_ _ q hq]; exact Or.inr ⟨h0, Or.inl h3, h4⟩⟩
      · exact ⟨p, h1, h2, by rw [fo_s, g by_ _ q hq]; exact Or.inr ⟨h0, Or.inr h3, h4⟩⟩
    · rintro ⟨p, h1, h2, h3⟩
      rw [fo_s, g by_ _ q hq] at h3
      rcases h3 with h3 | ⟨h0, h3 | h3, h4⟩
      · exact Or.inl ⟨p, h1, h2, h3⟩
      · exact Or.inr ⟨h0, Or.inl ⟨p, h1, h2, h3⟩, h4⟩
      · exact Or.inr ⟨h0, Or.inr ⟨p, h1, h2, h3⟩, h4⟩
theorem sw_mono (ho : nv_o V) (by_ s : Int32) {q : Nat} (hq : q < 32) (h : sb s q = true) : ∀ n, sb (fo (swf V by_) n s) q = true
  | 0 => h
  | n + 1 => by
    obtain ⟨x, y, hx, hy, g⟩ := swf_x ho n
    rw [fo_s, g by_ _ q hq]
    exact Or.inl (sw_mono ho by_ s hq h n)
end
set_option maxRecDepth 20000 in
theorem cs_168 {G : ab_G} {L : Nat} {xs : Nat → Int32} {l : Launch} {d : Nat} {i1 i2 : Int32} {V : aa_V} {Q : Int32 → Int32 → aa_V → Prop} (hI : nv V) (hQ : ∀ x W, nv W → Q x x W) :
    ab_E G (ac_ST L xs) l (d + 3) ac_SK 168 [.ref 0, .int i1, .int i2] V (aa_rI fun x V1 => ab_E G (ac_ST L xs) l (d + 3) ac_SK 260 [.ref 105, .int i1, .int i2] V1 (aa_rI fun y W => Q x y W)) := by
  have ho := hI.2.2.2.2.2.1
  obtain ⟨⟨o1, o2, o3, o4⟩, o5, o6, o7, o8, o9⟩ := id ho
  obtain ⟨⟨p1, p2, p3, p4, p5, p6⟩, _⟩ := hI.2.2.2.2.1
  refine sp_168 o2 ?_
  dsimp only [aa_rI]
  refine sp_260 (by rw [o1]; exact o2) (q141 ho) ?_
  dsimp only [aa_rI]
  have e1 : va_260 i1 i2 V = va_168 i1 i2 V := by
    unfold va_260 va_168
    rw [p1, q13 ho, q259 ho]
    obtain ⟨n, hn, hm⟩ := zb_i p2
    rw [hn]
    have t := (show ∀ n, n < 13 → (((1 : Int32) <<< ((nI n) &&& 31)) - (1 : Int32)).toInt = ((1 : Int32) <<< ((nI n) &&& 31)).toInt - 1 by decide +kernel) n (by omega)
    by_cases c1 : i1 < 0
    · rw [if_pos c1, if_pos c1]
    · rw [if_neg c1, if_neg c1]
      by_cases c2 : i1 < ((1 : Int32) <<< ((nI n) &&& 31))
      · rw [if_pos c2, if_neg (by simp only [zz_lt, t] at c2 ⊢; omega)]
      · rw [if_neg c2, if_pos (by simp only [zz_lt, t] at c2 ⊢; omega)]
  rw [e1]
  exact hQ _ _ hI
