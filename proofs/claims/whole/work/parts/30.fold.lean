/-! folds that may stop; rows of rows -/
theorem zz_ge {x : Int32} {n : Nat} (hn : x = nI n) : ¬ nI n < x := by
  rw [hn, Int32.lt_iff_toInt_lt]
  omega
theorem zz_gl {x : Int32} {i n : Nat} (hn : x = nI n) (hi : i < n) (hb : n < 2147483648) : nI i < x := by
  rw [hn]
  exact nI_lt hi hb
/-- a number that counts, b at most -/
def zb (x : Int32) (b : Nat) : Prop := x = nI x.toNatClampNeg ∧ x.toNatClampNeg ≤ b
theorem zb_of {n b : Nat} (h : n ≤ b) (hb : b < 2147483648) : zb (nI n) b := by
  have e : (nI n).toNatClampNeg = n := zz_ix (by omega)
  exact ⟨by rw [e], by rw [e]; exact h⟩
def fe {α β : Type} (F : Nat → α → α ⊕ β) : Nat → α → α ⊕ β
  | 0, a => .inl a
  | n + 1, a => match fe F n a with
    | .inl x => F n x
    | .inr b => .inr b
theorem fe_s {α β : Type} (F : Nat → α → α ⊕ β) (n : Nat) (a : α) : fe F (n + 1) a = (match fe F n a with
    | .inl x => F n x
    | .inr b => .inr b) := rfl
theorem fe_stay {α β : Type} {F : Nat → α → α ⊕ β} {i : Nat} {a : α} {b : β} (h : fe F i a = .inr b) : ∀ k, fe F (i + k) a = .inr b
  | 0 => h
  | k + 1 => by rw [show i + (k + 1) = (i + k) + 1 by omega, fe_s, fe_stay h k]
theorem zz_fe {α β : Type} (F : Nat → α → α ⊕ β) (J : Nat → α → Prop) (E : β → Prop) (n : Nat) (a0 : α) (hx : ∀ a, fe F n a0 = .inl a → J n a) (hs : ∀ i a, i < n → fe F i a0 = .inl a → (∀ a', F i a = .inl a' → J (i + 1) a') → (∀ b, F i a = .inr b → E b) → J i a) (he : ∀ b, fe F n a0 = .inr b → E b) : J 0 a0 := by
  have key : ∀ k i a, n - i ≤ k → i ≤ n → fe F i a0 = .inl a → J i a := by
    intro k
    induction k with
    | zero =>
      intro i a hk hi h
      have : i = n := by omega
      subst this
      exact hx a h
    | succ k ih =>
      intro i a hk hi h
      rcases Nat.lt_or_ge i n with q | q
      · refine hs i a q h (fun a' h' => ih (i + 1) a' (by omega) (by omega) (by rw [fe_s, h]; exact h')) (fun b hb => he b ?_)
        have h2 : fe F (i + 1) a0 = .inr b := by rw [fe_s, h]; exact hb
        have h3 := fe_stay h2 (n - (i + 1))
        rw [show i + 1 + (n - (i + 1)) = n by omega] at h3
        exact h3
      · have : i = n := by omega
        subst this
        exact hx a h
  exact key n 0 a0 (by omega) (by omega) rfl
theorem zz_vl {x : Int32} {n : Nat} (h : vp_in x n) : x.toNatClampNeg < n := Nat.not_le.mp fun q => h (Or.inr q)
theorem zq_2 {x : Int32} (h : vp_in x 8) : aa_nth [4, 5, 6, 7, 8, 9, 10, 11] x.toNatClampNeg = (3 + x.toNatClampNeg) + 1 := (show ∀ a, a < 8 → aa_nth [4, 5, 6, 7, 8, 9, 10, 11] a = (3 + a) + 1 by decide) _ (zz_vl h)
theorem zs_2 {x : Int32} (h : vp_in x 8) : aa_sh ac_SK (3 + x.toNatClampNeg) = some (100, 8, []) := (show ∀ a, a < 8 → aa_sh ac_SK (3 + a) = some (100, 8, []) by decide +kernel) _ (zz_vl h)
theorem zq_11 {x : Int32} (h : vp_in x 8) : aa_nth [13, 14, 15, 16, 17, 18, 19, 20] x.toNatClampNeg = (12 + x.toNatClampNeg) + 1 := (show ∀ a, a < 8 → aa_nth [13, 14, 15, 16, 17, 18, 19, 20] a = (12 + a) + 1 by decide) _ (zz_vl h)
theorem zs_11 {x : Int32} (h : vp_in x 8) : aa_sh ac_SK (12 + x.toNatClampNeg) = some (100, 8, []) := (show ∀ a, a < 8 → aa_sh ac_SK (12 + a) = some (100, 8, []) by decide +kernel) _ (zz_vl h)
theorem zq_20 {x : Int32} (h : vp_in x 8) : aa_nth [22, 23, 24, 25, 26, 27, 28, 29] x.toNatClampNeg = (21 + x.toNatClampNeg) + 1 := (show ∀ a, a < 8 → aa_nth [22, 23, 24, 25, 26, 27, 28, 29] a = (21 + a) + 1 by decide) _ (zz_vl h)
theorem zs_20 {x : Int32} (h : vp_in x 8) : aa_sh ac_SK (21 + x.toNatClampNeg) = some (100, 8, []) := (show ∀ a, a < 8 → aa_sh ac_SK (21 + a) = some (100, 8, []) by decide +kernel) _ (zz_vl h)
theorem zq_65 {x : Int32} (h : vp_in x 6) : aa_nth [67, 68, 69, 70, 71, 72] x.toNatClampNeg = (66 + x.toNatClampNeg) + 1 := (show ∀ a, a < 6 → aa_nth [67, 68, 69, 70, 71, 72] a = (66 + a) + 1 by decide) _ (zz_vl h)
theorem zs_65 {x : Int32} (h : vp_in x 6) : aa_sh ac_SK (66 + x.toNatClampNeg) = some (100, 5, []) := (show ∀ a, a < 6 → aa_sh ac_SK (66 + a) = some (100, 5, []) by decide +kernel) _ (zz_vl h)
theorem zq_75 {x : Int32} (h : vp_in x 4) : aa_nth [77, 78, 79, 80] x.toNatClampNeg = (76 + x.toNatClampNeg) + 1 := (show ∀ a, a < 4 → aa_nth [77, 78, 79, 80] a = (76 + a) + 1 by decide) _ (zz_vl h)
theorem zs_75 {x : Int32} (h : vp_in x 4) : aa_sh ac_SK (76 + x.toNatClampNeg) = some (100, 40, []) := (show ∀ a, a < 4 → aa_sh ac_SK (76 + a) = some (100, 40, []) by decide +kernel) _ (zz_vl h)
/-- the worth of a set to a side: r is the row of that side -/
def va_8 (r : Nat) (i2 : Int32) (V : aa_V) : Int32 := fo (fun (i : Nat) (a : Int32) => if ((i2 >>> ((nI i) &&& 31)) &&& (1 : Int32)) = (1 : Int32) then a + V r i else a) (V 60 0).toNatClampNeg 0
theorem sp_8 {G : ab_G} {L : Nat} {xs : Nat → Int32} {l : Launch} {d r1 : Nat} {i2 : Int32} {V : aa_V} {K : aa_K} (hz : zb (V 60 0) 8) (hr : aa_sh ac_SK r1 = some (100, 8, [])) (h : K (some (.int (va_8 r1 i2 V))) V) : ab_E G (ac_ST L xs) l (d + 1) ac_SK 8 [.ref 60, .ref r1, .int i2] V K := by
  obtain ⟨n, hn, hm⟩ : ∃ n : Nat, (V 60 0) = nI n ∧ n ≤ 8 := ⟨_, hz.1, hz.2⟩
  have hN : (V 60 0).toNatClampNeg = n := by rw [hn]; exact zz_ix (by omega)
  rw [va_8, hN] at h
  refine iv_8_0 ?_
  refine zz_fo (fun (i : Nat) (a : Int32) => if ((i2 >>> ((nI i) &&& 31)) &&& (1 : Int32)) = (1 : Int32) then a + V r1 i else a) (fun i a => ab_J G (ac_ST L xs) l (d + 1) 8 5 [some (.ref 60), some (.ref r1), some (.int i2), some (.int a), some (.int (nI i))] [] ac_SK V ac_SK K) n 0 ?_ ?_
  · exact iv_8_5 ⟨fun q => absurd q (zz_ge hn), fun _ => h⟩
  · intro i hi ih
    have e : (nI i).toNatClampNeg = i := zz_ix (by omega)
    rw [fo_s, nI_succ] at ih
    refine iv_8_5 ⟨fun _ => ?_, fun q => absurd (zz_gl hn hi (by omega)) q⟩
    simp only [e]
    refine ⟨fun c1 => ?_, fun c1 => ?_⟩
    · rw [if_pos c1] at ih
      exact ⟨8, [], hr, vp_in_nI (by omega) (by decide), ih⟩
    · rw [if_neg c1] at ih
      exact ih
