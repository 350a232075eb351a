/-! small numbers, truth, folds, sets of bits -/
/-- a truth as a number -/
def tf (p : Prop) [Decidable p] : Int32 := if p then 1 else 0
theorem tf_t {p : Prop} [Decidable p] (h : p) : tf p = 1 := if_pos h
theorem tf_f {p : Prop} [Decidable p] (h : ¬ p) : tf p = 0 := if_neg h
theorem tf_0 {p : Prop} [Decidable p] : tf p = 0 ↔ ¬ p := by
  by_cases h : p
  · rw [tf_t h]
    exact ⟨fun q => absurd q (by decide), fun q => absurd h q⟩
  · rw [tf_f h]
    exact ⟨fun _ => h, fun _ => rfl⟩
theorem tf_1 {p : Prop} [Decidable p] : tf p = 1 ↔ p := by
  by_cases h : p
  · rw [tf_t h]
    exact ⟨fun _ => h, fun _ => rfl⟩
  · rw [tf_f h]
    exact ⟨fun q => absurd q (by decide), fun q => absurd q h⟩
theorem tf_b {p : Prop} [Decidable p] : aa_bit (tf p) := by
  by_cases h : p
  · exact Or.inr (tf_t h)
  · exact Or.inl (tf_f h)
theorem tf_c {p q : Prop} [Decidable p] [Decidable q] (h : p ↔ q) : tf p = tf q := by
  by_cases hp : p
  · rw [tf_t hp, tf_t (h.mp hp)]
  · rw [tf_f hp, tf_f (fun z => hp (h.mpr z))]
/-- a fold over the numbers below n -/
def fo {α : Type} (f : Nat → α → α) : Nat → α → α
  | 0, a => a
  | n + 1, a => f n (fo f n a)
theorem fo_0 {α : Type} (f : Nat → α → α) (a : α) : fo f 0 a = a := rfl
theorem fo_s {α : Type} (f : Nat → α → α) (n : Nat) (a : α) : fo f (n + 1) a = f n (fo f n a) := rfl
theorem fo_c {α : Type} {f g : Nat → α → α} : ∀ {n : Nat} {a : α}, (∀ i, i < n → ∀ x, f i x = g i x) → fo f n a = fo g n a
  | 0, a, h => rfl
  | n + 1, a, h => by rw [fo_s, fo_s, fo_c (fun i hi x => h i (by omega) x), h n (by omega)]
/-- a loop up to n -/
theorem zz_up {σ : Type} (J I : Nat → σ → Prop) (n : Nat) (hx : ∀ s, I n s → J n s) (hs : ∀ i s, i < n → I i s → (∀ s', I (i + 1) s' → J (i + 1) s') → J i s) : ∀ i s, i ≤ n → I i s → J i s := by
  have key : ∀ k i s, n - i ≤ k → i ≤ n → I i s → J i s := by
    intro k
    induction k with
    | zero =>
      intro i s hk hi h
      have : i = n := by omega
      subst this
      exact hx s h
    | succ k ih =>
      intro i s hk hi h
      rcases Nat.lt_or_ge i n with q | q
      · exact hs i s q h (fun s' h' => ih (i + 1) s' (by omega) (by omega) h')
      · have : i = n := by omega
        subst this
        exact hx s h
  exact fun i s hi h => key (n - i) i s (Nat.le_refl _) hi h
/-- the same, where the state is a fold -/
theorem zz_fo {α : Type} (f : Nat → α → α) (J : Nat → α → Prop) (n : Nat) (a : α) (hx : J n (fo f n a)) (hs : ∀ i, i < n → J (i + 1) (fo f (i + 1) a) → J i (fo f i a)) : J 0 a := by
  have key : ∀ k i, n - i ≤ k → i ≤ n → J i (fo f i a) := by
    intro k
    induction k with
    | zero =>
      intro i hk hi
      have : i = n := by omega
      subst this
      exact hx
    | succ k ih =>
      intro i hk hi
      rcases Nat.lt_or_ge i n with q | q
      · exact hs i q (ih (i + 1) (by omega) (by omega))
      · have : i = n := by omega
        subst this
        exact hx
  exact key n 0 (by omega) (by omega)
-- numbers
theorem zz_lt {x y : Int32} : x < y ↔ x.toInt < y.toInt := Int32.lt_iff_toInt_lt
theorem zz_eq {x y : Int32} : x = y ↔ x.toInt = y.toInt := Int32.toInt_inj.symm
theorem zz_ix {n : Nat} (h : n < 2 ^ 31) : (nI n).toNatClampNeg = n := nI_clamp h
theorem zz_nlt {a b : Nat} (ha : a < 2 ^ 31) (hb : b < 2 ^ 31) : (nI a < nI b) ↔ a < b := nI_ltI ha hb
/-- an int that is no less than 0 and less than a number -/
theorem zz_of {x : Int32} {n : Nat} (h0 : ¬ x < 0) (h1 : x < nI n) (hn : n < 2 ^ 31) : ∃ j : Nat, j < n ∧ x = nI j := by
  rcases pk_ix x hn with q | q | q
  · exact absurd q h0
  · exact absurd h1 (Int32.not_lt.mpr q)
  · exact q
theorem zz_vin {x : Int32} {n : Nat} (h0 : ¬ x < 0) (h1 : x < nI n) (hn : n < 2 ^ 31) : vp_in x n := by
  obtain ⟨j, hj, rfl⟩ := zz_of h0 h1 hn
  exact vp_in_nI hj hn
theorem zz_l64 {x y : Int32} : x.toInt64 < y.toInt64 ↔ x < y := by
  rw [Int64.lt_iff_toInt_lt, Int32.lt_iff_toInt_lt, Int32.toInt_toInt64, Int32.toInt_toInt64]
theorem zz_cl {x y : Int64} : lg_cmp x y < 0 ↔ x < y := by
  have h := lg_cmp_ge x y
  rw [Int32.le_iff_toInt_le] at h
  rw [Int32.lt_iff_toInt_lt, Int64.lt_iff_toInt_lt]
  rw [Int64.le_iff_toInt_le] at h
  simp only [Int32.toInt_zero] at h ⊢
  omega
theorem zz_cg {x y : Int64} : 0 < lg_cmp x y ↔ y < x := by
  unfold lg_cmp
  by_cases h1 : y < x
  · rw [if_pos h1]
    exact ⟨fun _ => h1, fun _ => by decide⟩
  · rw [if_neg h1]
    by_cases h2 : x = y
    · rw [if_pos h2]
      exact ⟨fun q => absurd q (by decide), fun q => absurd q h1⟩
    · rw [if_neg h2]
      exact ⟨fun q => absurd q (by decide), fun q => absurd q h1⟩
theorem ab_EmI {G : ab_G} {ST : aa_St} {l : Launch} {d : Nat} {sk : aa_Sk} {m : Nat} {as : List Value} {V : aa_V} {k k' : Int32 → aa_V → Prop} (hk : ∀ x V1, k x V1 → k' x V1) (h : ab_E G ST l d sk m as V (aa_rI k)) : ab_E G ST l d sk m as V (aa_rI k') :=
  ab_J.mono h (Nat.le_refl _) (fun r V1 q => by
    cases r with
    | none => exact q
    | some v => cases v <;> first | exact hk _ _ q | exact q)
theorem ab_EmL {G : ab_G} {ST : aa_St} {l : Launch} {d : Nat} {sk : aa_Sk} {m : Nat} {as : List Value} {V : aa_V} {k k' : Int64 → aa_V → Prop} (hk : ∀ x V1, k x V1 → k' x V1) (h : ab_E G ST l d sk m as V (aa_rL k)) : ab_E G ST l d sk m as V (aa_rL k') :=
  ab_J.mono h (Nat.le_refl _) (fun r V1 q => by
    cases r with
    | none => exact q
    | some v => cases v <;> first | exact hk _ _ q | exact q)
theorem ab_EmR {G : ab_G} {ST : aa_St} {l : Launch} {d : Nat} {sk : aa_Sk} {m : Nat} {as : List Value} {V : aa_V} {k k' : Nat → aa_V → Prop} (hk : ∀ x V1, k x V1 → k' x V1) (h : ab_E G ST l d sk m as V (aa_rR k)) : ab_E G ST l d sk m as V (aa_rR k') :=
  ab_J.mono h (Nat.le_refl _) (fun r V1 q => by
    cases r with
    | none => exact q
    | some v => cases v <;> first | exact hk _ _ q | exact q)
theorem ab_EmV {G : ab_G} {ST : aa_St} {l : Launch} {d : Nat} {sk : aa_Sk} {m : Nat} {as : List Value} {V : aa_V} {k k' : aa_V → Prop} (hk : ∀ V1, k V1 → k' V1) (h : ab_E G ST l d sk m as V (aa_rV k)) : ab_E G ST l d sk m as V (aa_rV k') :=
  ab_J.mono h (Nat.le_refl _) (fun r V1 q => by
    cases r with
    | none => exact hk _ q
    | some v => exact q)
theorem iv_isIn {G : ab_G} {L : Nat} {xs : Nat → Int32} {l : Launch} {d : Nat} {a b c : Int32} {lb lc : Int64} {V : aa_V} {K : aa_K} {la : Int64} (hb : lb = b.toInt64) (hc : lc = c.toInt64) (h :
    (a < b → K (some (.int (0 : Int32))) V) ∧ (¬ a < b → (c < a → K (some (.int (0 : Int32))) V) ∧ (¬ c < a → K (some (.int (1 : Int32))) V))) (ha : la = a.toInt64 := by rfl) : ab_E G (ac_ST L xs) l (d + 1) ac_SK 192 [.long la, .long lb, .long lc] V K := by
  subst ha; subst hb; subst hc
  refine vc_192_0 ⟨fun q => ?_, fun q => ⟨fun q2 => ?_, fun q2 => ?_⟩⟩
  · exact ⟨Or.inl rfl, h.1 (zz_l64.mp (zz_cl.mp q))⟩
  · exact ⟨Or.inl rfl, (h.2 (fun z => q (zz_cl.mpr (zz_l64.mpr z)))).1 (zz_l64.mp (zz_cg.mp q2))⟩
  · exact ⟨Or.inr rfl, (h.2 (fun z => q (zz_cl.mpr (zz_l64.mpr z)))).2 (fun z => q2 (zz_cg.mpr (zz_l64.mpr z)))⟩
