/-! values of shops, frames and forms -/
theorem vpz {x : Int32} {b n : Nat} (h : zb x b) (hb : b < n) (hn : n < 2147483648) : vp_in x n := by
  have := zb_r h (by omega)
  exact vp_of_r this.1 (by omega)
theorem zb_le {x : Int32} {b n : Nat} (h : zb x b) (hb : b ≤ n) : zb x n := ⟨h.1, Nat.le_trans h.2 hb⟩
theorem fe_c {α β : Type} {F H : Nat → α → α ⊕ β} : ∀ {n : Nat} {a : α}, (∀ i, i < n → ∀ x, F i x = H i x) → fe F n a = fe H n a
  | 0, _, _ => rfl
  | n + 1, a, h => by
    rw [fe_s, fe_s, fe_c (fun i hi x => h i (by omega) x)]
    cases fe H n a with
    | inl x => exact h n (by omega) x
    | inr b => rfl
/-- what a fold that stopped says, some step said -/
theorem fe_p {α β : Type} {F : Nat → α → α ⊕ β} {P : β → Prop} : ∀ {n : Nat} {a : α}, (∀ i, i < n → ∀ x b, F i x = .inr b → P b) → ∀ b, fe F n a = .inr b → P b
  | 0, _, _, _, q => by cases q
  | n + 1, a, h, b, q => by
    rw [fe_s] at q
    cases e : fe F n a with
    | inl x =>
      rw [e] at q
      exact h n (by omega) x b q
    | inr c =>
      rw [e] at q
      have : c = b := by injection q
      exact fe_p (n := n) (a := a) (fun i hi x b' => h i (by omega) x b') b (by rw [e, this])
/-- two folds that go side by side -/
theorem fe_r {α α' β : Type} {F : Nat → α → α ⊕ β} {H : Nat → α' → α' ⊕ β} {R : Nat → α → α' → Prop} : ∀ {n : Nat} {a : α} {a' : α'}, R 0 a a' → (∀ i, i < n → ∀ x x', R i x x' → (∃ y y', F i x = .inl y ∧ H i x' = .inl y' ∧ R (i + 1) y y') ∨ (∃ b, F i x = .inr b ∧ H i x' = .inr b)) → (∃ y y', fe F n a = .inl y ∧ fe H n a' = .inl y' ∧ R n y y') ∨ (∃ b, fe F n a = .inr b ∧ fe H n a' = .inr b)
  | 0, a, a', h0, _ => Or.inl ⟨a, a', rfl, rfl, h0⟩
  | n + 1, a, a', h0, hs => by
    rcases fe_r (n := n) h0 (fun i hi x x' r => hs i (by omega) x x' r) with ⟨y, y', h1, h2, h3⟩ | ⟨b, h1, h2⟩
    · rw [fe_s, fe_s, h1, h2]
      exact hs n (by omega) y y' h3
    · rw [fe_s, fe_s, h1, h2]
      exact Or.inr ⟨b, rfl, rfl⟩
/-- two folds side by side -/
theorem fo_r {α α' : Type} {f : Nat → α → α} {g : Nat → α' → α'} {R : Nat → α → α' → Prop} : ∀ {n : Nat} {a : α} {a' : α'}, R 0 a a' → (∀ i, i < n → ∀ x x', R i x x' → R (i + 1) (f i x) (g i x')) → R n (fo f n a) (fo g n a')
  | 0, _, _, h0, _ => h0
  | n + 1, a, a', h0, hs => hs n (by omega) _ _ (fo_r (n := n) h0 (fun i hi x x' r => hs i (by omega) x x' r))
/-- a truth that is looked for -/
theorem fo_any {F : Nat → Int32 → Int32} {P : Nat → Prop} (h0 : ∀ i, (P i → F i 0 = 1) ∧ (¬ P i → F i 0 = 0)) (h1 : ∀ i, F i 1 = 1) : ∀ n, (fo F n 0 = 1 ∧ ∃ i, i < n ∧ P i) ∨ (fo F n 0 = 0 ∧ ∀ i, i < n → ¬ P i)
  | 0 => Or.inr ⟨rfl, fun i hi => absurd hi (by omega)⟩
  | n + 1 => by
    rcases fo_any h0 h1 n with ⟨q1, i, hi, hp⟩ | ⟨q1, q2⟩
    · rw [fo_s, q1]
      exact Or.inl ⟨h1 n, i, by omega, hp⟩
    · rw [fo_s, q1]
      by_cases c : P n
      · exact Or.inl ⟨(h0 n).1 c, n, by omega, c⟩
      · refine Or.inr ⟨(h0 n).2 c, fun i hi => ?_⟩
        by_cases e : i = n
        · rw [e]
          exact c
        · exact q2 i (by omega)
/-- a set that is gathered: its bits -/
theorem fo_set {F : Nat → Int32 → Int32} {P : Nat → Prop} {f : Nat → Nat} (hf : ∀ i, f i < 32) (hF : ∀ i a, (P i → F i a = a ||| ((1 : Int32) <<< ((nI (f i)) &&& 31))) ∧ (¬ P i → F i a = a)) : ∀ n k, k < 32 → (sb (fo F n 0) k = true ↔ ∃ i, i < n ∧ P i ∧ f i = k)
  | 0, k, _ => by
    show sb 0 k = true ↔ _
    rw [sb_0]
    exact ⟨fun q => absurd q (by decide), fun ⟨i, hi, _⟩ => absurd hi (by omega)⟩
  | n + 1, k, hk => by
    have ih := fo_set hf hF n k hk
    rw [fo_s]
    by_cases c : P n
    · rw [(hF n _).1 c, sb_or, Bool.or_eq_true, ih, sb_shl (hf n) hk, decide_eq_true_eq]
      constructor
      · rintro (⟨i, hi, hp, he⟩ | q)
        · exact ⟨i, by omega, hp, he⟩
        · exact ⟨n, by omega, c, q.symm⟩
      · rintro ⟨i, hi, hp, he⟩
        by_cases e : i = n
        · exact Or.inr (by rw [← he, e])
        · exact Or.inl ⟨i, by omega, hp, he⟩
    · rw [(hF n _).2 c, ih]
      constructor
      · rintro ⟨i, hi, hp, he⟩
        exact ⟨i, by omega, hp, he⟩
      · rintro ⟨i, hi, hp, he⟩
        by_cases e : i = n
        · exact absurd (e ▸ hp) c
        · exact ⟨i, by omega, hp, he⟩
section
variable {V : aa_V}
theorem qv_132 (hw : nv_w V) : ∀ f i, va_235 f i V = va_132 f i V := by
  intro f i
  obtain ⟨⟨w1, w2, w3, w4⟩, ⟨w5, w6, w7, w8, w9, w10, w11, w12⟩, s1, s2, s3, s4, s5, s6, s7, s8⟩ := hw
  unfold va_235 va_132 va_133
  rw [w5, w6, w7, w8, w9, w10]
  by_cases c0 : f / 300 = 0
  · simp only [if_pos c0]
  · by_cases c1 : f / 300 = 1
    · simp only [if_neg c0, if_pos c1]
    · by_cases c2 : f / 300 = 2
      · simp only [if_neg c0, if_neg c1, if_pos c2]
      · by_cases c3 : f / 300 = 3
        · simp only [if_neg c0, if_neg c1, if_neg c2, if_pos c3]
        · simp only [if_neg c0, if_neg c1, if_neg c2, if_neg c3]
theorem qv_129 (hn : nv_n V) (hw : nv_w V) : va_232 V = va_129 (V 0 13) V := by
  obtain ⟨⟨w1, w2, w3, w4⟩, ⟨w5, w6, w7, w8, w9, w10, w11, w12⟩, s1, s2, s3, s4, s5, s6, s7, s8⟩ := hw
  unfold va_232 va_129 vl_232_4 vl_129_4
  rw [w3, w11, w12, hn.1]
  dsimp only
  refine fo_c (fun k hk a => ?_)
  by_cases c : V 36 k = 1
  · rw [if_pos c, if_pos c]
    by_cases c2 : V 37 k = V 0 13
    · rw [if_pos c2, if_pos c2]
    · rw [if_neg c2, if_neg c2, Int32.or_zero]
  · rw [if_neg c, if_neg c, Int32.or_zero]
/-- what is struck in a night -/
theorem qv_struck (hw : nv_w V) (n : Int32) : ∀ k, k < 32 → (sb (va_129 n V) k = true ↔ k < (V 29 3).toNatClampNeg ∧ V 36 k = 1 ∧ V 37 k = n) := by
  intro k hk
  have hb : (V 29 3).toNatClampNeg ≤ 20 := hw.1.2.2.2.2
  unfold va_129 vl_129_4
  dsimp only
  have key := fo_set (F := fun i a => if V 36 i = (1 : Int32) ∧ i < 32 then (if V 37 i = n then (a ||| ((1 : Int32) <<< ((nI i) &&& 31))) else a) else a) (P := fun i => V 36 i = 1 ∧ V 37 i = n ∧ i < 32) (f := fun i => if i < 32 then i else 0) (fun i => by show (if i < 32 then i else 0) < 32; split <;> omega) (fun i a => ⟨fun q => by rw [if_pos ⟨q.1, q.2.2⟩, if_pos q.2.1, if_pos q.2.2], fun q => by
    by_cases c : V 36 i = 1 ∧ i < 32
    · rw [if_pos c, if_neg (fun z => q ⟨c.1, z, c.2⟩)]
    · rw [if_neg c]⟩) (V 29 3).toNatClampNeg k hk
  rw [fo_c (g := fun i a => if V 36 i = (1 : Int32) ∧ i < 32 then (if V 37 i = n then (a ||| ((1 : Int32) <<< ((nI i) &&& 31))) else a) else a) (fun i hi a => by
    by_cases c : V 36 i = 1
    · have c' : V 36 i = 1 ∧ i < 32 := ⟨c, by omega⟩
      simp only [if_pos c, if_pos c']
    · have c' : ¬ (V 36 i = 1 ∧ i < 32) := fun z => c z.1
      simp only [if_neg c, if_neg c']), key]
  constructor
  · rintro ⟨i, hi, ⟨h1, h2, h3⟩, h4⟩
    rw [if_pos h3] at h4
    subst h4
    exact ⟨hi, h1, h2⟩
  · rintro ⟨h1, h2, h3⟩
    exact ⟨k, h1, ⟨h2, h3, hk⟩, by rw [if_pos hk]⟩
/-- the shops of a set of frames -/
theorem qv_131 (hw : nv_w V) (x : Int32) : ∀ k, k < 32 → (sb (va_131 x V) k = true ↔ ∃ i, i < (V 29 3).toNatClampNeg ∧ sb x i = true ∧ V 33 i = nI k) := by
  intro k hk
  have hb : (V 29 3).toNatClampNeg ≤ 20 := hw.1.2.2.2.2
  have s4 : ∀ i, zb (V 33 i) 7 := hw.2.2.2.2.2.1
  have hv : ∀ i, V 33 i = nI (V 33 i).toNatClampNeg := fun i => (s4 i).1
  unfold va_131 vl_131_4
  dsimp only
  have key := fo_set (F := fun i a => if i < 32 ∧ sb x i = true then (a ||| ((1 : Int32) <<< ((V 33 i) &&& 31))) else a) (P := fun i => i < 32 ∧ sb x i = true) (f := fun i => (V 33 i).toNatClampNeg) (fun i => by have := (s4 i).2; show (V 33 i).toNatClampNeg < 32; omega) (fun i a => ⟨fun q => by rw [if_pos q, ← hv i], fun q => by rw [if_neg q]⟩) (V 29 3).toNatClampNeg k hk
  rw [fo_c (g := fun i a => if i < 32 ∧ sb x i = true then (a ||| ((1 : Int32) <<< ((V 33 i) &&& 31))) else a) (fun i hi a => by
    have hi2 : i < 32 := by omega
    by_cases c : sb x i = true
    · rw [if_pos ((sb_t hi2).mpr c), if_pos ⟨hi2, c⟩]
    · rw [if_neg (fun z => c ((sb_t hi2).mp z)), if_neg (fun z => c z.2)]), key]
  constructor
  · rintro ⟨i, hi, ⟨h1, h2⟩, h3⟩
    exact ⟨i, hi, h2, by rw [← h3]; exact hv i⟩
  · rintro ⟨i, hi, h1, h2⟩
    refine ⟨i, hi, ⟨by omega, h1⟩, ?_⟩
    rw [h2]
    exact zz_ix (by omega)
/-- whether a shop has a frame struck this night -/
theorem qv_231 (hn : nv_n V) (hw : nv_w V) (s : Int32) : (va_231 s V = 1 ∧ ∃ i, i < (V 29 3).toNatClampNeg ∧ V 33 i = s ∧ V 36 i = 1 ∧ V 37 i = V 0 13) ∨ (va_231 s V = 0 ∧ ∀ i, i < (V 29 3).toNatClampNeg → ¬ (V 33 i = s ∧ V 36 i = 1 ∧ V 37 i = V 0 13)) := by
  obtain ⟨⟨w1, w2, w3, w4⟩, ⟨w5, w6, w7, w8, w9, w10, w11, w12⟩, s1, s2, s3, s4, s5, s6, s7, s8⟩ := hw
  unfold va_231 vl_231_4
  rw [w3, w8, w11, w12, hn.1]
  dsimp only
  refine fo_any (fun i => ⟨fun q => by rw [if_pos rfl, if_pos q.1, if_pos q.2.1, if_pos q.2.2], fun q => ?_⟩) (fun i => by rw [if_neg (by decide)]) _
  rw [if_pos rfl]
  by_cases c1 : V 33 i = s
  · rw [if_pos c1]
    by_cases c2 : V 36 i = 1
    · rw [if_pos c2, if_neg (fun z => q ⟨c1, c2, z⟩)]
    · rw [if_neg c2]
  · rw [if_neg c1]
theorem qv_hit (hn : nv_n V) (hw : nv_w V) {s : Nat} (hs : s < 32) : ((va_131 (va_129 (V 0 13) V) V >>> (nI s &&& 31)) &&& (1 : Int32)) = 1 ↔ va_231 (nI s) V = 1 := by
  have hb : (V 29 3).toNatClampNeg ≤ 20 := hw.1.2.2.2.2
  rw [sb_t hs, qv_131 hw _ s hs]
  rcases qv_231 hn hw (nI s) with ⟨q1, i, hi, h1, h2, h3⟩ | ⟨q1, q2⟩
  · rw [q1]
    exact ⟨fun _ => rfl, fun _ => ⟨i, hi, (qv_struck hw _ i (by omega)).mpr ⟨hi, h2, h3⟩, h1⟩⟩
  · rw [q1]
    refine ⟨fun ⟨i, hi, h1, h2⟩ => ?_, fun q => absurd q (by decide)⟩
    have := (qv_struck hw _ i (by omega)).mp h1
    exact absurd ⟨h2, this.2.1, this.2.2⟩ (q2 i hi)
theorem qv_130 (hn : nv_n V) (hw : nv_w V) : va_233 V = va_130 (va_129 (V 0 13) V) V := by
  have hw' := hw
  obtain ⟨⟨w1, w2, w3, w4⟩, ⟨w5, w6, w7, w8, w9, w10, w11, w12⟩, s1, s2, s3, s4, s5, s6, s7, s8⟩ := hw'
  unfold va_233 vl_233_4 va_130 vl_130_11
  rw [w3, w8, w11]
  dsimp only
  refine fo_c (fun k hk a => ?_)
  by_cases c : V 36 k = 0
  · rw [if_pos c, if_pos c]
    have hv := (s4 k).1
    have hv2 := (s4 k).2
    have e := qv_hit hn hw (s := (V 33 k).toNatClampNeg) (by omega)
    rw [← hv] at e
    rcases qv_231 hn hw (V 33 k) with ⟨q1, _⟩ | ⟨q1, _⟩
    · rw [if_pos (e.mpr q1), if_neg (by rw [q1]; decide)]
    · rw [if_neg (fun z => absurd (e.mp z) (by rw [q1]; decide)), if_pos q1, Int32.or_zero]
  · rw [if_neg c, if_neg c, Int32.or_zero]
theorem qv_bit (hn : nv_n V) (hw : nv_w V) (s z : Int32) (h : fo (fun (i_231 : Nat) (a_231 : Int32) => ((if a_231 = 0 then (if (V 111 i_231) = s then (if (V 114 i_231) = (1 : Int32) then (if (V 115 i_231) = (V 105 2) then (1 : Int32) else (0 : Int32)) else (0 : Int32)) else (0 : Int32)) else (1 : Int32)) : Int32)) ((V 105 12)).toNatClampNeg (0 : Int32) = z) : aa_bit z := by
  rcases qv_231 hn hw s with ⟨q1, _⟩ | ⟨q1, _⟩
  · unfold va_231 vl_231_4 at q1
    rw [h] at q1
    exact Or.inr q1
  · unfold va_231 vl_231_4 at q1
    rw [h] at q1
    exact Or.inl q1

theorem qv_132b (f i : Int32) : aa_bit (va_132 f i V) := by
  unfold va_132
  repeat' split
  all_goals first | exact Or.inl rfl | exact Or.inr rfl
theorem qv_apart (hn : nv_n V) (hw : nv_w V) : ∀ k, k < 32 → sb (va_129 (V 0 13) V) k = true → ¬ sb (va_130 (va_129 (V 0 13) V) V) k = true := by
  intro k hk h1 h2
  have hb : (V 29 3).toNatClampNeg ≤ 20 := hw.1.2.2.2.2
  have q1 := (qv_struck hw _ k hk).mp h1
  unfold va_130 vl_130_11 at h2
  dsimp only at h2
  generalize va_131 (va_129 (V 0 13) V) V = hit at h2
  have key := fo_set (F := fun i a => if V 36 i = (0 : Int32) ∧ i < 32 then (if ((hit >>> ((V 33 i) &&& 31)) &&& (1 : Int32)) = (1 : Int32) then (a ||| ((1 : Int32) <<< ((nI i) &&& 31))) else a) else a) (P := fun i => V 36 i = 0 ∧ ((hit >>> ((V 33 i) &&& 31)) &&& (1 : Int32)) = (1 : Int32) ∧ i < 32) (f := fun i => if i < 32 then i else 0) (fun i => by show (if i < 32 then i else 0) < 32; split <;> omega) (fun i a => ⟨fun q => by rw [if_pos ⟨q.1, q.2.2⟩, if_pos q.2.1, if_pos q.2.2], fun q => by
    by_cases c : V 36 i = 0 ∧ i < 32
    · rw [if_pos c, if_neg (fun z => q ⟨c.1, z, c.2⟩)]
    · rw [if_neg c]⟩) (V 29 3).toNatClampNeg k hk
  rw [fo_c (g := fun i a => if V 36 i = (0 : Int32) ∧ i < 32 then (if ((hit >>> ((V 33 i) &&& 31)) &&& (1 : Int32)) = (1 : Int32) then (a ||| ((1 : Int32) <<< ((nI i) &&& 31))) else a) else a) (fun i hi a => by
    by_cases c : V 36 i = 0
    · have c' : V 36 i = 0 ∧ i < 32 := ⟨c, by omega⟩
      simp only [if_pos c, if_pos c']
    · have c' : ¬ (V 36 i = 0 ∧ i < 32) := fun z => c z.1
      simp only [if_neg c, if_neg c']), key] at h2
  obtain ⟨i, hi, ⟨g1, g2, g3⟩, g4⟩ := h2
  rw [if_pos g3] at g4
  subst g4
  exact absurd (q1.2.1.symm.trans g1) (by decide)
/-- a form is left for both, where nothing is both struck and spared -/
theorem qv_134 (hw : nv_w V) (f x y : Int32) (hxy : ∀ k, k < 32 → sb x k = true → ¬ sb y k = true) : va_236 f x y V = va_134 f x y V := by
  have hw' := hw
  obtain ⟨⟨w1, w2, w3, w4⟩, _⟩ := hw'
  have hb : (V 29 3).toNatClampNeg ≤ 20 := w4.2
  have key : ∀ (i : Nat), i < (V 29 3).toNatClampNeg → ∀ (u : Unit), ((if ((x >>> ((nI i) &&& 31)) &&& (1 : Int32)) = (1 : Int32) then (if (va_235 f (nI i) V) = 0 then .inr (0 : Int32) else (if ((y >>> ((nI i) &&& 31)) &&& (1 : Int32)) = (1 : Int32) then .inr (0 : Int32) else .inl ())) else (if ((y >>> ((nI i) &&& 31)) &&& (1 : Int32)) = (1 : Int32) then (if (va_235 f (nI i) V) = 0 then .inl () else .inr (0 : Int32)) else .inl ())) : Unit ⊕ Int32) = ((if ((x >>> ((nI i) &&& 31)) &&& (1 : Int32)) = (1 : Int32) then (if ((y >>> ((nI i) &&& 31)) &&& (1 : Int32)) = (1 : Int32) then (if (va_132 f (nI i) V) = (1 : Int32) then .inl () else .inr (0 : Int32)) else (if (va_132 f (nI i) V) = (1 : Int32) then .inl () else .inr (0 : Int32))) else (if ((y >>> ((nI i) &&& 31)) &&& (1 : Int32)) = (1 : Int32) then (if (va_132 f (nI i) V) = (0 : Int32) then .inl () else .inr (0 : Int32)) else .inl ())) : Unit ⊕ Int32) := by
    intro i hi u
    rw [qv_132 hw]
    have h01 : ¬ ((0 : Int32) = 1) := by decide
    have h10 : ¬ ((1 : Int32) = 0) := by decide
    by_cases c1 : ((x >>> ((nI i) &&& 31)) &&& (1 : Int32)) = (1 : Int32)
    · have c2 : ¬ ((y >>> ((nI i) &&& 31)) &&& (1 : Int32)) = (1 : Int32) := fun z => hxy i (by omega) ((sb_t (by omega)).mp c1) ((sb_t (by omega)).mp z)
      rcases qv_132b (V := V) f (nI i) with q | q
      · rw [if_pos c1, if_pos c1, if_neg c2, q, if_pos rfl, if_neg h01, if_neg c2]
      · rw [if_pos c1, if_pos c1, if_neg c2, if_neg c2, q, if_neg h10, if_pos rfl]
    · rw [if_neg c1, if_neg c1]
  unfold va_236 va_134 vl_236_3 vl_134_9
  rw [w3, fe_c key]
  by_cases c : x = 0
  · rw [if_pos c, if_pos c]
    cases e : fe (fun (i_134 : Nat) (a_134 : Unit) => ((if ((x >>> ((nI i_134) &&& 31)) &&& (1 : Int32)) = (1 : Int32) then (if ((y >>> ((nI i_134) &&& 31)) &&& (1 : Int32)) = (1 : Int32) then (if (va_132 f (nI i_134) V) = (1 : Int32) then .inl () else .inr (0 : Int32)) else (if (va_132 f (nI i_134) V) = (1 : Int32) then .inl () else .inr (0 : Int32))) else (if ((y >>> ((nI i_134) &&& 31)) &&& (1 : Int32)) = (1 : Int32) then (if (va_132 f (nI i_134) V) = (0 : Int32) then .inl () else .inr (0 : Int32)) else .inl ())) : Unit ⊕ Int32)) ((V 29 3)).toNatClampNeg () with
    | inl u => rfl
    | inr b =>
      show b = 0
      refine fe_p (P := fun b => b = 0) (fun i hi u b' q => ?_) b e
      repeat' split at q
      all_goals first | (injection q with q; exact q.symm) | cases q
  · rw [if_neg c, if_neg c]
    rfl
theorem qv_237 (hn : nv_n V) (hw : nv_w V) : va_237 V = va_154 V := by
  unfold va_237 va_154 vl_237_15 vl_154_26
  rw [qv_129 hn hw, qv_130 hn hw]
  dsimp only
  refine fo_c (fun k hk a => ?_)
  rw [qv_134 hw _ _ _ (qv_apart hn hw)]
  by_cases c : va_134 (nI k) (va_129 (V 0 13) V) (va_130 (va_129 (V 0 13) V) V) V = 0
  · rw [if_pos c, if_pos c, Int32.add_zero]
  · rw [if_neg c, if_neg c]
theorem qv_238 (hn : nv_n V) (hw : nv_w V) (i : Int32) : va_238 i V = va_155 i V := by
  unfold va_238 va_155 vl_238_16 vl_155_33
  rw [qv_129 hn hw, qv_130 hn hw]
  generalize hx : va_129 (V 0 13) V = x
  generalize hy : va_130 x V = y
  have hxy : ∀ k, k < 32 → sb x k = true → ¬ sb y k = true := by
    rw [← hy, ← hx]
    exact qv_apart hn hw
  rw [fe_c (H := fun (k : Nat) (a : Int32) => ((if (va_134 (nI k) x y V) = 0 then .inl a else (if a = i then .inr (nI k) else .inl (a + 1))) : Int32 ⊕ Int32)) (fun k hk a => by rw [qv_134 hw _ _ _ hxy])]
  by_cases c : i < 0
  · rw [if_pos c]
    -- never
    rcases fe_r (α' := Int32) (F := fun (k : Nat) (a : Int32) => ((if (va_134 (nI k) x y V) = 0 then .inl a else (if a = i then .inr (nI k) else .inl (a + 1))) : Int32 ⊕ Int32)) (H := fun k a => .inl a) (R := fun k a _ => ∃ m : Nat, a = nI m ∧ m ≤ k) (n := 1500) (a := 0) (a' := 0) ⟨0, rfl, Nat.le_refl _⟩ (fun k hk a a' ⟨m, hm, hmk⟩ => by
      refine Or.inl ?_
      by_cases c2 : va_134 (nI k) x y V = 0
      · exact ⟨a, a', by rw [if_pos c2], rfl, m, hm, by omega⟩
      · refine ⟨a + 1, a', ?_, rfl, m + 1, by rw [hm, nI_succ], by omega⟩
        rw [if_neg c2, if_neg]
        intro e
        rw [← e, hm, zz_lt, nI_toInt (by omega)] at c
        have : (0 : Int32).toInt = 0 := by decide
        omega) with ⟨u, u', h1, _, _⟩ | ⟨b, h1, h2⟩
    · rw [h1]
    · exfalso
      have : ∀ n a, fe (β := Int32) (fun (k : Nat) (a : Int32) => .inl a) n a = .inl a := by
        intro n a
        induction n with
        | zero => rfl
        | succ n ih => rw [fe_s, ih]
      rw [this] at h2
      cases h2
  · rw [if_neg c]
    obtain ⟨j, hj, hij⟩ := nI_of c
    rcases fe_r (F := fun (k : Nat) (a : Int32) => ((if (va_134 (nI k) x y V) = 0 then .inl a else (if a = i then .inr (nI k) else .inl (a + 1))) : Int32 ⊕ Int32)) (H := fun (k : Nat) (a : Int32) => ((if (va_134 (nI k) x y V) = 0 then .inl a else (if a = 0 then .inr (nI k) else .inl (a + (-1)))) : Int32 ⊕ Int32)) (R := fun k a a' => ∃ m : Nat, m ≤ j ∧ a = nI m ∧ a' = nI (j - m)) (n := 1500) (a := 0) (a' := i) ⟨0, by omega, rfl, by rw [hij]; rfl⟩ (fun k hk a a' ⟨m, hm, ha, ha'⟩ => by
      by_cases c2 : va_134 (nI k) x y V = 0
      · exact Or.inl ⟨a, a', by rw [if_pos c2], by rw [if_pos c2], m, hm, ha, ha'⟩
      · by_cases c3 : m = j
        · refine Or.inr ⟨nI k, ?_, ?_⟩
          · rw [if_neg c2, if_pos (by rw [ha, hij, c3])]
          · rw [if_neg c2, if_pos (by rw [ha', c3, Nat.sub_self]; rfl)]
        · refine Or.inl ⟨a + 1, a' + (-1), ?_, ?_, m + 1, by omega, by rw [ha, nI_succ], ?_⟩
          · rw [if_neg c2, if_neg (by rw [ha, hij]; exact fun q => c3 ((nI_k (by omega) hj).mp q))]
          · rw [if_neg c2, if_neg (by rw [ha', show (0 : Int32) = nI 0 from rfl]; exact fun q => absurd ((nI_k (by omega) (by omega)).mp q) (by omega))]
          · rw [ha', show j - m = (j - (m + 1)) + 1 by omega, nI_succ, Int32.add_assoc, show (1 : Int32) + (-1) = 0 by decide, Int32.add_zero]) with ⟨u, u', h1, h2, _⟩ | ⟨b, h1, h2⟩
    · rw [h1, h2]
    · rw [h1, h2]
end
