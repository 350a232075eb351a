/-! copy, paysRow -/
theorem zs_4b {i : Int32} (h0 : ¬ i < 0) (h3 : i < 4) : ∃ s : Nat, s < 4 ∧ i = nI s := zs_4 h0 (fun z => by simp only [zz_lt, zl_3, zl_4] at z h3; omega)
theorem l_add (x y : Int32) : (x.toInt64 + y.toInt64).toInt = x.toInt + y.toInt := by
  have h1 := Int32.toInt_lt x
  have h2 := Int32.le_toInt x
  have h3 := Int32.toInt_lt y
  have h4 := Int32.le_toInt y
  rw [Int64.toInt_add, Int32.toInt_toInt64, Int32.toInt_toInt64]
  apply Int.bmod_eq_of_le <;> omega
theorem sub_len {v n : Int32} (hv : zb v 40) (hn : ¬ n < 0) : (v - n).toInt = v.toInt - n.toInt := by
  have h1 := Int32.toInt_lt n
  have r := zb_r hv (by decide)
  simp only [zz_lt, zl_0] at hn
  rw [Int32.toInt_sub]
  apply Int.bmod_eq_of_le <;> omega
/-- a stretch of a sheet: as both ask for it -/
def strok (V : aa_V) (s : Nat) (i n : Int32) : Prop := 0 ≤ n.toInt ∧ 0 ≤ i.toInt ∧ i.toInt + n.toInt ≤ (V 74 s).toInt
theorem q61 {V : aa_V} (hs : nv_s V) {s : Nat} {i1 i n : Int32} (e : i1.toNatClampNeg = s) : (va_61 i1 i n V = 0 ∧ ¬ strok V s i n) ∨ (va_61 i1 i n V = 1 ∧ strok V s i n) := by
  obtain ⟨⟨y1, y2, y3, y4⟩, y5⟩ := hs
  unfold va_61 strok
  rw [e]
  by_cases c1 : n < 0
  · rw [if_pos c1]
    simp only [zz_lt, zl_0] at c1
    exact Or.inl ⟨rfl, fun z => by omega⟩
  · rw [if_neg c1]
    have t := sub_len (y4 s) c1
    by_cases c2 : i < 0
    · rw [if_pos c2]
      simp only [zz_lt, zl_0] at c2
      exact Or.inl ⟨rfl, fun z => by omega⟩
    · rw [if_neg c2]
      simp only [zz_lt, zl_0] at c1 c2
      by_cases c3 : (V 74 s - n) < i
      · rw [if_pos c3]
        simp only [zz_lt, t] at c3
        exact Or.inl ⟨rfl, fun z => by omega⟩
      · rw [if_neg c3]
        simp only [zz_lt, t] at c3
        exact Or.inr ⟨rfl, by omega, by omega, by omega⟩
set_option maxRecDepth 20000 in
theorem cs_179 {G : ab_G} {L : Nat} {xs : Nat → Int32} {l : Launch} {d : Nat} {i1 i2 i3 i4 i5 : Int32} {V : aa_V} {Q : Int32 → Int32 → aa_V → Prop} (hI : nv V) (hQ : ∀ x W, nv W → Q x x W) :
    ab_E G (ac_ST L xs) l (d + 4) ac_SK 179 [.ref 0, .int i1, .int i2, .int i3, .int i4, .int i5] V (aa_rI fun x V1 => ab_E G (ac_ST L xs) l (d + 2) ac_SK 281 [.ref 105, .int i1, .int i2, .int i3, .int i4, .int i5] V1 (aa_rI fun y W => Q x y W)) := by
  have hs' := hI.2.2.2.2.2.2.2.2.1
  obtain ⟨⟨y1, y2, y3, y4⟩, y5⟩ := id hs'
  have ngs : ∀ t, t < 4 → (V 73 t < 0 ↔ V 73 t = -1) := fun t ht => by
    rcases y3 t ht with q | q
    · rw [q]
      exact ⟨fun _ => rfl, fun _ => by decide⟩
    · have := zb_r q (by decide)
      simp only [zz_lt, zz_eq, zl_0, zl_m1]
      omega
  have lt4 : ∀ {x : Int32}, 3 < x → ¬ x < 4 := fun h z => by simp only [zz_lt, zl_3, zl_4] at h z; omega
  have lt4' : ∀ {x : Int32}, ¬ 3 < x → x < 4 := fun h => by simp only [zz_lt, zl_3, zl_4] at h ⊢; omega
  have big : ∀ {x n v : Int32}, (0 < lg_cmp (x.toInt64 + n.toInt64) v.toInt64) ↔ v.toInt < x.toInt + n.toInt := fun {x n v} => by
    rw [zz_cg, Int64.lt_iff_toInt_lt, l_add, Int32.toInt_toInt64]
  -- the reference's last part, in one go
  refine iv_179_0 (d := d + 1) ⟨fun c1 => ?_, fun c1 => ⟨fun c2 => ?_, fun c2 => ⟨fun c3 => ?_, fun c3 => ⟨fun c4 => ?_, fun c4 => ?_⟩⟩⟩⟩
  · exact iv_281_0 ⟨fun _ => hQ _ _ hI, fun q => absurd c1 q⟩
  · exact iv_281_0 ⟨fun q => absurd q c1, fun _ => ⟨fun q => absurd q (lt4 c2), fun _ => hQ _ _ hI⟩⟩
  · exact iv_281_0 ⟨fun q => absurd q c1, fun _ => ⟨fun _ => ⟨fun _ => hQ _ _ hI, fun q => absurd c3 q⟩, fun q => absurd (lt4' c2) q⟩⟩
  · exact iv_281_0 ⟨fun q => absurd q c1, fun _ => ⟨fun _ => ⟨fun q => absurd q c3, fun _ => ⟨fun q => absurd q (lt4 c4), fun _ => hQ _ _ hI⟩⟩, fun q => absurd (lt4' c2) q⟩⟩
  obtain ⟨s, hs, rfl⟩ := zs_4 c1 c2
  obtain ⟨o, ho, rfl⟩ := zs_4 c3 c4
  have es : (nI s).toNatClampNeg = s := zz_ix (by omega)
  have eo : (nI o).toNatClampNeg = o := zz_ix (by omega)
  have vs : vp_in (nI s) 4 := vp_in_nI hs (by decide)
  have vo : vp_in (nI o) 4 := vp_in_nI ho (by decide)
  have md : ∀ (X : aa_V) (K : aa_K), X 147 = V 73 → X 148 = V 74 →
      (V 73 s = -1 → K (some (.int (-11 : Int32))) X) →
      (¬ V 73 s = -1 → V 73 o = -1 → K (some (.int (-11 : Int32))) X) →
      (¬ V 73 s = -1 → ¬ V 73 o = -1 → ¬ V 73 s = V 73 o → K (some (.int (-13 : Int32))) X) →
      (¬ V 73 s = -1 → ¬ V 73 o = -1 → V 73 s = V 73 o → ¬ (strok V s i2 i5 ∧ strok V o i4 i5) → K (some (.int (-12 : Int32))) X) →
      (¬ V 73 s = -1 → ¬ V 73 o = -1 → V 73 s = V 73 o → strok V s i2 i5 → strok V o i4 i5 → ab_J G (ac_ST L xs) l (d + 2) 281 111 [some (.ref 105), some (.int (nI s)), some (.int i2), some (.int (nI o)), some (.int i4), some (.int i5), some (.int (0 : Int32))] [] ac_SK X ac_SK K) →
      ab_E G (ac_ST L xs) l (d + 2) ac_SK 281 [.ref 105, .int (nI s), .int i2, .int (nI o), .int i4, .int i5] X K := by
    intro X K e1 e2 h1 h2 h3 h4 h5
    refine iv_281_0 ⟨fun q => absurd q c1, fun _ => ⟨fun _ => ⟨fun q => absurd q c3, fun _ => ⟨fun _ => ⟨vs, fun g1 => ?_, fun g1 => ⟨vo, fun g2 => ?_, fun g2 => ⟨vs, vo, fun g3 => ⟨fun g4 => ?_, fun g4 => ⟨fun g5 => ?_, fun g5 => ⟨fun g6 => ?_, fun g6 => ⟨vs, fun g7 => ?_, fun g7 => ⟨vo, fun g8 => ?_, fun g8 => ?_⟩⟩⟩⟩⟩, fun g3 => ?_⟩⟩⟩, fun q => absurd (lt4' c4) q⟩⟩, fun q => absurd (lt4' c2) q⟩⟩
    · rw [e1, es] at g1
      exact h1 ((ngs s hs).mp g1)
    · rw [e1, es] at g1
      rw [e1, eo] at g2
      exact h2 (fun z => g1 ((ngs s hs).mpr z)) ((ngs o ho).mp g2)
    all_goals
      rw [e1, es] at g1
      rw [e1, eo] at g2
      rw [e1, es, eo] at g3
      have g1 : ¬ V 73 s = -1 := fun z => g1 ((ngs s hs).mpr z)
      have g2 : ¬ V 73 o = -1 := fun z => g2 ((ngs o ho).mpr z)
    · exact h4 g1 g2 g3 (fun z => by have := z.1.1; simp only [zz_lt, zl_0] at g4; omega)
    · exact h4 g1 g2 g3 (fun z => by have := z.1.2.1; simp only [zz_lt, zl_0] at g5; omega)
    · exact h4 g1 g2 g3 (fun z => by have := z.2.2.1; simp only [zz_lt, zl_0] at g6; omega)
    · rw [e2, es, big] at g7
      exact h4 g1 g2 g3 (fun z => by have := z.1.2.2; omega)
    · rw [e2, eo, big] at g8
      exact h4 g1 g2 g3 (fun z => by have := z.2.2.2; omega)
    · rw [e2, es, big] at g7
      rw [e2, eo, big] at g8
      simp only [zz_lt, zl_0] at g4 g5 g6
      exact h5 g1 g2 g3 ⟨by omega, by omega, by omega⟩ ⟨by omega, by omega, by omega⟩
    · exact h3 g1 g2 g3
  rw [es, eo]
  refine ⟨vs, fun g1 => ?_, fun g1 => ⟨vo, fun g2 => ?_, fun g2 => ⟨vs, vo, fun g3 => ?_, fun g3 => ?_⟩⟩⟩
  · exact md V _ y1 y2 (fun _ => hQ _ _ hI) (fun z => absurd g1 z) (fun z => absurd g1 z) (fun z => absurd g1 z) (fun z => absurd g1 z)
  · exact md V _ y1 y2 (fun _ => hQ _ _ hI) (fun _ _ => hQ _ _ hI) (fun _ z => absurd g2 z) (fun _ z => absurd g2 z) (fun _ z => absurd g2 z)
  · have out : ¬ (strok V s i2 i5 ∧ strok V o i4 i5) → ab_E G (ac_ST L xs) l (d + 2) ac_SK 281 [.ref 105, .int (nI s), .int i2, .int (nI o), .int i4, .int i5] V (aa_rI fun y W => Q (-12) y W) := fun h => md V _ y1 y2 (fun z => absurd z g1) (fun _ z => absurd z g2) (fun _ _ z => absurd g3 z) (fun _ _ _ _ => hQ _ _ hI) (fun _ _ _ z1 z2 => absurd ⟨z1, z2⟩ h)
    refine sp_61 (fun _ => vs) (fun _ => ?_)
    dsimp only [aa_rI]
    rcases q61 (i := i2) (n := i5) hs' es with ⟨a1, a2⟩ | ⟨a1, a2⟩
    · rw [a1]
      exact ⟨fun _ => out (fun z => a2 z.1), fun z => absurd rfl z⟩
    rw [a1]
    refine ⟨fun z => absurd z (by decide), fun _ => ?_⟩
    refine sp_61 (fun _ => vo) (fun _ => ?_)
    dsimp only [aa_rI]
    rcases q61 (i := i4) (n := i5) hs' eo with ⟨b1, b2⟩ | ⟨b1, b2⟩
    · rw [b1]
      exact ⟨fun _ => out (fun z => b2 z.2), fun z => absurd rfl z⟩
    rw [b1]
    refine ⟨fun z => absurd z (by decide), fun _ => ?_⟩
    -- the numbers
    have rs := zb_r (y4 s) (by decide)
    have ro := zb_r (y4 o) (by decide)
    obtain ⟨s1, s2, s3⟩ := id a2
    obtain ⟨t1, t2, t3⟩ := id b2
    obtain ⟨n, hn, hn40⟩ := zb_i (zb_of_r (x := i5) (b := 40) (by omega) (by omega) (by decide))
    obtain ⟨i, hi, hi40⟩ := zb_i (zb_of_r (x := i2) (b := 40) (by omega) (by omega) (by decide))
    obtain ⟨j, hj, hj40⟩ := zb_i (zb_of_r (x := i4) (b := 40) (by omega) (by omega) (by decide))
    subst hn
    subst hi
    subst hj
    rw [nI_toInt (by omega), nI_toInt (by omega)] at s3 t3
    have hin : i + n ≤ 40 := by omega
    have hjn : j + n ≤ 40 := by omega
    have en : (nI n).toNatClampNeg = n := zz_ix (by omega)
    have ei : (nI i).toNatClampNeg = i := zz_ix (by omega)
    have ej : (nI j).toNatClampNeg = j := zz_ix (by omega)
    refine iv_66_0 ⟨4, _, 76 + (nI s).toNatClampNeg, rfl, vs, zq_75 vs, 4, _, 76 + (nI o).toNatClampNeg, rfl, vo, zq_75 vo, 40, 40, [], [], zs_75 vs, zs_75 vo, nI_n0 (by omega), nI_n0 (by omega), nI_n0 (by omega), by omega, by omega, by decide, by decide, ?_⟩
    dsimp only [aa_rV]
    rw [es, eo, en, ei, ej]
    obtain ⟨X, hX⟩ : ∃ X, X = aa_row V (76 + o) (va_cpy (V (76 + s)) (V (76 + o)) i j n) := ⟨_, rfl⟩
    rw [← hX]
    have xc : ∀ c, c ≠ 76 + o → X c = V c := fun c hc => by rw [hX, aa_row_c hc]
    refine md X _ ((xc 147 (by omega)).trans y1) ((xc 148 (by omega)).trans y2) (fun z => absurd z g1) (fun _ z => absurd z g2) (fun _ _ z => absurd g3 z) (fun _ _ _ z => absurd ⟨a2, b2⟩ z) (fun _ _ _ _ _ => ?_)
    have e4 : ∀ {t a k : Nat}, t < 4 → a + k < 40 → (((40 : Int32) * nI t) + nI a) + nI k = nI (40 * t + (a + k)) := fun {t a k} ht hak => by
      rw [Int32.add_assoc, nI_plus, ix40 ht hak]
    refine zz_up (σ := aa_V) (fun k Y => ab_J G (ac_ST L xs) l (d + 2) 281 111 [some (.ref 105), some (.int (nI s)), some (.int (nI i)), some (.int (nI o)), some (.int (nI j)), some (.int (nI n)), some (.int (nI k))] [] ac_SK Y ac_SK (aa_rI fun y W => Q (nI n) y W)) (fun k Y => (∀ c, c ≠ 150 → Y c = X c) ∧ ∀ t, t < k → Y 150 t = V 149 (40 * s + (i + t))) n ?_ ?_ 0 X (Nat.zero_le _) ⟨fun _ _ => rfl, fun t ht => absurd ht (Nat.not_lt_zero _)⟩
    · rintro Y ⟨z1, z2⟩
      refine iv_281_111 ⟨fun q => absurd q (nI_nl (Nat.le_refl _) (by omega)), fun _ => ?_⟩
      refine zz_up (σ := aa_V) (fun k Z => ab_J G (ac_ST L xs) l (d + 2) 281 148 [some (.ref 105), none, none, some (.int (nI o)), some (.int (nI j)), some (.int (nI n)), some (.int (nI k))] [] ac_SK Z ac_SK (aa_rI fun y W => Q (nI n) y W)) (fun k Z => (∀ c, c ≠ 149 → Z c = Y c) ∧ ∀ t, Z 149 t = if 40 * o + j ≤ t ∧ t < 40 * o + (j + k) then V 149 (40 * s + (i + (t - (40 * o + j)))) else V 149 t) n ?_ ?_ 0 Y (Nat.zero_le _) ⟨fun _ _ => rfl, fun t => by rw [if_neg (by omega), z1 149 (by decide), xc 149 (by omega)]⟩
      · rintro Z ⟨u1, u2⟩
        refine iv_281_148 ⟨fun q => absurd q (nI_nl (Nat.le_refl _) (by omega)), fun _ => ?_⟩
        show Q _ _ Z
        refine hQ _ _ (nv_s' hI (fun c h1 h2 h3 h4 h5 h6 h7 => by rw [u1 c h6, z1 c h7, xc c (by omega)]) ?_)
        unfold nv_s
        rw [u1 73 (by decide), z1 73 (by decide), xc 73 (by omega), u1 74 (by decide), z1 74 (by decide), xc 74 (by omega), u1 147 (by decide), z1 147 (by decide), xc 147 (by omega), u1 148 (by decide), z1 148 (by decide), xc 148 (by omega)]
        refine ⟨⟨y1, y2, y3, y4⟩, fun t ht h0 k hk => ?_⟩
        rw [u1 (76 + t) (by omega), z1 (76 + t) (by omega), u2]
        by_cases q : t = o
        · subst q
          rw [hX, aa_row_s]
          unfold va_cpy
          by_cases q2 : j ≤ k ∧ k < j + n
          · rw [if_pos q2, if_pos (by omega), y5 s hs g1 (i + (k - j)) (by omega)]
            congr 1
            omega
          · rw [if_neg q2, if_neg (by omega)]
            exact y5 t ht h0 k hk
        · rw [xc (76 + t) (by omega), if_neg (by omega)]
          exact y5 t ht h0 k hk
      · rintro k Z hk ⟨u1, u2⟩ ih
        have ek : (nI k).toNatClampNeg = k := zz_ix (by omega)
        refine iv_281_148 ⟨fun _ => ?_, fun q => absurd ((zz_nlt (by omega) (by omega)).mpr hk) q⟩
        rw [e4 ho (show j + k < 40 by omega), ek, zz_ix (by omega), u1 150 (by decide), z2 k hk]
        refine ⟨vp_in_nI (by omega) (by decide), vp_in_nI (by omega) (by decide), ?_⟩
        have := ih (aa_up Z 149 (40 * o + (j + k)) (V 149 (40 * s + (i + k)))) ⟨fun c hc => (aa_up_c hc).trans (u1 c hc), fun t => by
          by_cases q : t = 40 * o + (j + k)
          · rw [q, aa_up_s, if_pos (by omega)]
            congr 1
            omega
          · rw [aa_up_o q, u2 t]
            by_cases q2 : 40 * o + j ≤ t ∧ t < 40 * o + (j + k)
            · rw [if_pos q2, if_pos (by omega)]
            · rw [if_neg q2, if_neg (by omega)]⟩
        rw [nI_succ] at this
        exact this
    · rintro k Y hk ⟨z1, z2⟩ ih
      have ek : (nI k).toNatClampNeg = k := zz_ix (by omega)
      refine iv_281_111 ⟨fun _ => ?_, fun q => absurd ((zz_nlt (by omega) (by omega)).mpr hk) q⟩
      rw [e4 hs (show i + k < 40 by omega), ek, zz_ix (by omega), z1 149 (by decide), xc 149 (by omega)]
      refine ⟨vp_in_nI (by omega) (by decide), vp_in_nI (by omega) (by decide), ?_⟩
      have := ih (aa_up Y 150 k (V 149 (40 * s + (i + k)))) ⟨fun c hc => (aa_up_c hc).trans (z1 c hc), fun t ht => by
        by_cases q : t = k
        · rw [q, aa_up_s]
        · rw [aa_up_o q]
          exact z2 t (by omega)⟩
      rw [nI_succ] at this
      exact this
  · exact md V _ y1 y2 (fun z => absurd z g1) (fun _ z => absurd z g2) (fun _ _ _ => hQ _ _ hI) (fun _ _ z => absurd z g3) (fun _ _ z => absurd z g3)
-- paysRow
section
variable (V : aa_V) (s : Nat) (f : Int32)
def pri (k : Nat) : Int32 := V (76 + s) (f + nI k).toNatClampNeg
def prg (k : Nat) : Prop := nI k < V 29 0 ∧ ¬ pri V s f k < 0 ∧ ¬ 99 < pri V s f k
noncomputable def prs : Nat → Int32 × (Nat → Int32)
  | 0 => (0, V 31)
  | k + 1 => @ite _ (prg V s f k) (Classical.propDecidable _) ((prs k).1 + 1, upd (prs k).2 k (pri V s f k)) (prs k)
/-- the place is one of the sheet -/
def prk (k : Nat) : Prop := ¬ (f + nI k) < 0 ∧ ¬ (V 74 s - 1) < (f + nI k)
end
theorem prs_y {V : aa_V} {s : Nat} {f : Int32} {k : Nat} (h : prg V s f k) : prs V s f (k + 1) = ((prs V s f k).1 + 1, upd (prs V s f k).2 k (pri V s f k)) := if_pos h
theorem prs_n {V : aa_V} {s : Nat} {f : Int32} {k : Nat} (h : ¬ prg V s f k) : prs V s f (k + 1) = prs V s f k := if_neg h
theorem prs_b {V : aa_V} {s : Nat} {f : Int32} (h : ∀ i, zb (V 31 i) 99) : ∀ k i, zb ((prs V s f k).2 i) 99
  | 0, i => h i
  | k + 1, i => by
    by_cases c : prg V s f k
    · rw [prs_y c]
      obtain ⟨c1, c2, c3⟩ := c
      simp only [zz_lt, zl_0, zl_99] at c2 c3
      show zb (upd (prs V s f k).2 k (pri V s f k) i) 99
      unfold upd
      split
      · exact zb_of_r (by omega) (by omega) (by decide)
      · exact prs_b h k i
    · rw [prs_n c]
      exact prs_b h k i
theorem prk_v {V : aa_V} (y4 : ∀ i, zb (V 74 i) 40) {s : Nat} {f : Int32} {k : Nat} (hk : k < 8) : prk V s f k ↔ (0 ≤ f.toInt + k ∧ f.toInt + k < (V 74 s).toInt) := by
  have r := zb_r (y4 s) (by decide)
  have t := zb_sub1 (y4 s) (by decide)
  have h1 := Int32.toInt_lt f
  have h2 := Int32.le_toInt f
  unfold prk
  simp only [zz_lt, zl_0, t]
  rw [Int32.toInt_add, nI_toInt (by omega)]
  rcases Int.lt_or_le (f.toInt + k) (2 ^ 31) with q | q
  · rw [Int.bmod_eq_of_le (by omega) (by omega)]
    omega
  · have : Int.bmod (f.toInt + k) (2 ^ 32) = f.toInt + k - 2 ^ 32 := by
      have h := Int.sub_bmod_right (f.toInt + k) (2 ^ 32)
      rw [← h]
      have e : (((2 : Nat) ^ 32 : Nat) : Int) = 4294967296 := by decide
      rw [e]
      apply Int.bmod_eq_of_le <;> omega
    rw [this]
    omega
set_option maxRecDepth 20000 in
theorem cs_180 {G : ab_G} {L : Nat} {xs : Nat → Int32} {l : Launch} {d : Nat} {i1 i2 i3 i4 : Int32} {V : aa_V} {Q : Int32 → Int32 → aa_V → Prop} (hI : nv V) (hQ : ∀ x W, nv W → Q x x W) :
    ab_E G (ac_ST L xs) l (d + 3) ac_SK 180 [.ref 0, .int i1, .int i2, .int i3, .int i4] V (aa_rI fun x V1 => ab_E G (ac_ST L xs) l (d + 2) ac_SK 282 [.ref 105, .int i1, .int i2, .int i3, .int i4] V1 (aa_rI fun y W => Q x y W)) := by
  obtain ⟨hn, hr, hw, ha, hp, ho, hb, hk, hs', hf, ht⟩ := id hI
  obtain ⟨⟨w1, w2, w3, w4⟩, ⟨w5, w6, w7, w8, w9, w10, w11, w12⟩, s1, s2, s3, s4, s5, s6, s7, s8⟩ := id hw
  obtain ⟨⟨y1, y2, y3, y4⟩, y5⟩ := id hs'
  have ngs : ∀ t, t < 4 → (V 73 t < 0 ↔ V 73 t = -1) := fun t ht => by
    rcases y3 t ht with q | q
    · rw [q]
      exact ⟨fun _ => rfl, fun _ => by decide⟩
    · have := zb_r q (by decide)
      simp only [zz_lt, zz_eq, zl_0, zl_m1]
      omega
  have lt4 : ∀ {x : Int32}, 3 < x → ¬ x < 4 := fun h z => by simp only [zz_lt, zl_3, zl_4] at h z; omega
  have lt4' : ∀ {x : Int32}, ¬ 3 < x → x < 4 := fun h => by simp only [zz_lt, zl_3, zl_4] at h ⊢; omega
  refine iv_180_0 ⟨fun c1 => ?_, fun c1 => ⟨fun c2 => ?_, fun c2 => ⟨fun c3 => ?_, fun c3 => ⟨fun c4 => ?_, fun c4 => ⟨fun c5 => ?_, fun c5 => ⟨fun c6 => ?_, fun c6 => ?_⟩⟩⟩⟩⟩⟩
  · exact iv_282_0 ⟨fun _ => hQ _ _ hI, fun q => absurd c1 q⟩
  · exact iv_282_0 ⟨fun q => absurd q c1, fun _ => ⟨fun q => absurd q (lt4 c2), fun _ => hQ _ _ hI⟩⟩
  · exact iv_282_0 ⟨fun q => absurd q c1, fun _ => ⟨fun _ => ⟨fun _ => hQ _ _ hI, fun q => absurd c3 q⟩, fun _ => hQ _ _ hI⟩⟩
  · exact iv_282_0 ⟨fun q => absurd q c1, fun _ => ⟨fun _ => ⟨fun q => absurd q c3, fun _ => ⟨fun _ => hQ _ _ hI, fun q => absurd c4 q⟩⟩, fun _ => hQ _ _ hI⟩⟩
  · exact iv_282_0 ⟨fun q => absurd q c1, fun _ => ⟨fun _ => ⟨fun q => absurd q c3, fun _ => ⟨fun q => absurd q c4, fun _ => ⟨fun _ => hQ _ _ hI, fun q => absurd c5 q⟩⟩⟩, fun _ => hQ _ _ hI⟩⟩
  · exact iv_282_0 ⟨fun q => absurd q c1, fun _ => ⟨fun _ => ⟨fun q => absurd q c3, fun _ => ⟨fun q => absurd q c4, fun _ => ⟨fun q => absurd q c5, fun _ => ⟨fun _ => hQ _ _ hI, fun q => absurd c6 q⟩⟩⟩⟩, fun _ => hQ _ _ hI⟩⟩
  obtain ⟨s, hs, rfl⟩ := zs_4 c1 c2
  have es : (nI s).toNatClampNeg = s := zz_ix (by omega)
  have vs : vp_in (nI s) 4 := vp_in_nI hs (by decide)
  have md : ∀ (X : aa_V) (K : aa_K), X 147 = V 73 →
      (V 73 s = -1 → K (some (.int (-11 : Int32))) X) →
      (¬ V 73 s = -1 → ¬ V 73 s = i2 → K (some (.int (-13 : Int32))) X) →
      (¬ V 73 s = -1 → V 73 s = i2 → ab_J G (ac_ST L xs) l (d + 2) 282 75 [some (.ref 105), some (.int (nI s)), none, some (.int i3), some (.int i4), some (.int (0 : Int32)), some (.int (0 : Int32)), none, none, none] [] ac_SK X ac_SK K) →
      ab_E G (ac_ST L xs) l (d + 2) ac_SK 282 [.ref 105, .int (nI s), .int i2, .int i3, .int i4] X K := by
    intro X K e1 h1 h2 h3
    refine iv_282_0 ⟨fun q => absurd q c1, fun _ => ⟨fun _ => ⟨fun q => absurd q c3, fun _ => ⟨fun q => absurd q c4, fun _ => ⟨fun q => absurd q c5, fun _ => ⟨fun q => absurd q c6, fun _ => ?_⟩⟩⟩⟩, fun q => absurd (lt4' c2) q⟩⟩
    rw [e1, es]
    exact ⟨vs, fun g => ⟨vs, fun _ => h1 ((ngs s hs).mp g), fun q => absurd g q⟩, fun g => ⟨vs, fun g2 => ⟨vs, fun q => absurd q g, fun _ => h3 (fun z => g ((ngs s hs).mpr z)) g2⟩, fun g2 => h2 (fun z => g ((ngs s hs).mpr z)) g2⟩⟩
  rw [es]
  refine ⟨vs, fun g1 => ?_, fun g1 => ⟨vs, fun g2 => ?_, fun g2 => ?_⟩⟩
  · exact md V _ y1 (fun _ => hQ _ _ hI) (fun z => absurd g1 z) (fun z => absurd g1 z)
  · obtain ⟨n, hnn, hn8⟩ := zb_i (zb_of_r (x := i4) (b := 8) (by simp only [zz_lt, zl_0] at c5; omega) (by simp only [zz_lt, zl_8] at c6; omega) (by decide))
    subst hnn
    obtain ⟨m, hm, hm8⟩ := zb_i w2
    have t2 := zb_sub1 w2 (by decide)
    -- the memory behind k shops
    have fin : ∀ (k : Nat) (v : Int32) (W : aa_V), (∀ c, c ≠ 31 → c ≠ 109 → W c = V c) → W 31 = (prs V s i3 k).2 → W 109 = (prs V s i3 k).2 → Q v v W := by
      intro k v W h0 h1 h2
      have e105 := h0 105 (by decide) (by decide)
      refine hQ _ _ ⟨nv_nG (by rw [e105]) (h0 0 (by decide) (by decide)) hn, nv_rc (fun c _ _ => h0 c (by omega) (by omega)) (h0 106 (by decide) (by decide)) hr, ?_, nv_aG (fun c h => h0 c (by omega) (by omega)) (by rw [e105]) ha, nv_pG (fun c h => h0 c (by omega) (by omega)) (by rw [e105]) (by rw [e105]) (by rw [e105]) hp, nv_oG (fun c h => h0 c (by omega) (by omega)) (by rw [e105]) ho, nv_bG (fun c h => h0 c (by omega) (by omega)) (by rw [e105]) hb, nv_kc (fun c _ _ => h0 c (by omega) (by omega)) (h0 146 (by decide) (by decide)) (by rw [h0 64 (by decide) (by decide)]) (by rw [e105]) hk, nv_sc (fun c _ _ => h0 c (by omega) (by omega)) (h0 147 (by decide) (by decide)) (h0 148 (by decide) (by decide)) (h0 149 (by decide) (by decide)) (h0 73 (by decide) (by decide)) (h0 74 (by decide) (by decide)) hs', nv_fG (h0 80 (by decide) (by decide)) (h0 81 (by decide) (by decide)) (h0 116 (by decide) (by decide)) (by rw [e105]) hf, nv_tc (fun t ht => ⟨h0 _ (by omega) (by omega), h0 _ (by omega) (by omega)⟩) (h0 117 (by decide) (by decide)) (h0 118 (by decide) (by decide)) (h0 119 (by decide) (by decide)) (h0 120 (by decide) (by decide)) (by rw [e105]) (by rw [e105]) (by rw [e105]) (by rw [h0 0 (by decide) (by decide)]) (by rw [h0 0 (by decide) (by decide)]) ht⟩
      unfold nv_w
      rw [e105, h1, h2, h0 29 (by decide) (by decide), h0 30 (by decide) (by decide), h0 32 (by decide) (by decide), h0 33 (by decide) (by decide), h0 34 (by decide) (by decide), h0 35 (by decide) (by decide), h0 36 (by decide) (by decide), h0 37 (by decide) (by decide), h0 108 (by decide) (by decide), h0 110 (by decide) (by decide), h0 111 (by decide) (by decide), h0 112 (by decide) (by decide), h0 113 (by decide) (by decide), h0 114 (by decide) (by decide), h0 115 (by decide) (by decide)]
      exact ⟨⟨w1, w2, w3, w4⟩, ⟨w5, rfl, w7, w8, w9, w10, w11, w12⟩, s1, prs_b s2 k, s3, s4, s5, s6, s7, s8⟩
    -- the reference over a memory of the class
    have mdl : ∀ (e : Nat) (X : aa_V) (v : Int32), e ≤ n → (∀ c, c ≠ 31 → X c = V c) → X 31 = (prs V s i3 e).2 → (∀ k, k < e → prk V s i3 k) → ((e = n ∧ v = (prs V s i3 n).1) ∨ (e < n ∧ ¬ prk V s i3 e ∧ v = -12)) → ab_E G (ac_ST L xs) l (d + 2) ac_SK 282 [.ref 105, .int (nI s), .int i2, .int i3, .int (nI n)] X (aa_rI fun y W => Q v y W) := by
      intro e X v he x1 x2 x3 x4
      refine md X _ ((x1 147 (by decide)).trans y1) (fun z => absurd z g1) (fun _ z => absurd g2 z) (fun _ _ => ?_)
      have i192 : ∀ (k : Nat) (Y : aa_V) (K : aa_K), k < 8 → (¬ prk V s i3 k → K (some (.int (0 : Int32))) Y) → (prk V s i3 k → K (some (.int (1 : Int32))) Y) → ab_E G (ac_ST L xs) l (d + 1) ac_SK 192 [.long (i3.toInt64 + (nI k).toInt64), .long (0 : Int64), .long (V 74 s - 1).toInt64] Y K := fun k Y K hk8 h0 h1 => by
        have pk := prk_v y4 (s := s) (f := i3) hk8
        have r := zb_r (y4 s) (by decide)
        have t := zb_sub1 (y4 s) (by decide)
        have la := l_add i3 (nI k)
        rw [nI_toInt (by omega)] at la
        have t0 : (0 : Int64).toInt = 0 := by decide
        refine vc_192_0 ⟨fun q => ⟨Or.inl rfl, h0 (fun z => ?_)⟩, fun q => ⟨fun q2 => ⟨Or.inl rfl, h0 (fun z => ?_)⟩, fun q2 => ⟨Or.inr rfl, h1 (pk.mpr ?_)⟩⟩⟩
        · have q := zz_cl.mp q
          have z := pk.mp z
          rw [Int64.lt_iff_toInt_lt, la] at q
          omega
        · have q2 := zz_cg.mp q2
          have z := pk.mp z
          rw [Int64.lt_iff_toInt_lt, la, Int32.toInt_toInt64, t] at q2
          omega
        · have q : ¬ (i3.toInt64 + (nI k).toInt64) < 0 := fun y => q (zz_cl.mpr y)
          have q2 : ¬ (V 74 s - 1).toInt64 < (i3.toInt64 + (nI k).toInt64) := fun y => q2 (zz_cg.mpr y)
          rw [Int64.lt_iff_toInt_lt, la] at q
          rw [Int64.lt_iff_toInt_lt, la, Int32.toInt_toInt64, t] at q2
          omega
      have e149 : ∀ k, k < 8 → prk V s i3 k → vp_in (((40 : Int32) * nI s) + (i3.toInt64 + (nI k).toInt64).toInt32) 160 ∧ V 149 (((40 : Int32) * nI s) + (i3.toInt64 + (nI k).toInt64).toInt32).toNatClampNeg = pri V s i3 k := fun k hk8 hp => by
        have r := zb_r (y4 s) (by decide)
        have t := zb_sub1 (y4 s) (by decide)
        obtain ⟨h1, h2⟩ := hp
        simp only [zz_lt, zl_0, t] at h1 h2
        obtain ⟨j, hj, hj2⟩ := zb_i (zb_of_r (x := i3 + nI k) (b := 39) (by omega) (by omega) (by decide))
        rw [Int64.toInt32_add, Int32.toInt32_toInt64, Int32.toInt32_toInt64, hj, ix40 hs (by omega), zz_ix (by omega)]
        refine ⟨vp_in_nI (by omega) (by decide), ?_⟩
        unfold pri
        rw [hj, zz_ix (by omega)]
        exact (y5 s hs g1 j (by omega)).symm
      refine zz_up (σ := aa_V) (fun k Y => ab_J G (ac_ST L xs) l (d + 2) 282 75 [some (.ref 105), some (.int (nI s)), none, some (.int i3), some (.int (nI n)), some (.int (prs V s i3 k).1), some (.int (nI k)), none, none, none] [] ac_SK Y ac_SK (aa_rI fun y W => Q v y W)) (fun k Y => (∀ c, c ≠ 109 → Y c = X c) ∧ Y 109 = (prs V s i3 k).2) e ?_ ?_ 0 X (Nat.zero_le _) ⟨fun _ _ => rfl, by rw [x1 109 (by decide)]; exact w6⟩
      · rintro Y ⟨z1, z2⟩
        have yc : ∀ c, c ≠ 31 → c ≠ 109 → Y c = V c := fun c h1 h2 => by rw [z1 c h2, x1 c h1]
        have y31 : Y 31 = (prs V s i3 e).2 := by rw [z1 31 (by decide), x2]
        rcases x4 with ⟨rfl, rfl⟩ | ⟨h1, h2, rfl⟩
        · refine iv_282_75 ⟨fun q => absurd q (nI_nl (Nat.le_refl _) (by omega)), fun _ => ?_⟩
          exact fin e _ Y yc y31 z2
        · refine iv_282_75 ⟨fun _ => ⟨vs, ?_⟩, fun q => absurd ((zz_nlt (by omega) (by omega)).mpr h1) q⟩
          rw [yc 148 (by decide) (by decide), y2, es]
          refine i192 e Y _ (by omega) (fun _ => ?_) (fun z => absurd z h2)
          dsimp only [aa_rI]
          exact ⟨fun _ => fin e _ Y yc y31 z2, fun z => absurd rfl z⟩
      · rintro k Y hke ⟨z1, z2⟩ ih
        have yc : ∀ c, c ≠ 31 → c ≠ 109 → Y c = V c := fun c h1 h2 => by rw [z1 c h2, x1 c h1]
        obtain ⟨u1, u2⟩ := e149 k (by omega) (x3 k hke)
        refine iv_282_75 ⟨fun _ => ⟨vs, ?_⟩, fun q => absurd ((zz_nlt (by omega) (by omega)).mpr (by omega)) q⟩
        rw [yc 148 (by decide) (by decide), y2, es]
        refine i192 k Y _ (by omega) (fun z => absurd (x3 k hke) z) (fun _ => ?_)
        dsimp only [aa_rI]
        refine ⟨fun z => absurd z (by decide), fun _ => ?_⟩
        rw [yc 149 (by decide) (by decide), u2, yc 105 (by decide) (by decide), w1]
        have no : ¬ prg V s i3 k → ab_J G (ac_ST L xs) l (d + 2) 282 75 [some (.ref 105), some (.int (nI s)), none, some (.int i3), some (.int (nI n)), some (.int (prs V s i3 k).1), some (.int (nI k + 1)), none, none, none] [] ac_SK Y ac_SK (aa_rI fun y W => Q v y W) := fun h => by
          have := ih Y ⟨z1, by rw [prs_n h]; exact z2⟩
          rw [prs_n h, nI_succ] at this
          exact this
        refine ⟨u1, fun q => absurd q (nI_n0 (by omega)), fun _ => ⟨fun q1 => ⟨fun q2 => no (fun z => z.2.1 q2), fun q2 => ⟨fun q3 => no (fun z => z.2.2 q3), fun q3 => ⟨vp_in_nI (by omega) (by decide), ?_⟩⟩⟩, fun q1 => no (fun z => q1 z.1)⟩⟩
        have hg : prg V s i3 k := ⟨q1, q2, q3⟩
        have := ih (aa_up Y 109 k (pri V s i3 k)) ⟨fun c hc => (aa_up_c hc).trans (z1 c hc), by
          rw [prs_y hg]
          show upd (Y 109) k _ = _
          rw [z2]⟩
        rw [prs_y hg, nI_succ] at this
        rw [zz_ix (by omega)]
        exact this
    refine zz_up (σ := aa_V) (fun k X => ab_J G (ac_ST L xs) l (d + 3) 180 63 [some (.ref 0), some (.int (nI s)), none, some (.int i3), some (.int (nI n)), some (.int (prs V s i3 k).1), some (.int (nI k)), none, none] [] ac_SK X ac_SK (aa_rI fun x V1 => ab_E G (ac_ST L xs) l (d + 2) ac_SK 282 [.ref 105, .int (nI s), .int i2, .int i3, .int (nI n)] V1 (aa_rI fun y W => Q x y W))) (fun k X => (∀ c, c ≠ 31 → X c = V c) ∧ X 31 = (prs V s i3 k).2 ∧ ∀ j, j < k → prk V s i3 j) n ?_ ?_ 0 V (Nat.zero_le _) ⟨fun _ _ => rfl, rfl, fun j hj => absurd hj (Nat.not_lt_zero _)⟩
    · rintro X ⟨x1, x2, x3⟩
      refine iv_180_63 ⟨fun q => absurd q (nI_nl (Nat.le_refl _) (by omega)), fun _ => ?_⟩
      exact mdl n X _ (Nat.le_refl _) x1 x2 x3 (Or.inl ⟨rfl, rfl⟩)
    · rintro k X hkn ⟨x1, x2, x3⟩ ih
      have stop : ¬ prk V s i3 k → ab_E G (ac_ST L xs) l (d + 2) ac_SK 282 [.ref 105, .int (nI s), .int i2, .int i3, .int (nI n)] X (aa_rI fun y W => Q (-12) y W) := fun h => mdl k X _ (by omega) x1 x2 x3 (Or.inr ⟨hkn, h, rfl⟩)
      refine iv_180_63 ⟨fun _ => ?_, fun q => absurd ((zz_nlt (by omega) (by omega)).mpr hkn) q⟩
      rw [es, x1 74 (by decide)]
      refine ⟨vs, fun q => stop (fun z => z.1 q), fun q => ⟨fun q2 => stop (fun z => z.2 q2), fun q2 => ?_⟩⟩
      have hpk : prk V s i3 k := ⟨q, q2⟩
      have r := zb_r (y4 s) (by decide)
      have t := zb_sub1 (y4 s) (by decide)
      have v40 : vp_in (i3 + nI k) 40 := by
        have q := q
        have q2 := q2
        simp only [zz_lt, zl_0, t] at q q2
        exact vp_of_r (by omega) (by omega)
      refine sp_65 vs v40 ?_
      dsimp only [aa_rI]
      have e65 : va_65 (nI s) (i3 + nI k) X = pri V s i3 k := by
        unfold va_65 pri
        rw [es, x1 (76 + s) (by omega)]
      rw [e65, x1 29 (by decide)]
      have sh : (¬ (V 29 0 - 1) < nI k) ↔ nI k < V 29 0 := zb_lt1 w2 (by decide)
      have no : ¬ prg V s i3 k → ab_J G (ac_ST L xs) l (d + 3) 180 63 [some (.ref 0), some (.int (nI s)), none, some (.int i3), some (.int (nI n)), some (.int (prs V s i3 k).1), some (.int (nI k + 1)), none, none] [] ac_SK X ac_SK (aa_rI fun x V1 => ab_E G (ac_ST L xs) l (d + 2) ac_SK 282 [.ref 105, .int (nI s), .int i2, .int i3, .int (nI n)] V1 (aa_rI fun y W => Q x y W)) := fun h => by
        have := ih X ⟨x1, by rw [prs_n h]; exact x2, fun j hj => by
          rcases Nat.lt_or_ge j k with r | r
          · exact x3 j r
          · rw [show j = k by omega]
            exact hpk⟩
        rw [prs_n h, nI_succ] at this
        exact this
      have vk : vp_in (nI k) 8 := vp_in_nI (by omega) (by decide)
      refine ⟨fun z => absurd z (nI_n0 (by omega)), fun _ => ⟨fun q3 => no (fun z => sh.mpr z.1 q3), fun q3 => ⟨fun q4 => no (fun z => z.2.1 q4), fun q4 => ⟨fun q5 => no (fun z => z.2.2 q5), fun q5 => ⟨vk, vk, ?_⟩⟩⟩⟩⟩
      have hg : prg V s i3 k := ⟨sh.mp q3, q4, q5⟩
      have := ih (aa_up X 31 k (pri V s i3 k)) ⟨fun c hc => (aa_up_c hc).trans (x1 c hc), by
        rw [prs_y hg]
        show upd (X 31) k _ = _
        rw [x2], fun j hj => by
        rcases Nat.lt_or_ge j k with r | r
        · exact x3 j r
        · rw [show j = k by omega]
          exact hpk⟩
      rw [prs_y hg, nI_succ] at this
      rw [zz_ix (by omega)]
      exact this
  · exact md V _ y1 (fun z => absurd z g1) (fun _ _ => hQ _ _ hI) (fun _ z => absurd z g2)
