/-! canBe, suspects, falseWords, paid -/
theorem itb {α : Type} {c : Prop} [Decidable c] {a b y : α} (h1 : c → a = y) (h2 : ¬ c → b = y) : (if c then a else b) = y := by
  by_cases q : c
  · rw [if_pos q]
    exact h1 q
  · rw [if_neg q]
    exact h2 q
theorem q_rem {x : Int32} (hx : 0 ≤ x.toInt) : (x / (100 : Int32)).toInt = x.toInt / 100 ∧ (x - x / (100 : Int32) * (100 : Int32)).toInt = x.toInt % 100 := by
  have hl := Int32.toInt_lt x
  have h1 : (x / (100 : Int32)).toInt = x.toInt / 100 := by
    rw [Int32.toInt_div, zl_100, Int.tdiv_eq_ediv_of_nonneg hx]
    apply Int.bmod_eq_of_le <;> omega
  have h2 : (x / (100 : Int32) * (100 : Int32)).toInt = x.toInt / 100 * 100 := by
    rw [Int32.toInt_mul, h1, zl_100]
    apply Int.bmod_eq_of_le <;> omega
  refine ⟨h1, ?_⟩
  rw [Int32.toInt_sub, h2, Int.bmod_eq_of_le] <;> omega
set_option maxRecDepth 20000 in
theorem cs_159 {G : ab_G} {L : Nat} {xs : Nat → Int32} {l : Launch} {d : Nat} {i1 i2 i3 i4 : Int32} {V : aa_V} {Q : Int32 → Int32 → aa_V → Prop} (hI : nv V) (hQ : ∀ x W, nv W → Q x x W) :
    ab_E G (ac_ST L xs) l (d + 4) ac_SK 159 [.ref 0, .int i1, .int i2, .int i3, .int i4] V (aa_rI fun x V1 => ab_E G (ac_ST L xs) l (d + 4) ac_SK 246 [.ref 105, .int i1, .int i2, .int i3, .int i4] V1 (aa_rI fun y W => Q x y W)) := by
  obtain ⟨n1, n2⟩ := hI.1
  obtain ⟨⟨p1, p2, p3, p4, p5, p6⟩, ⟨p7, p8, p9, p10, p11, p12⟩, ⟨p13, p14, p15, p16, p17⟩, ⟨q1, q2, q3, q4, q5, q6⟩, q7, q8, q9, q10, q11⟩ := hI.2.2.2.2.1
  have r2 := zb_r p2 (by decide)
  have t2 := zb_sub1 p2 (by decide)
  have rn := zb_r n2 (by decide)
  have u1 : (V 105 46).toInt = (V 42 2).toInt := by rw [p1]
  have u2 : (V 105 2).toInt = (V 0 13).toInt := by rw [n1]
  refine sp_159 ?_ ?_ ?_ ?_ ?_ ?_ ?_ p4 ?_ ?_ ?_ ?_
  · intro g1 g2
    intros
    simp only [zz_lt, zl_0, t2] at g1 g2
    refine vp_of_r ?_ ?_ <;> omega
  · intros; exact vpz (q1 _) (by decide) (by decide)
  · intro g1 g2 g3 g4
    intros
    simp only [zz_lt, zl_0, zl_7] at g3 g4
    refine vp_of_r ?_ ?_ <;> omega
  · intros; exact vpz (q1 _) (by decide) (by decide)
  · intro g1 g2 g3 g4
    intros
    simp only [zz_lt, zl_0, zl_7] at g3 g4
    refine vp_of_r ?_ ?_ <;> omega
  · intros; exact vpz (q1 _) (by decide) (by decide)
  · intro g1 g2 g3 g4
    intros
    simp only [zz_lt, zl_0, zl_7] at g3 g4
    refine vp_of_r ?_ ?_ <;> omega
  · intros; exact vpz (q3 _) (by decide) (by decide)
  · intros; exact vpz (q3 _) (by decide) (by decide)
  · intros; exact vpz (q3 _) (by decide) (by decide)
  have key : va_159 i1 i2 i3 i4 V = if (0 ≤ i1.toInt ∧ i1.toInt < (V 42 2).toInt ∧ 0 ≤ i2.toInt ∧ i2.toInt ≤ 7 ∧ 0 ≤ i4.toInt ∧ i4.toInt ≤ (V 0 13).toInt ∧ 0 ≤ i3.toInt ∧ (i3 / (100 : Int32)).toInt ≤ 399 ∧ (i3 - i3 / (100 : Int32) * (100 : Int32)).toInt ≤ 11) then (if (va_87 i1 i2 (i3 / (100 : Int32)) (i3 - i3 / (100 : Int32) * (100 : Int32)) i4 V) = 0 then (0 : Int32) else (1 : Int32)) else -2 := by
    by_cases hG : (0 ≤ i1.toInt ∧ i1.toInt < (V 42 2).toInt ∧ 0 ≤ i2.toInt ∧ i2.toInt ≤ 7 ∧ 0 ≤ i4.toInt ∧ i4.toInt ≤ (V 0 13).toInt ∧ 0 ≤ i3.toInt ∧ (i3 / (100 : Int32)).toInt ≤ 399 ∧ (i3 - i3 / (100 : Int32) * (100 : Int32)).toInt ≤ 11)
    · rw [if_pos hG]
      have hre := q_rem hG.2.2.2.2.2.2.1
      refine itb (fun c => absurd c ?_) (fun _ => itb (fun c => absurd c ?_) (fun _ => itb (fun c => absurd c ?_) (fun _ => itb (fun c => absurd c ?_) (fun _ => itb (fun c => absurd c ?_) (fun _ => itb (fun c => absurd c ?_) (fun _ => itb (fun c => absurd c ?_) (fun _ => itb (fun c => absurd c ?_) (fun _ => itb (fun c => absurd c ?_) (fun _ => itb (fun c => absurd c ?_) (fun _ => itb (fun c => absurd c ?_) (fun _ => rfl)))))))))))
      all_goals
        simp only [zz_lt, zl_0, zl_7, zl_11, zl_399, t2]
        omega
    · rw [if_neg hG]
      refine itb (fun _ => rfl) (fun c1 => itb (fun _ => rfl) (fun c2 => itb (fun _ => rfl) (fun c3 => itb (fun _ => rfl) (fun c4 => itb (fun _ => rfl) (fun c5 => itb (fun _ => rfl) (fun c6 => itb (fun _ => rfl) (fun c7 => itb (fun _ => rfl) (fun c8 => itb (fun _ => rfl) (fun c9 => itb (fun _ => rfl) (fun c10 => itb (fun _ => rfl) (fun c11 => absurd ?_ hG)))))))))))
      simp only [zz_lt, zl_0, zl_7, zl_11, zl_399, t2] at c1 c2 c3 c4 c5 c6 c7 c8 c9 c10 c11
      omega
  have bad : ¬ (0 ≤ i1.toInt ∧ i1.toInt < (V 42 2).toInt ∧ 0 ≤ i2.toInt ∧ i2.toInt ≤ 7 ∧ 0 ≤ i4.toInt ∧ i4.toInt ≤ (V 0 13).toInt ∧ 0 ≤ i3.toInt ∧ (i3 / (100 : Int32)).toInt ≤ 399 ∧ (i3 - i3 / (100 : Int32) * (100 : Int32)).toInt ≤ 11) → Q (va_159 i1 i2 i3 i4 V) (-2) V := fun q => by
    rw [key, if_neg q]
    exact hQ _ _ hI
  dsimp only [aa_rI]
  refine iv_246_0 ⟨fun c1 => bad ?_, fun c1 => ⟨fun c2 => ⟨fun c3 => bad ?_, fun c3 => ⟨fun c4 => ⟨fun c5 => bad ?_, fun c5 => ⟨by decide, fun c6 => bad ?_, fun c6 => ⟨fun c7 => bad ?_, fun c7 => ⟨by decide, fun c8 => bad ?_, fun c8 => ⟨fun c9 => bad ?_, fun c9 => ⟨fun c10 => bad ?_, fun c10 => ⟨by decide, by decide, ?_⟩⟩⟩⟩⟩⟩⟩, fun c4 => bad ?_⟩⟩, fun c2 => bad ?_⟩⟩
  · simp only [zz_lt, zl_0] at c1; omega
  · simp only [zz_lt, zl_0] at c3; omega
  · simp only [zz_lt, zl_0] at c5; omega
  · simp only [zz_lt, zl_0] at c5 c6
    have := q_rem (x := i3) (by omega)
    omega
  · simp only [zz_lt, zl_399] at c7; omega
  · simp only [zz_lt, zl_11] at c8; omega
  · simp only [zz_lt, zl_0] at c9; omega
  · simp only [zz_lt] at c10; omega
  · simp only [zz_lt, zl_0, zl_8, zl_11, zl_399] at c1 c2 c3 c4 c5 c6 c7 c8 c9 c10
    have hre := q_rem (x := i3) (by omega)
    refine sp_244 hI sc_r (zb_of_r (by omega) (by omega) (by decide)) (zb_of_r (by omega) (by omega) (by decide)) (zb_of_r (by omega) (by omega) (by decide)) (fun X hX => ?_)
    dsimp only [aa_rI]
    refine ⟨fun c => ?_, fun c => ?_⟩
    · show Q _ _ X
      rw [key, if_pos (by omega), if_pos c]
      exact hQ _ _ (nv_z hX hI)
    · show Q _ _ X
      rw [key, if_pos (by omega), if_neg c]
      exact hQ _ _ (nv_z hX hI)
  · simp only [zz_lt, zl_8] at c4; omega
  · simp only [zz_lt] at c2; omega
set_option maxRecDepth 20000 in
theorem cs_160 {G : ab_G} {L : Nat} {xs : Nat → Int32} {l : Launch} {d : Nat} {i1 i2 : Int32} {V : aa_V} {Q : Int32 → Int32 → aa_V → Prop} (hI : nv V) (hQ : ∀ x W, nv W → Q x x W) :
    ab_E G (ac_ST L xs) l (d + 6) ac_SK 160 [.ref 0, .int i1, .int i2] V (aa_rI fun x V1 => ab_E G (ac_ST L xs) l (d + 5) ac_SK 248 [.ref 105, .int i1, .int i2] V1 (aa_rI fun y W => Q x y W)) := by
  obtain ⟨n1, n2⟩ := hI.1
  obtain ⟨⟨w1, w2, w3, w4⟩, ⟨w5, w6, w7, w8, w9, w10, w11, w12⟩, s1, s2, s3, s4, s5, s6, s7, s8⟩ := hI.2.2.1
  obtain ⟨⟨a1, a2⟩, ⟨a3, a4, a5⟩, a6, a7, a8⟩ := hI.2.2.2.1
  obtain ⟨⟨p1, p2, p3, p4, p5, p6⟩, ⟨p7, p8, p9, p10, p11, p12⟩, ⟨p13, p14, p15, p16, p17⟩, ⟨q1, q2, q3, q4, q5, q6⟩, q7, q8, q9, q10, q11⟩ := hI.2.2.2.2.1
  have r2 := zb_r a2 (by decide)
  have t2 := zb_sub1 a2 (by decide)
  have rn := zb_r n2 (by decide)
  have u2 : (V 105 2).toInt = (V 0 13).toInt := by rw [n1]
  have u1 : (V 105 34 - 1).toInt = (V 38 1).toInt - 1 := by rw [a1]; exact t2
  refine sp_160 p2 ?_ ?_ ?_ ?_ ?_ ?_ p4 ?_ ?_ ?_ ?_ ?_ ?_ ?_
  · intro g1 g2
    intros
    simp only [zz_lt, zl_0, t2] at g1 g2
    refine vp_of_r ?_ ?_ <;> omega
  · intros; exact vpz (a6 _) (by decide) (by decide)
  · intros; exact vpz (s4 _) (by decide) (by decide)
  · intros; exact vpz (s1 _) (by decide) (by decide)
  · intros; exact vpz (s1 _) (by decide) (by decide)
  · intros; exact vpz (s1 _) (by decide) (by decide)
  · intros; exact vpz (q3 _) (by decide) (by decide)
  · intros; exact vpz (q3 _) (by decide) (by decide)
  · intros; exact vpz (q3 _) (by decide) (by decide)
  · intros; exact vpz (q1 _) (by decide) (by decide)
  · intros; exact vpz (q1 _) (by decide) (by decide)
  · intros; exact vpz (q1 _) (by decide) (by decide)
  have key : va_160 i1 i2 V = if (0 ≤ i1.toInt ∧ i1.toInt < (V 38 1).toInt ∧ 0 ≤ i2.toInt ∧ i2.toInt ≤ (V 0 13).toInt) then va_89 i1 i2 V else -2 := by
    unfold va_160
    simp only [zz_lt, zl_0, t2]
    repeat' split
    all_goals first | rfl | (exfalso; omega)
  have bad : ¬ (0 ≤ i1.toInt ∧ i1.toInt < (V 38 1).toInt ∧ 0 ≤ i2.toInt ∧ i2.toInt ≤ (V 0 13).toInt) → Q (va_160 i1 i2 V) (-2) V := fun q => by
    rw [key, if_neg q]
    exact hQ _ _ hI
  dsimp only [aa_rI]
  refine iv_248_0 ⟨fun c1 => bad ?_, fun c1 => ⟨fun c2 => bad ?_, fun c2 => ⟨fun c3 => bad ?_, fun c3 => ⟨fun c4 => bad ?_, fun c4 => ?_⟩⟩⟩⟩
  · simp only [zz_lt, zl_0] at c1; omega
  · simp only [zz_lt, u1] at c2; omega
  · simp only [zz_lt, zl_0] at c3; omega
  · simp only [zz_lt] at c4; omega
  · simp only [zz_lt, zl_0, u1] at c1 c2 c3 c4
    have vi : vp_in i1 30 := by refine vp_of_r ?_ ?_ <;> omega
    obtain ⟨n, hn, hm⟩ := zb_i p2
    have hN : (V 42 2).toNatClampNeg = n := by rw [hn]; exact zz_ix (by omega)
    have k89 : va_89 i1 i2 V = fo (fun (i_89 : Nat) (a_89 : Int32) => ((if (va_87 (nI i_89) (V 30 (((V 33 (((V 39 ((i1).toNatClampNeg))).toNatClampNeg))).toNatClampNeg)) (V 40 ((i1).toNatClampNeg)) (V 41 ((i1).toNatClampNeg)) i2 V) = 0 then a_89 else (a_89 ||| ((1 : Int32) <<< ((nI i_89) &&& 31)))) : Int32)) n 0 := by
      unfold va_89 vl_89_5
      rw [hN]
    refine zz_up (σ := Int32 × aa_V) (fun i s => ab_J G (ac_ST L xs) l (d + 5) 248 32 [some (.ref 105), some (.int i1), some (.int i2), some (.int s.1), some (.int (nI i))] [] ac_SK s.2 ac_SK (aa_rI fun y W => Q (va_160 i1 i2 V) y W)) (fun i s => s.1 = fo (fun (i_89 : Nat) (a_89 : Int32) => ((if (va_87 (nI i_89) (V 30 (((V 33 (((V 39 ((i1).toNatClampNeg))).toNatClampNeg))).toNatClampNeg)) (V 40 ((i1).toNatClampNeg)) (V 41 ((i1).toNatClampNeg)) i2 V) = 0 then a_89 else (a_89 ||| ((1 : Int32) <<< ((nI i_89) &&& 31)))) : Int32)) i 0 ∧ sc V s.2) n ?_ ?_ 0 ((0 : Int32), V) (Nat.zero_le _) ⟨rfl, sc_r⟩
    · intro s hs
      obtain ⟨a, W⟩ := s
      obtain ⟨h1, h2⟩ := hs
      dsimp only at h1 h2 ⊢
      have e105 : W 105 46 = nI n := by rw [h2 105 rfl, p1, hn]
      refine iv_248_32 ⟨fun q => absurd q (zz_ge e105), fun _ => ?_⟩
      show Q _ _ W
      rw [key, if_pos (by omega), k89, ← h1]
      exact hQ _ _ (nv_z h2 hI)
    · intro i s hi hs ih
      obtain ⟨a, W⟩ := s
      obtain ⟨h1, h2⟩ := hs
      dsimp only at h1 h2 ⊢
      have e105 : W 105 46 = nI n := by rw [h2 105 rfl, p1, hn]
      refine iv_248_32 ⟨fun _ => ?_, fun q => absurd (zz_gl e105 hi (by omega)) q⟩
      have e124 : W 124 = V 39 := (h2 124 rfl).trans a3
      have e125 : W 125 = V 40 := (h2 125 rfl).trans a4
      have e126 : W 126 = V 41 := (h2 126 rfl).trans a5
      have e111 : W 111 = V 33 := (h2 111 rfl).trans w8
      have e108 : W 108 = V 30 := (h2 108 rfl).trans w5
      rw [e124, e111, e108, e125, e126]
      refine ⟨vi, vpz (a6 _) (by decide) (by decide), vpz (s4 _) (by decide) (by decide), vi, vi, ?_⟩
      refine sp_244 hI h2 (zb_n (by omega) (by decide)) (s1 _) (a8 _) (fun X hX => ?_)
      dsimp only [aa_rI]
      have ih' : ∀ b, b = fo (fun (i_89 : Nat) (a_89 : Int32) => ((if (va_87 (nI i_89) (V 30 (((V 33 (((V 39 ((i1).toNatClampNeg))).toNatClampNeg))).toNatClampNeg)) (V 40 ((i1).toNatClampNeg)) (V 41 ((i1).toNatClampNeg)) i2 V) = 0 then a_89 else (a_89 ||| ((1 : Int32) <<< ((nI i_89) &&& 31)))) : Int32)) (i + 1) 0 → ab_J G (ac_ST L xs) l (d + 5) 248 32 [some (.ref 105), some (.int i1), some (.int i2), some (.int b), some (.int (nI i + 1))] [] ac_SK X ac_SK (aa_rI fun y W => Q (va_160 i1 i2 V) y W) := fun b hb => by
        have := ih (b, X) ⟨hb, hX⟩
        rw [nI_succ] at this
        exact this
      refine ⟨q87b, fun c => ih' _ ?_, fun c => ih' _ ?_⟩
      · rw [h1]
        simp only [fo_s, if_pos c, Int32.or_zero]
      · rw [h1]
        simp only [fo_s, if_neg c]
set_option maxRecDepth 20000 in
theorem cs_162 {G : ab_G} {L : Nat} {xs : Nat → Int32} {l : Launch} {d : Nat} {i1 : Int32} {V : aa_V} {Q : Int32 → Int32 → aa_V → Prop} (hI : nv V) (hQ : ∀ x W, nv W → Q x x W) :
    ab_E G (ac_ST L xs) l (d + 6) ac_SK 162 [.ref 0, .int i1] V (aa_rI fun x V1 => ab_E G (ac_ST L xs) l (d + 6) ac_SK 251 [.ref 105, .int i1] V1 (aa_rI fun y W => Q x y W)) := by
  obtain ⟨n1, n2⟩ := hI.1
  obtain ⟨⟨w1, w2, w3, w4⟩, ⟨w5, w6, w7, w8, w9, w10, w11, w12⟩, s1, s2, s3, s4, s5, s6, s7, s8⟩ := hI.2.2.1
  obtain ⟨⟨a1, a2⟩, ⟨a3, a4, a5⟩, a6, a7, a8⟩ := hI.2.2.2.1
  obtain ⟨⟨p1, p2, p3, p4, p5, p6⟩, ⟨p7, p8, p9, p10, p11, p12⟩, ⟨p13, p14, p15, p16, p17⟩, ⟨q1, q2, q3, q4, q5, q6⟩, q7, q8, q9, q10, q11⟩ := hI.2.2.2.2.1
  have rn := zb_r n2 (by decide)
  have u2 : (V 105 2).toInt = (V 0 13).toInt := by rw [n1]
  refine sp_162 p6 p4 ?_ ?_ ?_ ?_ ?_ ?_ ?_ ?_ ?_ ?_ ?_ ?_ ?_ ?_
  · intros; exact vpz (q9 _) (by decide) (by decide)
  · intros; exact vpz (a6 _) (by decide) (by decide)
  · intros; exact vpz (s4 _) (by decide) (by decide)
  · intros; exact vpz (q8 _) (by decide) (by decide)
  · intros; exact vpz (q1 _) (by decide) (by decide)
  · intros; exact vpz (s1 _) (by decide) (by decide)
  · intros; exact vpz (q1 _) (by decide) (by decide)
  · intros; exact vpz (s1 _) (by decide) (by decide)
  · intros; exact vpz (q1 _) (by decide) (by decide)
  · intros; exact vpz (s1 _) (by decide) (by decide)
  · intros; exact vpz (q3 _) (by decide) (by decide)
  · intros; exact vpz (q3 _) (by decide) (by decide)
  · intros; exact vpz (q3 _) (by decide) (by decide)
  have key : va_162 i1 V = if (0 ≤ i1.toInt ∧ i1.toInt ≤ (V 0 13).toInt) then va_90 i1 V else -2 := by
    unfold va_162
    simp only [zz_lt, zl_0]
    repeat' split
    all_goals first | rfl | (exfalso; omega)
  have bad : ¬ (0 ≤ i1.toInt ∧ i1.toInt ≤ (V 0 13).toInt) → Q (va_162 i1 V) (-2) V := fun q => by
    rw [key, if_neg q]
    exact hQ _ _ hI
  dsimp only [aa_rI]
  refine iv_251_0 ⟨fun c1 => bad ?_, fun c1 => ⟨fun c2 => bad ?_, fun c2 => ?_⟩⟩
  · simp only [zz_lt, zl_0] at c1; omega
  · simp only [zz_lt] at c2; omega
  · simp only [zz_lt, zl_0] at c1 c2
    obtain ⟨n, hn, hm⟩ := zb_i p6
    have hN : (V 42 10).toNatClampNeg = n := by rw [hn]; exact zz_ix (by omega)
    have k90 : va_90 i1 V = fo (fun (i_90 : Nat) (a_90 : Int32) => ((if i1 < (V 53 i_90) then a_90 else (if (va_87 (V 50 i_90) (V 30 (((V 33 (((V 39 (((V 51 i_90)).toNatClampNeg))).toNatClampNeg))).toNatClampNeg)) (V 40 (((V 51 i_90)).toNatClampNeg)) (V 41 (((V 51 i_90)).toNatClampNeg)) i1 V) = 0 then (a_90 ||| ((1 : Int32) <<< ((nI i_90) &&& 31))) else a_90)) : Int32)) n 0 := by
      unfold va_90 vl_90_4
      rw [hN]
    refine zz_up (σ := Int32 × aa_V) (fun i s => ab_J G (ac_ST L xs) l (d + 6) 251 15 [some (.ref 105), some (.int i1), some (.int s.1), some (.int (nI i))] [] ac_SK s.2 ac_SK (aa_rI fun y W => Q (va_162 i1 V) y W)) (fun i s => s.1 = fo (fun (i_90 : Nat) (a_90 : Int32) => ((if i1 < (V 53 i_90) then a_90 else (if (va_87 (V 50 i_90) (V 30 (((V 33 (((V 39 (((V 51 i_90)).toNatClampNeg))).toNatClampNeg))).toNatClampNeg)) (V 40 (((V 51 i_90)).toNatClampNeg)) (V 41 (((V 51 i_90)).toNatClampNeg)) i1 V) = 0 then (a_90 ||| ((1 : Int32) <<< ((nI i_90) &&& 31))) else a_90)) : Int32)) i 0 ∧ sc V s.2) n ?_ ?_ 0 ((0 : Int32), V) (Nat.zero_le _) ⟨rfl, sc_r⟩
    · intro s hs
      obtain ⟨a, W⟩ := s
      obtain ⟨h1, h2⟩ := hs
      dsimp only at h1 h2 ⊢
      have e105 : W 105 48 = nI n := by rw [h2 105 rfl, p5, hn]
      refine iv_251_15 ⟨fun q => absurd q (zz_ge e105), fun _ => ?_⟩
      show Q _ _ W
      rw [key, if_pos (by omega), k90, ← h1]
      exact hQ _ _ (nv_z h2 hI)
    · intro i s hi hs ih
      obtain ⟨a, W⟩ := s
      obtain ⟨h1, h2⟩ := hs
      dsimp only at h1 h2 ⊢
      have e : (nI i).toNatClampNeg = i := zz_ix (by omega)
      have vi : vp_in (nI i) 24 := vp_in_nI (by omega) (by decide)
      have e105 : W 105 48 = nI n := by rw [h2 105 rfl, p5, hn]
      refine iv_251_15 ⟨fun _ => ?_, fun q => absurd (zz_gl e105 hi (by omega)) q⟩
      have e124 : W 124 = V 39 := (h2 124 rfl).trans a3
      have e125 : W 125 = V 40 := (h2 125 rfl).trans a4
      have e126 : W 126 = V 41 := (h2 126 rfl).trans a5
      have e111 : W 111 = V 33 := (h2 111 rfl).trans w8
      have e108 : W 108 = V 30 := (h2 108 rfl).trans w5
      have e134 : W 134 = V 50 := (h2 134 rfl).trans p14
      have e135 : W 135 = V 51 := (h2 135 rfl).trans p15
      have e137 : W 137 = V 53 := (h2 137 rfl).trans p17
      have ih' : ∀ b X, sc V X → b = fo (fun (i_90 : Nat) (a_90 : Int32) => ((if i1 < (V 53 i_90) then a_90 else (if (va_87 (V 50 i_90) (V 30 (((V 33 (((V 39 (((V 51 i_90)).toNatClampNeg))).toNatClampNeg))).toNatClampNeg)) (V 40 (((V 51 i_90)).toNatClampNeg)) (V 41 (((V 51 i_90)).toNatClampNeg)) i1 V) = 0 then (a_90 ||| ((1 : Int32) <<< ((nI i_90) &&& 31))) else a_90)) : Int32)) (i + 1) 0 → ab_J G (ac_ST L xs) l (d + 6) 251 15 [some (.ref 105), some (.int i1), some (.int b), some (.int (nI i + 1))] [] ac_SK X ac_SK (aa_rI fun y W => Q (va_162 i1 V) y W) := fun b X hX hb => by
        have := ih (b, X) ⟨hb, hX⟩
        rw [nI_succ] at this
        exact this
      rw [e, e137, e135, e134, e124, e111, e108, e125, e126]
      refine ⟨vi, fun c => ih' _ _ h2 ?_, fun c => ⟨vi, vi, vpz (q9 _) (by decide) (by decide), vpz (a6 _) (by decide) (by decide), vpz (s4 _) (by decide) (by decide), vpz (q9 _) (by decide) (by decide), vpz (q9 _) (by decide) (by decide), ?_⟩⟩
      · rw [h1]
        simp only [fo_s, if_pos c, Int32.or_zero]
      · refine sp_244 hI h2 (q8 _) (s1 _) (a8 _) (fun X hX => ?_)
        dsimp only [aa_rI]
        refine ⟨q87b, fun c2 => ih' _ _ hX ?_, fun c2 => ih' _ _ hX ?_⟩
        · rw [h1]
          simp only [fo_s, if_neg c, if_pos c2]
        · rw [h1]
          simp only [fo_s, if_neg c, if_neg c2, Int32.or_zero]
-- sets of words
theorem q91 (i1 i2 : Int32) (V : aa_V) : va_91 i1 i2 V = bs (V 42 10).toNatClampNeg (fun w => decide (¬ i2 < V 53 w ∧ V 49 w = i1)) := by
  unfold va_91 vl_91_5 bs
  dsimp only
  refine fo_c (fun i hi a => ?_)
  by_cases c1 : i2 < V 53 i
  · rw [if_pos c1, if_neg (by simp [c1])]
  · rw [if_neg c1]
    by_cases c2 : V 49 i = i1
    · rw [if_pos c2, if_pos (by simp [c1, c2])]
    · rw [if_neg c2, if_neg (by simp [c2])]
theorem q92 (i1 i2 : Int32) (V : aa_V) : va_92 i1 i2 V = bs (V 42 10).toNatClampNeg (fun w => decide (¬ i2 < V 53 w ∧ V 50 w = i1)) := by
  unfold va_92 vl_92_5 bs
  dsimp only
  refine fo_c (fun i hi a => ?_)
  by_cases c1 : i2 < V 53 i
  · rw [if_pos c1, if_neg (by simp [c1])]
  · rw [if_neg c1]
    by_cases c2 : V 50 i = i1
    · rw [if_pos c2, if_pos (by simp [c1, c2])]
    · rw [if_neg c2, if_neg (by simp [c2])]
/-- the word w is false as known -/
def qlie (k : Int32) (V : aa_V) (w : Nat) : Int32 := va_87 (V 50 w) (V 30 (((V 33 (((V 39 (((V 51 w)).toNatClampNeg))).toNatClampNeg))).toNatClampNeg)) (V 40 (((V 51 w)).toNatClampNeg)) (V 41 (((V 51 w)).toNatClampNeg)) k V
theorem q90 (i1 : Int32) (V : aa_V) : va_90 i1 V = bs (V 42 10).toNatClampNeg (fun w => decide (¬ i1 < V 53 w ∧ qlie i1 V w = 0)) := by
  unfold va_90 vl_90_4 bs
  dsimp only
  refine fo_c (fun i hi a => ?_)
  by_cases c1 : i1 < V 53 i
  · rw [if_pos c1, if_neg (by simp [c1])]
  · rw [if_neg c1]
    by_cases c2 : qlie i1 V i = 0
    · rw [if_pos (by exact c2), if_pos (by simp [c1, c2])]
    · rw [if_neg (by exact c2), if_neg (by simp [c2])]
theorem q93 {n : Nat} {V : aa_V} (p : Nat → Bool) (hN : (V 42 10).toNatClampNeg = n) (hn : n ≤ 24) : va_93 (bs n p) V = fo (fun i a => if p i = true then a + V 52 i else a) n 0 := by
  unfold va_93 vl_93_4
  rw [hN]
  dsimp only
  refine fo_c (fun i hi a => ?_)
  by_cases c : p i = true
  · rw [if_pos ((bs_t (by omega) (by omega)).mpr ⟨hi, c⟩), if_pos c]
  · rw [if_neg (fun z => c ((bs_t (by omega) (by omega)).mp z).2), if_neg c]
theorem q93l {n : Nat} {V : aa_V} {p : Nat → Bool} (hq : ∀ i, zb (V 52 i) 999) (hn : n ≤ 24) : fo (fun i (a : Int64) => if p i = true then a + (V 52 i).toInt64 else a) n 0 = (fo (fun i a => if p i = true then a + V 52 i else a) n 0).toInt64 := by
  have key := fo_r (f := fun i a => if p i = true then a + V 52 i else a) (g := fun i (a : Int64) => if p i = true then a + (V 52 i).toInt64 else a) (R := fun k x y => k ≤ 24 → (y = x.toInt64 ∧ 0 ≤ x.toInt ∧ x.toInt ≤ 999 * (k : Int))) (n := n) (a := 0) (a' := 0) (fun _ => ⟨rfl, by decide, by decide⟩) (fun k hk x y ih hk2 => by
    obtain ⟨h1, h2, h3⟩ := ih (by omega)
    have hr := zb_r (hq k) (by decide)
    by_cases c : p k = true
    · rw [if_pos c, if_pos c]
      have := toL_add (x := x) (e := V 52 k) (by omega) (by omega)
      rw [this.1, this.2, h1]
      refine ⟨rfl, by omega, by omega⟩
    · rw [if_neg c, if_neg c]
      exact ⟨h1, by omega, by omega⟩) hn
  exact key.1
set_option maxRecDepth 20000 in
theorem cs_163 {G : ab_G} {L : Nat} {xs : Nat → Int32} {l : Launch} {d : Nat} {i1 i2 i3 : Int32} {V : aa_V} {Q : Int64 → Int64 → aa_V → Prop} (hI : nv V) (hQ : ∀ x W, nv W → Q x x W) :
    ab_E G (ac_ST L xs) l (d + 6) ac_SK 163 [.ref 0, .int i1, .int i2, .int i3] V (aa_rL fun x V1 => ab_E G (ac_ST L xs) l (d + 6) ac_SK 252 [.ref 105, .int i1, .int i2, .int i3] V1 (aa_rL fun y W => Q x y W)) := by
  obtain ⟨n1, n2⟩ := hI.1
  obtain ⟨⟨w1, w2, w3, w4⟩, ⟨w5, w6, w7, w8, w9, w10, w11, w12⟩, s1, s2, s3, s4, s5, s6, s7, s8⟩ := hI.2.2.1
  obtain ⟨⟨a1, a2⟩, ⟨a3, a4, a5⟩, a6, a7, a8⟩ := hI.2.2.2.1
  obtain ⟨⟨p1, p2, p3, p4, p5, p6⟩, ⟨p7, p8, p9, p10, p11, p12⟩, ⟨p13, p14, p15, p16, p17⟩, ⟨q1, q2, q3, q4, q5, q6⟩, q7, q8, q9, q10, q11⟩ := hI.2.2.2.2.1
  have rn := zb_r n2 (by decide)
  have u2 : (V 105 2).toInt = (V 0 13).toInt := by rw [n1]
  refine sp_163 p6 p4 ?_ ?_ ?_ ?_ ?_ ?_ ?_ ?_ ?_ ?_ ?_ ?_ ?_ ?_
  · intros; exact vpz (q9 _) (by decide) (by decide)
  · intros; exact vpz (a6 _) (by decide) (by decide)
  · intros; exact vpz (s4 _) (by decide) (by decide)
  · intros; exact vpz (q8 _) (by decide) (by decide)
  · intros; exact vpz (q1 _) (by decide) (by decide)
  · intros; exact vpz (s1 _) (by decide) (by decide)
  · intros; exact vpz (q1 _) (by decide) (by decide)
  · intros; exact vpz (s1 _) (by decide) (by decide)
  · intros; exact vpz (q1 _) (by decide) (by decide)
  · intros; exact vpz (s1 _) (by decide) (by decide)
  · intros; exact vpz (q3 _) (by decide) (by decide)
  · intros; exact vpz (q3 _) (by decide) (by decide)
  · intros; exact vpz (q3 _) (by decide) (by decide)
  obtain ⟨n, hn, hm⟩ := zb_i p6
  have hN : (V 42 10).toNatClampNeg = n := by rw [hn]; exact zz_ix (by omega)
  have key : va_163 i1 i2 i3 V = if (0 ≤ i1.toInt ∧ i1.toInt ≤ 5 ∧ 0 ≤ i2.toInt ∧ i2.toInt ≤ 1 ∧ 0 ≤ i3.toInt ∧ i3.toInt ≤ (V 0 13).toInt) then fo (fun (w : Nat) (a : Int64) => if decide (¬ i3 < V 53 w ∧ V 49 w = i1 ∧ (i2 = 0 ∨ qlie i3 V w = 0)) = true then a + (V 52 w).toInt64 else a) n 0 else (-4611686018427387904 : Int64) := by
    have g0 : i2 = 0 → (va_93 (va_91 i1 i3 V) V).toInt64 = fo (fun (w : Nat) (a : Int64) => if decide (¬ i3 < V 53 w ∧ V 49 w = i1 ∧ (i2 = 0 ∨ qlie i3 V w = 0)) = true then a + (V 52 w).toInt64 else a) n 0 := by
      intro c
      rw [q93l q10 hm, q91, hN, q93 _ hN hm]
      congr 1
      refine fo_c (fun w hw a => ?_)
      rw [show decide (¬ i3 < V 53 w ∧ V 49 w = i1 ∧ (i2 = 0 ∨ qlie i3 V w = 0)) = decide (¬ i3 < V 53 w ∧ V 49 w = i1) from decide_eq_decide.mpr ⟨fun z => ⟨z.1, z.2.1⟩, fun z => ⟨z.1, z.2, Or.inl c⟩⟩]
    have g1 : ¬ i2 = 0 → (va_93 ((va_91 i1 i3 V) &&& (va_90 i3 V)) V).toInt64 = fo (fun (w : Nat) (a : Int64) => if decide (¬ i3 < V 53 w ∧ V 49 w = i1 ∧ (i2 = 0 ∨ qlie i3 V w = 0)) = true then a + (V 52 w).toInt64 else a) n 0 := by
      intro c
      rw [q93l q10 hm, q91, q90, hN, bs_and (by omega), q93 _ hN hm]
      congr 1
      refine fo_c (fun w hw a => ?_)
      rw [show decide (¬ i3 < V 53 w ∧ V 49 w = i1 ∧ (i2 = 0 ∨ qlie i3 V w = 0)) = (decide (¬ i3 < V 53 w ∧ V 49 w = i1) && decide (¬ i3 < V 53 w ∧ qlie i3 V w = 0)) by
        rw [← Bool.decide_and]
        exact decide_eq_decide.mpr ⟨fun z => ⟨⟨z.1, z.2.1⟩, z.1, z.2.2.resolve_left c⟩, fun z => ⟨z.1.1, z.1.2, Or.inr z.2.2⟩⟩]
    by_cases hG : (0 ≤ i1.toInt ∧ i1.toInt ≤ 5 ∧ 0 ≤ i2.toInt ∧ i2.toInt ≤ 1 ∧ 0 ≤ i3.toInt ∧ i3.toInt ≤ (V 0 13).toInt)
    · rw [if_pos hG]
      refine itb (fun c => absurd c ?_) (fun _ => itb (fun c => absurd c ?_) (fun _ => itb (fun c => absurd c ?_) (fun _ => itb (fun c => absurd c ?_) (fun _ => itb (fun c => absurd c ?_) (fun _ => itb (fun c => absurd c ?_) (fun _ => itb g0 g1))))))
      all_goals
        simp only [zz_lt, zl_0, zl_1, zl_5]
        omega
    · rw [if_neg hG]
      refine itb (fun _ => rfl) (fun c1 => itb (fun _ => rfl) (fun c2 => itb (fun _ => rfl) (fun c3 => itb (fun _ => rfl) (fun c4 => itb (fun _ => rfl) (fun c5 => itb (fun _ => rfl) (fun c6 => absurd ?_ hG))))))
      simp only [zz_lt, zl_0, zl_1, zl_5] at c1 c2 c3 c4 c5 c6
      omega
  have bad : ¬ (0 ≤ i1.toInt ∧ i1.toInt ≤ 5 ∧ 0 ≤ i2.toInt ∧ i2.toInt ≤ 1 ∧ 0 ≤ i3.toInt ∧ i3.toInt ≤ (V 0 13).toInt) → Q (va_163 i1 i2 i3 V) (-4611686018427387904 : Int64) V := fun q => by
    rw [key, if_neg q]
    exact hQ _ _ hI
  dsimp only [aa_rL]
  refine iv_252_0 ⟨fun c1 => bad ?_, fun c1 => ⟨fun c2 => bad ?_, fun c2 => ⟨fun c3 => bad ?_, fun c3 => ⟨fun c4 => bad ?_, fun c4 => ⟨fun c5 => bad ?_, fun c5 => ⟨fun c6 => bad ?_, fun c6 => ?_⟩⟩⟩⟩⟩⟩
  · simp only [zz_lt, zl_0] at c1; omega
  · simp only [zz_lt, zl_5] at c2; omega
  · simp only [zz_lt, zl_0] at c3; omega
  · simp only [zz_lt, zl_1] at c4; omega
  · simp only [zz_lt, zl_0] at c5; omega
  · simp only [zz_lt] at c6; omega
  · simp only [zz_lt, zl_0, zl_1, zl_5] at c1 c2 c3 c4 c5 c6
    rw [if_pos (by omega)] at key
    obtain ⟨F, hF⟩ : ∃ F, F = (fun (w : Nat) (a : Int64) => if decide (¬ i3 < V 53 w ∧ V 49 w = i1 ∧ (i2 = 0 ∨ qlie i3 V w = 0)) = true then a + (V 52 w).toInt64 else a) := ⟨_, rfl⟩
    rw [← hF] at key
    have f1 : ∀ w a, (¬ i3 < V 53 w ∧ V 49 w = i1 ∧ (i2 = 0 ∨ qlie i3 V w = 0)) → F w a = a + (V 52 w).toInt64 := fun w a z => by rw [hF]; exact if_pos (decide_eq_true z)
    have f0 : ∀ w a, ¬ (¬ i3 < V 53 w ∧ V 49 w = i1 ∧ (i2 = 0 ∨ qlie i3 V w = 0)) → F w a = a := fun w a z => by rw [hF]; exact if_neg (fun y => z (of_decide_eq_true y))
    refine zz_up (σ := Int64 × aa_V) (fun i s => ab_J G (ac_ST L xs) l (d + 6) 252 40 [some (.ref 105), some (.int i1), some (.int i2), some (.int i3), some (.long s.1), none, some (.int (nI i))] [] ac_SK s.2 ac_SK (aa_rL fun y W => Q (va_163 i1 i2 i3 V) y W)) (fun i s => s.1 = fo F i 0 ∧ sc V s.2) n ?_ ?_ 0 ((0 : Int64), V) (Nat.zero_le _) ⟨rfl, sc_r⟩
    · intro s hs
      obtain ⟨a, W⟩ := s
      obtain ⟨h1, h2⟩ := hs
      dsimp only at h1 h2 ⊢
      have e105 : W 105 48 = nI n := by rw [h2 105 rfl, p5, hn]
      refine iv_252_40 ⟨fun q => absurd q (zz_ge e105), fun _ => ?_⟩
      show Q _ _ W
      rw [key, ← h1]
      exact hQ _ _ (nv_z h2 hI)
    · intro i s hi hs ih
      obtain ⟨a, W⟩ := s
      obtain ⟨h1, h2⟩ := hs
      dsimp only at h1 h2 ⊢
      have e : (nI i).toNatClampNeg = i := zz_ix (by omega)
      have vi : vp_in (nI i) 24 := vp_in_nI (by omega) (by decide)
      have e105 : W 105 48 = nI n := by rw [h2 105 rfl, p5, hn]
      refine iv_252_40 ⟨fun _ => ?_, fun q => absurd (zz_gl e105 hi (by omega)) q⟩
      have e124 : W 124 = V 39 := (h2 124 rfl).trans a3
      have e125 : W 125 = V 40 := (h2 125 rfl).trans a4
      have e126 : W 126 = V 41 := (h2 126 rfl).trans a5
      have e111 : W 111 = V 33 := (h2 111 rfl).trans w8
      have e108 : W 108 = V 30 := (h2 108 rfl).trans w5
      have e133 : W 133 = V 49 := (h2 133 rfl).trans p13
      have e134 : W 134 = V 50 := (h2 134 rfl).trans p14
      have e135 : W 135 = V 51 := (h2 135 rfl).trans p15
      have e136 : W 136 = V 52 := (h2 136 rfl).trans p16
      have e137 : W 137 = V 53 := (h2 137 rfl).trans p17
      have ih' : ∀ b X, sc V X → b = F i a → ab_J G (ac_ST L xs) l (d + 6) 252 40 [some (.ref 105), some (.int i1), some (.int i2), some (.int i3), some (.long b), none, some (.int (nI i + 1))] [] ac_SK X ac_SK (aa_rL fun y W => Q (va_163 i1 i2 i3 V) y W) := fun b X hX hb => by
        have := ih (b, X) ⟨by rw [fo_s, ← h1]; exact hb, hX⟩
        rw [nI_succ] at this
        exact this
      rw [e, e133, e137, e136, e135, e134, e124, e111, e108, e125, e126]
      refine ⟨vi, fun c1 => ⟨vi, fun c2 => ih' _ _ h2 ?_, fun c2 => ⟨fun c3 => ⟨vi, ih' _ _ h2 ?_⟩, fun c3 => ⟨vi, vi, vpz (q9 _) (by decide) (by decide), vpz (a6 _) (by decide) (by decide), vpz (s4 _) (by decide) (by decide), vpz (q9 _) (by decide) (by decide), vpz (q9 _) (by decide) (by decide), ?_⟩⟩⟩, fun c1 => ih' _ _ h2 ?_⟩
      · rw [f0 _ _ (fun z => z.1 c2), Int64.add_zero]
      · rw [f1 _ _ ⟨c2, c1, Or.inl c3⟩]
      · refine sp_244 hI h2 (q8 _) (s1 _) (a8 _) (fun X hX => ?_)
        dsimp only [aa_rI]
        refine ⟨q87b, fun c4 => ⟨vi, ih' _ _ hX ?_⟩, fun c4 => ih' _ _ hX ?_⟩
        · rw [f1 _ _ ⟨c2, c1, Or.inr c4⟩, (hX 136 rfl).trans p16]
        · rw [f0 _ _ (fun z => z.2.2.elim c3 c4), Int64.add_zero]
      · rw [f0 _ _ (fun z => c1 z.2.1), Int64.add_zero]
