/-! literals -/
theorem zl_ne : ((1 : Int32) = 0) = False := by decide
theorem zl_m99 : (-99 : Int32).toInt = -99 := by decide
theorem zl_m5 : (-5 : Int32).toInt = -5 := by decide
theorem zl_m4 : (-4 : Int32).toInt = -4 := by decide
theorem zl_m3 : (-3 : Int32).toInt = -3 := by decide
theorem zl_m2 : (-2 : Int32).toInt = -2 := by decide
theorem zl_m1 : (-1 : Int32).toInt = -1 := by decide
theorem zl_0 : (0 : Int32).toInt = 0 := by decide
theorem zl_1 : (1 : Int32).toInt = 1 := by decide
theorem zl_2 : (2 : Int32).toInt = 2 := by decide
theorem zl_3 : (3 : Int32).toInt = 3 := by decide
theorem zl_4 : (4 : Int32).toInt = 4 := by decide
theorem zl_5 : (5 : Int32).toInt = 5 := by decide
theorem zl_6 : (6 : Int32).toInt = 6 := by decide
theorem zl_7 : (7 : Int32).toInt = 7 := by decide
theorem zl_8 : (8 : Int32).toInt = 8 := by decide
theorem zl_10 : (10 : Int32).toInt = 10 := by decide
theorem zl_11 : (11 : Int32).toInt = 11 := by decide
theorem zl_12 : (12 : Int32).toInt = 12 := by decide
theorem zl_20 : (20 : Int32).toInt = 20 := by decide
theorem zl_24 : (24 : Int32).toInt = 24 := by decide
theorem zl_30 : (30 : Int32).toInt = 30 := by decide
theorem zl_40 : (40 : Int32).toInt = 40 := by decide
theorem zl_60 : (60 : Int32).toInt = 60 := by decide
theorem zl_99 : (99 : Int32).toInt = 99 := by decide
theorem zl_399 : (399 : Int32).toInt = 399 := by decide
theorem zl_400 : (400 : Int32).toInt = 400 := by decide
theorem zl_999 : (999 : Int32).toInt = 999 := by decide
/-! values of both -/
theorem qv_126 {V : aa_V} (hw : nv_w V) : ∀ i, va_204 i V = va_126 i V := by
  intro i
  obtain ⟨⟨w1, w2, w3, w4⟩, ⟨w5, w6, w7, w8, w9, w10, w11, w12⟩, s1, s2, s3, s4, s5, s6, s7, s8⟩ := hw
  have h := s3 i.toNatClampNeg
  unfold va_204 va_126
  rw [w7, w9]
  obtain ⟨n, hn, hm⟩ := zb_i h
  rw [hn]
  have : n = 0 ∨ n = 1 ∨ n = 2 ∨ n = 3 ∨ n = 4 ∨ n = 5 := by omega
  rcases this with rfl | rfl | rfl | rfl | rfl | rfl
  · rfl
  · rfl
  · rfl
  · exact Int32.mul_comm _ _
  · rfl
  · exact Int32.mul_comm _ _
theorem qv_125 {V : aa_V} (hw : nv_w V) : ∀ i, va_205 i V = va_125 i V := by
  intro i
  obtain ⟨⟨w1, w2, w3, w4⟩, ⟨w5, w6, w7, w8, w9, w10, w11, w12⟩, s1, s2, s3, s4, s5, s6, s7, s8⟩ := hw
  have h := s3 i.toNatClampNeg
  unfold va_205 va_125
  rw [w7, w9, w10]
  obtain ⟨n, hn, hm⟩ := zb_i h
  rw [hn]
  have : n = 0 ∨ n = 1 ∨ n = 2 ∨ n = 3 ∨ n = 4 ∨ n = 5 := by omega
  rcases this with rfl | rfl | rfl | rfl | rfl | rfl <;> rfl
theorem qv_123 {V : aa_V} (hw : nv_w V) : ∀ i, va_275 i V = va_123 i V := by
  intro i
  obtain ⟨⟨w1, w2, w3, w4⟩, ⟨w5, w6, w7, w8, w9, w10, w11, w12⟩, s1, s2, s3, s4, s5, s6, s7, s8⟩ := hw
  unfold va_275 va_123 vl_275_4 vl_123_4
  rw [w3, w11]
  dsimp only
  refine fo_c (fun k hk a => ?_)
  by_cases c : V 36 k = i
  · rw [if_pos c, if_pos c]
  · rw [if_neg c, if_neg c, Int32.add_zero]
/-! the simple cases: printed by cs2.py -/
set_option maxRecDepth 20000 in
/-- F_pass -/
theorem cs_138 {G : ab_G} {L : Nat} {xs : Nat → Int32} {l : Launch} {d : Nat} {i1 : Int32} {V : aa_V} {Q : Int32 → Int32 → aa_V → Prop} (hI : nv V) (hQ : ∀ x W, nv W → Q x x W) :
    ab_E G (ac_ST L xs) l (d + 2) ac_SK 138 [.ref 0, .int i1] V (aa_rI fun x V1 => ab_E G (ac_ST L xs) l (d + 2) ac_SK 195 [.ref 105, .int i1] V1 (aa_rI fun y W => Q x y W)) := by
  have hI' := hI
  obtain ⟨hn, hr, hw, ha, hp, ho, hb, hk, hs, hf, ht⟩ := hI'
  have hn' := hn
  obtain ⟨n1, n2⟩ := hn'
  have n2r := zb_r n2 (by decide)
  have n2s := zb_sub1 n2 (by decide)
  have h5 : -1 < i1.toInt → i1.toInt < 61 → (V 0 13 + i1).toInt = (V 0 13).toInt + i1.toInt := by
    intro q1 q2
    rw [Int32.toInt_add]
    apply Int.bmod_eq_of_le <;> omega
  refine sp_138  ?_
  dsimp only [aa_rI, aa_rL]
  by_cases g1 : i1 < (1 : Int32)
  · have g1k := g1
    simp only [zz_lt, zz_eq, zl_m2, zl_m4, zl_0, zl_1, zl_399, zl_400, zl_60, n2s] at g1k
    have ev : va_138 i1 V = (-2 : Int32) := by simp only [va_138, if_pos g1]
    have en : vn_138 i1 V = V := by simp only [vn_138, if_pos g1]
    rw [ev, en]
    refine sp_195  ?_
    dsimp only [aa_rI, aa_rL]
    have j2 : (i1 < (1 : Int32)) := (by simp only [zz_lt, zz_eq, zl_m2, zl_m4, zl_0, zl_1, zl_399, zl_400, zl_60, n2s, n1] <;> omega)
    have em : va_195 i1 V = (-2 : Int32) := by simp only [va_195, if_pos j2]
    have eo : vn_195 i1 V = V := by simp only [vn_195, if_pos j2]
    rw [em, eo]
    refine hQ _ _ ?_
    exact hI
  · have g1k := g1
    simp only [zz_lt, zz_eq, zl_m2, zl_m4, zl_0, zl_1, zl_399, zl_400, zl_60, n2s] at g1k
    by_cases g3 : (60 : Int32) < i1
    · have g3k := g3
      simp only [zz_lt, zz_eq, zl_m2, zl_m4, zl_0, zl_1, zl_399, zl_400, zl_60, n2s] at g3k
      have ev : va_138 i1 V = (-2 : Int32) := by simp only [va_138, if_neg g1, if_pos g3]
      have en : vn_138 i1 V = V := by simp only [vn_138, if_neg g1, if_pos g3]
      rw [ev, en]
      refine sp_195  ?_
      dsimp only [aa_rI, aa_rL]
      have j4 : ¬ (i1 < (1 : Int32)) := (by simp only [zz_lt, zz_eq, zl_m2, zl_m4, zl_0, zl_1, zl_399, zl_400, zl_60, n2s, n1] <;> omega)
      have j5 : ((60 : Int32) < i1) := (by simp only [zz_lt, zz_eq, zl_m2, zl_m4, zl_0, zl_1, zl_399, zl_400, zl_60, n2s, n1] <;> omega)
      have em : va_195 i1 V = (-2 : Int32) := by simp only [va_195, if_neg j4, if_pos j5]
      have eo : vn_195 i1 V = V := by simp only [vn_195, if_neg j4, if_pos j5]
      rw [em, eo]
      refine hQ _ _ ?_
      exact hI
    · have g3k := g3
      simp only [zz_lt, zz_eq, zl_m2, zl_m4, zl_0, zl_1, zl_399, zl_400, zl_60, n2s] at g3k
      by_cases g6 : ((V 0 13) + i1) < (400 : Int32)
      · have g6k := g6
        simp only [zz_lt, zz_eq, zl_m2, zl_m4, zl_0, zl_1, zl_399, zl_400, zl_60, n2s] at g6k
        have ev : va_138 i1 V = ((V 0 13) + i1) := by simp only [va_138, if_neg g1, if_neg g3, if_pos g6]
        have en : vn_138 i1 V = (aa_up V 0 13 ((V 0 13) + i1)) := by simp only [vn_138, if_neg g1, if_neg g3, if_pos g6]
        rw [ev, en]
        obtain ⟨W, hWe⟩ : ∃ W, W = (aa_up V 0 13 ((V 0 13) + i1)) := ⟨_, rfl⟩
        have hW : ∀ c, 104 < c → W c = V c := fun c hc => by rw [hWe, aa_up_c (by omega)]
        rw [← hWe]
        refine sp_195  ?_
        dsimp only [aa_rI, aa_rL]
        have j7 : ¬ (i1 < (1 : Int32)) := (by simp only [zz_lt, zz_eq, zl_m2, zl_m4, zl_0, zl_1, zl_399, zl_400, zl_60, n2s, hW 105 (by decide), n1] <;> omega)
        have j8 : ¬ ((60 : Int32) < i1) := (by simp only [zz_lt, zz_eq, zl_m2, zl_m4, zl_0, zl_1, zl_399, zl_400, zl_60, n2s, hW 105 (by decide), n1] <;> omega)
        have j9 : ¬ ((399 : Int32) < ((W 105 2) + i1)) := (by simp only [zz_lt, zz_eq, zl_m2, zl_m4, zl_0, zl_1, zl_399, zl_400, zl_60, n2s, hW 105 (by decide), n1] <;> omega)
        have em : va_195 i1 W = ((W 105 2) + i1) := by simp only [va_195, if_neg j7, if_neg j8, if_neg j9]
        have eo : vn_195 i1 W = (aa_up W 105 2 ((W 105 2) + i1)) := by simp only [vn_195, if_neg j7, if_neg j8, if_neg j9]
        rw [em, eo]
        have ex : ((W 105 2) + i1) = ((V 0 13) + i1) := by simp only [hW 105 (by decide), n1]
        rw [ex]
        refine hQ _ _ ?_
        try simp only [hW 105 (by decide), n1]
        rw [hWe]
        refine ⟨?_, nv_rc (V := V) (fun c _ _ => by rw [aa_up_c (by omega), aa_up_c (by omega)]) rfl hr, hw, ha, hp, ho, hb, nv_kc (V := V) (fun c _ _ => by rw [aa_up_c (by omega), aa_up_c (by omega)]) rfl rfl rfl hk, nv_sc (V := V) (fun c _ _ => by rw [aa_up_c (by omega), aa_up_c (by omega)]) rfl rfl rfl rfl rfl hs, hf, nv_tx (V := V) (fun c _ _ => by rw [aa_up_c (by omega), aa_up_c (by omega)]) rfl rfl rfl rfl rfl rfl rfl rfl rfl ht⟩
        have h6 : zb (V 0 13 + i1) 399 := zb_of_r (by rw [h5] <;> omega) (by rw [h5] <;> omega) (by decide)
        exact ⟨rfl, h6⟩
      · have g6k := g6
        simp only [zz_lt, zz_eq, zl_m2, zl_m4, zl_0, zl_1, zl_399, zl_400, zl_60, n2s] at g6k
        have ev : va_138 i1 V = (-4 : Int32) := by simp only [va_138, if_neg g1, if_neg g3, if_neg g6]
        have en : vn_138 i1 V = V := by simp only [vn_138, if_neg g1, if_neg g3, if_neg g6]
        rw [ev, en]
        refine sp_195  ?_
        dsimp only [aa_rI, aa_rL]
        have j10 : ¬ (i1 < (1 : Int32)) := (by simp only [zz_lt, zz_eq, zl_m2, zl_m4, zl_0, zl_1, zl_399, zl_400, zl_60, n2s, n1] <;> omega)
        have j11 : ¬ ((60 : Int32) < i1) := (by simp only [zz_lt, zz_eq, zl_m2, zl_m4, zl_0, zl_1, zl_399, zl_400, zl_60, n2s, n1] <;> omega)
        have j12 : ((399 : Int32) < ((V 105 2) + i1)) := (by simp only [zz_lt, zz_eq, zl_m2, zl_m4, zl_0, zl_1, zl_399, zl_400, zl_60, n2s, n1] <;> omega)
        have em : va_195 i1 V = (-4 : Int32) := by simp only [va_195, if_neg j10, if_neg j11, if_pos j12]
        have eo : vn_195 i1 V = V := by simp only [vn_195, if_neg j10, if_neg j11, if_pos j12]
        rw [em, eo]
        refine hQ _ _ ?_
        exact hI

set_option maxRecDepth 20000 in
/-- F_shop -/
theorem cs_141 {G : ab_G} {L : Nat} {xs : Nat → Int32} {l : Launch} {d : Nat} {i1 : Int32} {i2 : Int32} {V : aa_V} {Q : Int32 → Int32 → aa_V → Prop} (hI : nv V) (hQ : ∀ x W, nv W → Q x x W) :
    ab_E G (ac_ST L xs) l (d + 3) ac_SK 141 [.ref 0, .int i1, .int i2] V (aa_rI fun x V1 => ab_E G (ac_ST L xs) l (d + 2) ac_SK 201 [.ref 105, .int i1, .int i2] V1 (aa_rI fun y W => Q x y W)) := by
  have hI' := hI
  obtain ⟨hn, hr, hw, ha, hp, ho, hb, hk, hs, hf, ht⟩ := hI'
  have hw' := hw
  obtain ⟨⟨w1, w2, w3, w4⟩, ⟨w5, w6, w7, w8, w9, w10, w11, w12⟩, s1, s2, s3, s4, s5, s6, s7, s8⟩ := hw'
  have w2r := zb_r w2 (by decide)
  have w2s := zb_sub1 w2 (by decide)
  have w4r := zb_r w4 (by decide)
  have w4s := zb_sub1 w4 (by decide)
  refine sp_141 (fun q1 q2 q3 q4 q5 => by
    simp only [zz_lt, zz_eq, zl_m2, zl_m4, zl_0, zl_1, zl_7, zl_8, zl_99, w2s, w4s] at q1 q2 q3 q4 q5
    refine vp_of_r ?_ ?_ <;> omega) ?_
  dsimp only [aa_rI, aa_rL]
  by_cases g1 : i1 < (0 : Int32)
  · have g1k := g1
    simp only [zz_lt, zz_eq, zl_m2, zl_m4, zl_0, zl_1, zl_7, zl_8, zl_99, w2s, w4s] at g1k
    have ev : va_141 i1 i2 V = (-2 : Int32) := by simp only [va_141, if_pos g1]
    have en : vn_141 i1 i2 V = V := by simp only [vn_141, if_pos g1]
    rw [ev, en]
    refine sp_201 (fun q1 q2 q3 q4 q5 => by
      simp only [zz_lt, zz_eq, zl_m2, zl_m4, zl_0, zl_1, zl_7, zl_8, zl_99, w2s, w4s, w1, w3, w5, w6, w7, w8, w9, w10, w11, w12] at q1 q2 q3 q4 q5
      try simp only [w1, w3, w5, w6, w7, w8, w9, w10, w11, w12]
      refine vp_of_r ?_ ?_ <;> omega) ?_
    dsimp only [aa_rI, aa_rL]
    have j2 : (i1 < 0) := (by simp only [zz_lt, zz_eq, zl_m2, zl_m4, zl_0, zl_1, zl_7, zl_8, zl_99, w2s, w4s, w1, w3, w5, w6, w7, w8, w9, w10, w11, w12] <;> omega)
    have em : va_201 i1 i2 V = (-2 : Int32) := by simp only [va_201, if_pos j2]
    have eo : vn_201 i1 i2 V = V := by simp only [vn_201, if_pos j2]
    rw [em, eo]
    refine hQ _ _ ?_
    exact hI
  · have g1k := g1
    simp only [zz_lt, zz_eq, zl_m2, zl_m4, zl_0, zl_1, zl_7, zl_8, zl_99, w2s, w4s] at g1k
    by_cases g3 : (7 : Int32) < i1
    · have g3k := g3
      simp only [zz_lt, zz_eq, zl_m2, zl_m4, zl_0, zl_1, zl_7, zl_8, zl_99, w2s, w4s] at g3k
      have ev : va_141 i1 i2 V = (-2 : Int32) := by simp only [va_141, if_neg g1, if_pos g3]
      have en : vn_141 i1 i2 V = V := by simp only [vn_141, if_neg g1, if_pos g3]
      rw [ev, en]
      refine sp_201 (fun q1 q2 q3 q4 q5 => by
        simp only [zz_lt, zz_eq, zl_m2, zl_m4, zl_0, zl_1, zl_7, zl_8, zl_99, w2s, w4s, w1, w3, w5, w6, w7, w8, w9, w10, w11, w12] at q1 q2 q3 q4 q5
        try simp only [w1, w3, w5, w6, w7, w8, w9, w10, w11, w12]
        refine vp_of_r ?_ ?_ <;> omega) ?_
      dsimp only [aa_rI, aa_rL]
      have j4 : ¬ (i1 < 0) := (by simp only [zz_lt, zz_eq, zl_m2, zl_m4, zl_0, zl_1, zl_7, zl_8, zl_99, w2s, w4s, w1, w3, w5, w6, w7, w8, w9, w10, w11, w12] <;> omega)
      have j5 : ¬ (i1 < (8 : Int32)) := (by simp only [zz_lt, zz_eq, zl_m2, zl_m4, zl_0, zl_1, zl_7, zl_8, zl_99, w2s, w4s, w1, w3, w5, w6, w7, w8, w9, w10, w11, w12] <;> omega)
      have em : va_201 i1 i2 V = (-2 : Int32) := by simp only [va_201, if_neg j4, if_neg j5]
      have eo : vn_201 i1 i2 V = V := by simp only [vn_201, if_neg j4, if_neg j5]
      rw [em, eo]
      refine hQ _ _ ?_
      exact hI
    · have g3k := g3
      simp only [zz_lt, zz_eq, zl_m2, zl_m4, zl_0, zl_1, zl_7, zl_8, zl_99, w2s, w4s] at g3k
      by_cases g6 : i2 < (0 : Int32)
      · have g6k := g6
        simp only [zz_lt, zz_eq, zl_m2, zl_m4, zl_0, zl_1, zl_7, zl_8, zl_99, w2s, w4s] at g6k
        have ev : va_141 i1 i2 V = (-2 : Int32) := by simp only [va_141, if_neg g1, if_neg g3, if_pos g6]
        have en : vn_141 i1 i2 V = V := by simp only [vn_141, if_neg g1, if_neg g3, if_pos g6]
        rw [ev, en]
        refine sp_201 (fun q1 q2 q3 q4 q5 => by
          simp only [zz_lt, zz_eq, zl_m2, zl_m4, zl_0, zl_1, zl_7, zl_8, zl_99, w2s, w4s, w1, w3, w5, w6, w7, w8, w9, w10, w11, w12] at q1 q2 q3 q4 q5
          try simp only [w1, w3, w5, w6, w7, w8, w9, w10, w11, w12]
          refine vp_of_r ?_ ?_ <;> omega) ?_
        dsimp only [aa_rI, aa_rL]
        have j7 : ¬ (i1 < 0) := (by simp only [zz_lt, zz_eq, zl_m2, zl_m4, zl_0, zl_1, zl_7, zl_8, zl_99, w2s, w4s, w1, w3, w5, w6, w7, w8, w9, w10, w11, w12] <;> omega)
        have j8 : (i1 < (8 : Int32)) := (by simp only [zz_lt, zz_eq, zl_m2, zl_m4, zl_0, zl_1, zl_7, zl_8, zl_99, w2s, w4s, w1, w3, w5, w6, w7, w8, w9, w10, w11, w12] <;> omega)
        have j9 : (i2 < (0 : Int32)) := (by simp only [zz_lt, zz_eq, zl_m2, zl_m4, zl_0, zl_1, zl_7, zl_8, zl_99, w2s, w4s, w1, w3, w5, w6, w7, w8, w9, w10, w11, w12] <;> omega)
        have em : va_201 i1 i2 V = (-2 : Int32) := by simp only [va_201, if_neg j7, if_pos j8, if_pos j9]
        have eo : vn_201 i1 i2 V = V := by simp only [vn_201, if_neg j7, if_pos j8, if_pos j9]
        rw [em, eo]
        refine hQ _ _ ?_
        exact hI
      · have g6k := g6
        simp only [zz_lt, zz_eq, zl_m2, zl_m4, zl_0, zl_1, zl_7, zl_8, zl_99, w2s, w4s] at g6k
        by_cases g10 : (99 : Int32) < i2
        · have g10k := g10
          simp only [zz_lt, zz_eq, zl_m2, zl_m4, zl_0, zl_1, zl_7, zl_8, zl_99, w2s, w4s] at g10k
          have ev : va_141 i1 i2 V = (-2 : Int32) := by simp only [va_141, if_neg g1, if_neg g3, if_neg g6, if_pos g10]
          have en : vn_141 i1 i2 V = V := by simp only [vn_141, if_neg g1, if_neg g3, if_neg g6, if_pos g10]
          rw [ev, en]
          refine sp_201 (fun q1 q2 q3 q4 q5 => by
            simp only [zz_lt, zz_eq, zl_m2, zl_m4, zl_0, zl_1, zl_7, zl_8, zl_99, w2s, w4s, w1, w3, w5, w6, w7, w8, w9, w10, w11, w12] at q1 q2 q3 q4 q5
            try simp only [w1, w3, w5, w6, w7, w8, w9, w10, w11, w12]
            refine vp_of_r ?_ ?_ <;> omega) ?_
          dsimp only [aa_rI, aa_rL]
          have j11 : ¬ (i1 < 0) := (by simp only [zz_lt, zz_eq, zl_m2, zl_m4, zl_0, zl_1, zl_7, zl_8, zl_99, w2s, w4s, w1, w3, w5, w6, w7, w8, w9, w10, w11, w12] <;> omega)
          have j12 : (i1 < (8 : Int32)) := (by simp only [zz_lt, zz_eq, zl_m2, zl_m4, zl_0, zl_1, zl_7, zl_8, zl_99, w2s, w4s, w1, w3, w5, w6, w7, w8, w9, w10, w11, w12] <;> omega)
          have j13 : ¬ (i2 < (0 : Int32)) := (by simp only [zz_lt, zz_eq, zl_m2, zl_m4, zl_0, zl_1, zl_7, zl_8, zl_99, w2s, w4s, w1, w3, w5, w6, w7, w8, w9, w10, w11, w12] <;> omega)
          have j14 : ((99 : Int32) < i2) := (by simp only [zz_lt, zz_eq, zl_m2, zl_m4, zl_0, zl_1, zl_7, zl_8, zl_99, w2s, w4s, w1, w3, w5, w6, w7, w8, w9, w10, w11, w12] <;> omega)
          have em : va_201 i1 i2 V = (-2 : Int32) := by simp only [va_201, if_neg j11, if_pos j12, if_neg j13, if_pos j14]
          have eo : vn_201 i1 i2 V = V := by simp only [vn_201, if_neg j11, if_pos j12, if_neg j13, if_pos j14]
          rw [em, eo]
          refine hQ _ _ ?_
          exact hI
        · have g10k := g10
          simp only [zz_lt, zz_eq, zl_m2, zl_m4, zl_0, zl_1, zl_7, zl_8, zl_99, w2s, w4s] at g10k
          by_cases g15 : (V 29 0) < (8 : Int32)
          · have g15k := g15
            simp only [zz_lt, zz_eq, zl_m2, zl_m4, zl_0, zl_1, zl_7, zl_8, zl_99, w2s, w4s] at g15k
            have ev : va_141 i1 i2 V = (((V 29 0) + (1 : Int32)) - (1 : Int32)) := by simp only [va_141, if_neg g1, if_neg g3, if_neg g6, if_neg g10, if_pos g15]
            have en : vn_141 i1 i2 V = (aa_up (aa_up (aa_up V 30 (((V 29 0)).toNatClampNeg) i1) 31 (((V 29 0)).toNatClampNeg) i2) 29 0 ((V 29 0) + (1 : Int32))) := by simp only [vn_141, if_neg g1, if_neg g3, if_neg g6, if_neg g10, if_pos g15]
            rw [ev, en]
            obtain ⟨W, hWe⟩ : ∃ W, W = (aa_up (aa_up (aa_up V 30 (((V 29 0)).toNatClampNeg) i1) 31 (((V 29 0)).toNatClampNeg) i2) 29 0 ((V 29 0) + (1 : Int32))) := ⟨_, rfl⟩
            have hW : ∀ c, 104 < c → W c = V c := fun c hc => by rw [hWe, aa_up_c (by omega), aa_up_c (by omega), aa_up_c (by omega)]
            rw [← hWe]
            refine sp_201 (fun q1 q2 q3 q4 q5 => by
              simp only [zz_lt, zz_eq, zl_m2, zl_m4, zl_0, zl_1, zl_7, zl_8, zl_99, w2s, w4s, hW 105 (by decide), hW 108 (by decide), hW 109 (by decide), hW 110 (by decide), hW 111 (by decide), hW 112 (by decide), hW 113 (by decide), hW 114 (by decide), hW 115 (by decide), w1, w3, w5, w6, w7, w8, w9, w10, w11, w12] at q1 q2 q3 q4 q5
              try simp only [w1, w3, w5, w6, w7, w8, w9, w10, w11, w12, hW 105 (by decide), hW 108 (by decide), hW 109 (by decide), hW 110 (by decide), hW 111 (by decide), hW 112 (by decide), hW 113 (by decide), hW 114 (by decide), hW 115 (by decide)]
              refine vp_of_r ?_ ?_ <;> omega) ?_
            dsimp only [aa_rI, aa_rL]
            have j16 : ¬ (i1 < 0) := (by simp only [zz_lt, zz_eq, zl_m2, zl_m4, zl_0, zl_1, zl_7, zl_8, zl_99, w2s, w4s, hW 105 (by decide), hW 108 (by decide), hW 109 (by decide), hW 110 (by decide), hW 111 (by decide), hW 112 (by decide), hW 113 (by decide), hW 114 (by decide), hW 115 (by decide), w1, w3, w5, w6, w7, w8, w9, w10, w11, w12] <;> omega)
            have j17 : (i1 < (8 : Int32)) := (by simp only [zz_lt, zz_eq, zl_m2, zl_m4, zl_0, zl_1, zl_7, zl_8, zl_99, w2s, w4s, hW 105 (by decide), hW 108 (by decide), hW 109 (by decide), hW 110 (by decide), hW 111 (by decide), hW 112 (by decide), hW 113 (by decide), hW 114 (by decide), hW 115 (by decide), w1, w3, w5, w6, w7, w8, w9, w10, w11, w12] <;> omega)
            have j18 : ¬ (i2 < (0 : Int32)) := (by simp only [zz_lt, zz_eq, zl_m2, zl_m4, zl_0, zl_1, zl_7, zl_8, zl_99, w2s, w4s, hW 105 (by decide), hW 108 (by decide), hW 109 (by decide), hW 110 (by decide), hW 111 (by decide), hW 112 (by decide), hW 113 (by decide), hW 114 (by decide), hW 115 (by decide), w1, w3, w5, w6, w7, w8, w9, w10, w11, w12] <;> omega)
            have j19 : ¬ ((99 : Int32) < i2) := (by simp only [zz_lt, zz_eq, zl_m2, zl_m4, zl_0, zl_1, zl_7, zl_8, zl_99, w2s, w4s, hW 105 (by decide), hW 108 (by decide), hW 109 (by decide), hW 110 (by decide), hW 111 (by decide), hW 112 (by decide), hW 113 (by decide), hW 114 (by decide), hW 115 (by decide), w1, w3, w5, w6, w7, w8, w9, w10, w11, w12] <;> omega)
            have j20 : ¬ ((W 105 11) = (8 : Int32)) := (by simp only [zz_lt, zz_eq, zl_m2, zl_m4, zl_0, zl_1, zl_7, zl_8, zl_99, w2s, w4s, hW 105 (by decide), hW 108 (by decide), hW 109 (by decide), hW 110 (by decide), hW 111 (by decide), hW 112 (by decide), hW 113 (by decide), hW 114 (by decide), hW 115 (by decide), w1, w3, w5, w6, w7, w8, w9, w10, w11, w12] <;> omega)
            have em : va_201 i1 i2 W = (((W 105 11) + (1 : Int32)) - (1 : Int32)) := by simp only [va_201, if_neg j16, if_pos j17, if_neg j18, if_neg j19, if_neg j20]
            have eo : vn_201 i1 i2 W = (aa_up (aa_up (aa_up W 108 (((W 105 11)).toNatClampNeg) i1) 109 (((W 105 11)).toNatClampNeg) i2) 105 11 ((W 105 11) + (1 : Int32))) := by simp only [vn_201, if_neg j16, if_pos j17, if_neg j18, if_neg j19, if_neg j20]
            rw [em, eo]
            have ex : (((W 105 11) + (1 : Int32)) - (1 : Int32)) = (((V 29 0) + (1 : Int32)) - (1 : Int32)) := by simp only [hW 105 (by decide), hW 108 (by decide), hW 109 (by decide), hW 110 (by decide), hW 111 (by decide), hW 112 (by decide), hW 113 (by decide), hW 114 (by decide), hW 115 (by decide), w1, w3, w5, w6, w7, w8, w9, w10, w11, w12]
            rw [ex]
            refine hQ _ _ ?_
            try simp only [hW 105 (by decide), hW 108 (by decide), hW 109 (by decide), hW 110 (by decide), hW 111 (by decide), hW 112 (by decide), hW 113 (by decide), hW 114 (by decide), hW 115 (by decide), w1, w3, w5, w6, w7, w8, w9, w10, w11, w12]
            rw [hWe]
            have z1 : zb i1 7 := zb_of_r (by omega) (by omega) (by decide)
            have z2 : zb i2 99 := zb_of_r (by omega) (by omega) (by decide)
            refine ⟨hn, nv_rc (V := V) (fun c _ _ => by rw [aa_up_c (by omega), aa_up_c (by omega), aa_up_c (by omega), aa_up_c (by omega), aa_up_c (by omega), aa_up_c (by omega)]) rfl hr, ?_, ha, hp, ho, hb, nv_kc (V := V) (fun c _ _ => by rw [aa_up_c (by omega), aa_up_c (by omega), aa_up_c (by omega), aa_up_c (by omega), aa_up_c (by omega), aa_up_c (by omega)]) rfl rfl rfl hk, nv_sc (V := V) (fun c _ _ => by rw [aa_up_c (by omega), aa_up_c (by omega), aa_up_c (by omega), aa_up_c (by omega), aa_up_c (by omega), aa_up_c (by omega)]) rfl rfl rfl rfl rfl hs, hf, nv_tx (V := V) (fun c _ _ => by rw [aa_up_c (by omega), aa_up_c (by omega), aa_up_c (by omega), aa_up_c (by omega), aa_up_c (by omega), aa_up_c (by omega)]) rfl rfl rfl rfl rfl rfl rfl rfl rfl ht⟩
            exact ⟨⟨rfl, zb_up w2 (by omega) (by decide), w3, w4⟩, ⟨(show upd (V 108) (V 29 0).toNatClampNeg i1 = upd (V 30) (V 29 0).toNatClampNeg i1 from upd_eq w5), (show upd (V 109) (V 29 0).toNatClampNeg i2 = upd (V 31) (V 29 0).toNatClampNeg i2 from upd_eq w6), w7, w8, w9, w10, w11, w12⟩, (show ∀ i, zb (upd (V 30) (V 29 0).toNatClampNeg i1 i) 7 from zb_upd s1 z1), (show ∀ i, zb (upd (V 31) (V 29 0).toNatClampNeg i2 i) 99 from zb_upd s2 z2), s3, s4, s5, s6, s7, s8⟩
          · have g15k := g15
            simp only [zz_lt, zz_eq, zl_m2, zl_m4, zl_0, zl_1, zl_7, zl_8, zl_99, w2s, w4s] at g15k
            have ev : va_141 i1 i2 V = (-4 : Int32) := by simp only [va_141, if_neg g1, if_neg g3, if_neg g6, if_neg g10, if_neg g15]
            have en : vn_141 i1 i2 V = V := by simp only [vn_141, if_neg g1, if_neg g3, if_neg g6, if_neg g10, if_neg g15]
            rw [ev, en]
            refine sp_201 (fun q1 q2 q3 q4 q5 => by
              simp only [zz_lt, zz_eq, zl_m2, zl_m4, zl_0, zl_1, zl_7, zl_8, zl_99, w2s, w4s, w1, w3, w5, w6, w7, w8, w9, w10, w11, w12] at q1 q2 q3 q4 q5
              try simp only [w1, w3, w5, w6, w7, w8, w9, w10, w11, w12]
              refine vp_of_r ?_ ?_ <;> omega) ?_
            dsimp only [aa_rI, aa_rL]
            have j21 : ¬ (i1 < 0) := (by simp only [zz_lt, zz_eq, zl_m2, zl_m4, zl_0, zl_1, zl_7, zl_8, zl_99, w2s, w4s, w1, w3, w5, w6, w7, w8, w9, w10, w11, w12] <;> omega)
            have j22 : (i1 < (8 : Int32)) := (by simp only [zz_lt, zz_eq, zl_m2, zl_m4, zl_0, zl_1, zl_7, zl_8, zl_99, w2s, w4s, w1, w3, w5, w6, w7, w8, w9, w10, w11, w12] <;> omega)
            have j23 : ¬ (i2 < (0 : Int32)) := (by simp only [zz_lt, zz_eq, zl_m2, zl_m4, zl_0, zl_1, zl_7, zl_8, zl_99, w2s, w4s, w1, w3, w5, w6, w7, w8, w9, w10, w11, w12] <;> omega)
            have j24 : ¬ ((99 : Int32) < i2) := (by simp only [zz_lt, zz_eq, zl_m2, zl_m4, zl_0, zl_1, zl_7, zl_8, zl_99, w2s, w4s, w1, w3, w5, w6, w7, w8, w9, w10, w11, w12] <;> omega)
            have j25 : ((V 105 11) = (8 : Int32)) := (by simp only [zz_lt, zz_eq, zl_m2, zl_m4, zl_0, zl_1, zl_7, zl_8, zl_99, w2s, w4s, w1, w3, w5, w6, w7, w8, w9, w10, w11, w12] <;> omega)
            have em : va_201 i1 i2 V = (-4 : Int32) := by simp only [va_201, if_neg j21, if_pos j22, if_neg j23, if_neg j24, if_pos j25]
            have eo : vn_201 i1 i2 V = V := by simp only [vn_201, if_neg j21, if_pos j22, if_neg j23, if_neg j24, if_pos j25]
            rw [em, eo]
            refine hQ _ _ ?_
            exact hI

set_option maxRecDepth 20000 in
/-- F_pays -/
theorem cs_142 {G : ab_G} {L : Nat} {xs : Nat → Int32} {l : Launch} {d : Nat} {i1 : Int32} {i2 : Int32} {V : aa_V} {Q : Int32 → Int32 → aa_V → Prop} (hI : nv V) (hQ : ∀ x W, nv W → Q x x W) :
    ab_E G (ac_ST L xs) l (d + 3) ac_SK 142 [.ref 0, .int i1, .int i2] V (aa_rI fun x V1 => ab_E G (ac_ST L xs) l (d + 2) ac_SK 202 [.ref 105, .int i1, .int i2] V1 (aa_rI fun y W => Q x y W)) := by
  have hI' := hI
  obtain ⟨hn, hr, hw, ha, hp, ho, hb, hk, hs, hf, ht⟩ := hI'
  have hw' := hw
  obtain ⟨⟨w1, w2, w3, w4⟩, ⟨w5, w6, w7, w8, w9, w10, w11, w12⟩, s1, s2, s3, s4, s5, s6, s7, s8⟩ := hw'
  have w2r := zb_r w2 (by decide)
  have w2s := zb_sub1 w2 (by decide)
  have w4r := zb_r w4 (by decide)
  have w4s := zb_sub1 w4 (by decide)
  refine sp_142 (fun q1 q2 q3 q4 => by
    simp only [zz_lt, zz_eq, zl_m2, zl_0, zl_1, zl_99, w2s, w4s] at q1 q2 q3 q4
    refine vp_of_r ?_ ?_ <;> omega) ?_
  dsimp only [aa_rI, aa_rL]
  by_cases g1 : i1 < (0 : Int32)
  · have g1k := g1
    simp only [zz_lt, zz_eq, zl_m2, zl_0, zl_1, zl_99, w2s, w4s] at g1k
    have ev : va_142 i1 i2 V = (-2 : Int32) := by simp only [va_142, if_pos g1]
    have en : vn_142 i1 i2 V = V := by simp only [vn_142, if_pos g1]
    rw [ev, en]
    refine sp_202 (fun q1 q2 q3 q4 => by
      simp only [zz_lt, zz_eq, zl_m2, zl_0, zl_1, zl_99, w2s, w4s, w1, w3, w5, w6, w7, w8, w9, w10, w11, w12] at q1 q2 q3 q4
      try simp only [w1, w3, w5, w6, w7, w8, w9, w10, w11, w12]
      refine vp_of_r ?_ ?_ <;> omega) ?_
    dsimp only [aa_rI, aa_rL]
    have j2 : (i1 < 0) := (by simp only [zz_lt, zz_eq, zl_m2, zl_0, zl_1, zl_99, w2s, w4s, w1, w3, w5, w6, w7, w8, w9, w10, w11, w12] <;> omega)
    have em : va_202 i1 i2 V = (-2 : Int32) := by simp only [va_202, if_pos j2]
    have eo : vn_202 i1 i2 V = V := by simp only [vn_202, if_pos j2]
    rw [em, eo]
    refine hQ _ _ ?_
    exact hI
  · have g1k := g1
    simp only [zz_lt, zz_eq, zl_m2, zl_0, zl_1, zl_99, w2s, w4s] at g1k
    by_cases g3 : ((V 29 0) - (1 : Int32)) < i1
    · have g3k := g3
      simp only [zz_lt, zz_eq, zl_m2, zl_0, zl_1, zl_99, w2s, w4s] at g3k
      have ev : va_142 i1 i2 V = (-2 : Int32) := by simp only [va_142, if_neg g1, if_pos g3]
      have en : vn_142 i1 i2 V = V := by simp only [vn_142, if_neg g1, if_pos g3]
      rw [ev, en]
      refine sp_202 (fun q1 q2 q3 q4 => by
        simp only [zz_lt, zz_eq, zl_m2, zl_0, zl_1, zl_99, w2s, w4s, w1, w3, w5, w6, w7, w8, w9, w10, w11, w12] at q1 q2 q3 q4
        try simp only [w1, w3, w5, w6, w7, w8, w9, w10, w11, w12]
        refine vp_of_r ?_ ?_ <;> omega) ?_
      dsimp only [aa_rI, aa_rL]
      have j4 : ¬ (i1 < 0) := (by simp only [zz_lt, zz_eq, zl_m2, zl_0, zl_1, zl_99, w2s, w4s, w1, w3, w5, w6, w7, w8, w9, w10, w11, w12] <;> omega)
      have j5 : ¬ (i1 < (V 105 11)) := (by simp only [zz_lt, zz_eq, zl_m2, zl_0, zl_1, zl_99, w2s, w4s, w1, w3, w5, w6, w7, w8, w9, w10, w11, w12] <;> omega)
      have em : va_202 i1 i2 V = (-2 : Int32) := by simp only [va_202, if_neg j4, if_neg j5]
      have eo : vn_202 i1 i2 V = V := by simp only [vn_202, if_neg j4, if_neg j5]
      rw [em, eo]
      refine hQ _ _ ?_
      exact hI
    · have g3k := g3
      simp only [zz_lt, zz_eq, zl_m2, zl_0, zl_1, zl_99, w2s, w4s] at g3k
      by_cases g6 : i2 < (0 : Int32)
      · have g6k := g6
        simp only [zz_lt, zz_eq, zl_m2, zl_0, zl_1, zl_99, w2s, w4s] at g6k
        have ev : va_142 i1 i2 V = (-2 : Int32) := by simp only [va_142, if_neg g1, if_neg g3, if_pos g6]
        have en : vn_142 i1 i2 V = V := by simp only [vn_142, if_neg g1, if_neg g3, if_pos g6]
        rw [ev, en]
        refine sp_202 (fun q1 q2 q3 q4 => by
          simp only [zz_lt, zz_eq, zl_m2, zl_0, zl_1, zl_99, w2s, w4s, w1, w3, w5, w6, w7, w8, w9, w10, w11, w12] at q1 q2 q3 q4
          try simp only [w1, w3, w5, w6, w7, w8, w9, w10, w11, w12]
          refine vp_of_r ?_ ?_ <;> omega) ?_
        dsimp only [aa_rI, aa_rL]
        have j7 : ¬ (i1 < 0) := (by simp only [zz_lt, zz_eq, zl_m2, zl_0, zl_1, zl_99, w2s, w4s, w1, w3, w5, w6, w7, w8, w9, w10, w11, w12] <;> omega)
        have j8 : (i1 < (V 105 11)) := (by simp only [zz_lt, zz_eq, zl_m2, zl_0, zl_1, zl_99, w2s, w4s, w1, w3, w5, w6, w7, w8, w9, w10, w11, w12] <;> omega)
        have j9 : (i2 < (0 : Int32)) := (by simp only [zz_lt, zz_eq, zl_m2, zl_0, zl_1, zl_99, w2s, w4s, w1, w3, w5, w6, w7, w8, w9, w10, w11, w12] <;> omega)
        have em : va_202 i1 i2 V = (-2 : Int32) := by simp only [va_202, if_neg j7, if_pos j8, if_pos j9]
        have eo : vn_202 i1 i2 V = V := by simp only [vn_202, if_neg j7, if_pos j8, if_pos j9]
        rw [em, eo]
        refine hQ _ _ ?_
        exact hI
      · have g6k := g6
        simp only [zz_lt, zz_eq, zl_m2, zl_0, zl_1, zl_99, w2s, w4s] at g6k
        by_cases g10 : (99 : Int32) < i2
        · have g10k := g10
          simp only [zz_lt, zz_eq, zl_m2, zl_0, zl_1, zl_99, w2s, w4s] at g10k
          have ev : va_142 i1 i2 V = (-2 : Int32) := by simp only [va_142, if_neg g1, if_neg g3, if_neg g6, if_pos g10]
          have en : vn_142 i1 i2 V = V := by simp only [vn_142, if_neg g1, if_neg g3, if_neg g6, if_pos g10]
          rw [ev, en]
          refine sp_202 (fun q1 q2 q3 q4 => by
            simp only [zz_lt, zz_eq, zl_m2, zl_0, zl_1, zl_99, w2s, w4s, w1, w3, w5, w6, w7, w8, w9, w10, w11, w12] at q1 q2 q3 q4
            try simp only [w1, w3, w5, w6, w7, w8, w9, w10, w11, w12]
            refine vp_of_r ?_ ?_ <;> omega) ?_
          dsimp only [aa_rI, aa_rL]
          have j11 : ¬ (i1 < 0) := (by simp only [zz_lt, zz_eq, zl_m2, zl_0, zl_1, zl_99, w2s, w4s, w1, w3, w5, w6, w7, w8, w9, w10, w11, w12] <;> omega)
          have j12 : (i1 < (V 105 11)) := (by simp only [zz_lt, zz_eq, zl_m2, zl_0, zl_1, zl_99, w2s, w4s, w1, w3, w5, w6, w7, w8, w9, w10, w11, w12] <;> omega)
          have j13 : ¬ (i2 < (0 : Int32)) := (by simp only [zz_lt, zz_eq, zl_m2, zl_0, zl_1, zl_99, w2s, w4s, w1, w3, w5, w6, w7, w8, w9, w10, w11, w12] <;> omega)
          have j14 : ((99 : Int32) < i2) := (by simp only [zz_lt, zz_eq, zl_m2, zl_0, zl_1, zl_99, w2s, w4s, w1, w3, w5, w6, w7, w8, w9, w10, w11, w12] <;> omega)
          have em : va_202 i1 i2 V = (-2 : Int32) := by simp only [va_202, if_neg j11, if_pos j12, if_neg j13, if_pos j14]
          have eo : vn_202 i1 i2 V = V := by simp only [vn_202, if_neg j11, if_pos j12, if_neg j13, if_pos j14]
          rw [em, eo]
          refine hQ _ _ ?_
          exact hI
        · have g10k := g10
          simp only [zz_lt, zz_eq, zl_m2, zl_0, zl_1, zl_99, w2s, w4s] at g10k
          have ev : va_142 i1 i2 V = (V 31 ((i1).toNatClampNeg)) := by simp only [va_142, if_neg g1, if_neg g3, if_neg g6, if_neg g10]
          have en : vn_142 i1 i2 V = (aa_up V 31 ((i1).toNatClampNeg) i2) := by simp only [vn_142, if_neg g1, if_neg g3, if_neg g6, if_neg g10]
          rw [ev, en]
          obtain ⟨W, hWe⟩ : ∃ W, W = (aa_up V 31 ((i1).toNatClampNeg) i2) := ⟨_, rfl⟩
          have hW : ∀ c, 104 < c → W c = V c := fun c hc => by rw [hWe, aa_up_c (by omega)]
          rw [← hWe]
          refine sp_202 (fun q1 q2 q3 q4 => by
            simp only [zz_lt, zz_eq, zl_m2, zl_0, zl_1, zl_99, w2s, w4s, hW 105 (by decide), hW 108 (by decide), hW 109 (by decide), hW 110 (by decide), hW 111 (by decide), hW 112 (by decide), hW 113 (by decide), hW 114 (by decide), hW 115 (by decide), w1, w3, w5, w6, w7, w8, w9, w10, w11, w12] at q1 q2 q3 q4
            try simp only [w1, w3, w5, w6, w7, w8, w9, w10, w11, w12, hW 105 (by decide), hW 108 (by decide), hW 109 (by decide), hW 110 (by decide), hW 111 (by decide), hW 112 (by decide), hW 113 (by decide), hW 114 (by decide), hW 115 (by decide)]
            refine vp_of_r ?_ ?_ <;> omega) ?_
          dsimp only [aa_rI, aa_rL]
          have j15 : ¬ (i1 < 0) := (by simp only [zz_lt, zz_eq, zl_m2, zl_0, zl_1, zl_99, w2s, w4s, hW 105 (by decide), hW 108 (by decide), hW 109 (by decide), hW 110 (by decide), hW 111 (by decide), hW 112 (by decide), hW 113 (by decide), hW 114 (by decide), hW 115 (by decide), w1, w3, w5, w6, w7, w8, w9, w10, w11, w12] <;> omega)
          have j16 : (i1 < (W 105 11)) := (by simp only [zz_lt, zz_eq, zl_m2, zl_0, zl_1, zl_99, w2s, w4s, hW 105 (by decide), hW 108 (by decide), hW 109 (by decide), hW 110 (by decide), hW 111 (by decide), hW 112 (by decide), hW 113 (by decide), hW 114 (by decide), hW 115 (by decide), w1, w3, w5, w6, w7, w8, w9, w10, w11, w12] <;> omega)
          have j17 : ¬ (i2 < (0 : Int32)) := (by simp only [zz_lt, zz_eq, zl_m2, zl_0, zl_1, zl_99, w2s, w4s, hW 105 (by decide), hW 108 (by decide), hW 109 (by decide), hW 110 (by decide), hW 111 (by decide), hW 112 (by decide), hW 113 (by decide), hW 114 (by decide), hW 115 (by decide), w1, w3, w5, w6, w7, w8, w9, w10, w11, w12] <;> omega)
          have j18 : ¬ ((99 : Int32) < i2) := (by simp only [zz_lt, zz_eq, zl_m2, zl_0, zl_1, zl_99, w2s, w4s, hW 105 (by decide), hW 108 (by decide), hW 109 (by decide), hW 110 (by decide), hW 111 (by decide), hW 112 (by decide), hW 113 (by decide), hW 114 (by decide), hW 115 (by decide), w1, w3, w5, w6, w7, w8, w9, w10, w11, w12] <;> omega)
          have em : va_202 i1 i2 W = (W 109 ((i1).toNatClampNeg)) := by simp only [va_202, if_neg j15, if_pos j16, if_neg j17, if_neg j18]
          have eo : vn_202 i1 i2 W = (aa_up W 109 ((i1).toNatClampNeg) i2) := by simp only [vn_202, if_neg j15, if_pos j16, if_neg j17, if_neg j18]
          rw [em, eo]
          have ex : (W 109 ((i1).toNatClampNeg)) = (V 31 ((i1).toNatClampNeg)) := by simp only [hW 105 (by decide), hW 108 (by decide), hW 109 (by decide), hW 110 (by decide), hW 111 (by decide), hW 112 (by decide), hW 113 (by decide), hW 114 (by decide), hW 115 (by decide), w1, w3, w5, w6, w7, w8, w9, w10, w11, w12]
          rw [ex]
          refine hQ _ _ ?_
          try simp only [hW 105 (by decide), hW 108 (by decide), hW 109 (by decide), hW 110 (by decide), hW 111 (by decide), hW 112 (by decide), hW 113 (by decide), hW 114 (by decide), hW 115 (by decide), w1, w3, w5, w6, w7, w8, w9, w10, w11, w12]
          rw [hWe]
          have z2 : zb i2 99 := zb_of_r (by omega) (by omega) (by decide)
          refine ⟨hn, nv_rc (V := V) (fun c _ _ => by rw [aa_up_c (by omega), aa_up_c (by omega)]) rfl hr, ?_, ha, hp, ho, hb, nv_kc (V := V) (fun c _ _ => by rw [aa_up_c (by omega), aa_up_c (by omega)]) rfl rfl rfl hk, nv_sc (V := V) (fun c _ _ => by rw [aa_up_c (by omega), aa_up_c (by omega)]) rfl rfl rfl rfl rfl hs, hf, nv_tx (V := V) (fun c _ _ => by rw [aa_up_c (by omega), aa_up_c (by omega)]) rfl rfl rfl rfl rfl rfl rfl rfl rfl ht⟩
          exact ⟨⟨w1, w2, w3, w4⟩, ⟨w5, (show upd (V 109) i1.toNatClampNeg i2 = upd (V 31) i1.toNatClampNeg i2 from upd_eq w6), w7, w8, w9, w10, w11, w12⟩, s1, (show ∀ i, zb (upd (V 31) i1.toNatClampNeg i2 i) 99 from zb_upd s2 z2), s3, s4, s5, s6, s7, s8⟩

set_option maxRecDepth 20000 in
/-- F_frame -/
theorem cs_143 {G : ab_G} {L : Nat} {xs : Nat → Int32} {l : Launch} {d : Nat} {i1 : Int32} {i2 : Int32} {i3 : Int32} {i4 : Int32} {V : aa_V} {Q : Int32 → Int32 → aa_V → Prop} (hI : nv V) (hQ : ∀ x W, nv W → Q x x W) :
    ab_E G (ac_ST L xs) l (d + 3) ac_SK 143 [.ref 0, .int i1, .int i2, .int i3, .int i4] V (aa_rI fun x V1 => ab_E G (ac_ST L xs) l (d + 2) ac_SK 203 [.ref 105, .int i1, .int i2, .int i3, .int i4] V1 (aa_rI fun y W => Q x y W)) := by
  have hI' := hI
  obtain ⟨hn, hr, hw, ha, hp, ho, hb, hk, hs, hf, ht⟩ := hI'
  have hw' := hw
  obtain ⟨⟨w1, w2, w3, w4⟩, ⟨w5, w6, w7, w8, w9, w10, w11, w12⟩, s1, s2, s3, s4, s5, s6, s7, s8⟩ := hw'
  have w2r := zb_r w2 (by decide)
  have w2s := zb_sub1 w2 (by decide)
  have w4r := zb_r w4 (by decide)
  have w4s := zb_sub1 w4 (by decide)
  refine sp_143 (fun q1 q2 q3 q4 q5 q6 q7 q8 q9 => by
    simp only [zz_lt, zz_eq, zl_m2, zl_m4, zl_0, zl_1, zl_10, zl_20, zl_5, zl_60, zl_99, w2s, w4s] at q1 q2 q3 q4 q5 q6 q7 q8 q9
    refine vp_of_r ?_ ?_ <;> omega) ?_
  dsimp only [aa_rI, aa_rL]
  by_cases g1 : i1 < (0 : Int32)
  · have g1k := g1
    simp only [zz_lt, zz_eq, zl_m2, zl_m4, zl_0, zl_1, zl_10, zl_20, zl_5, zl_60, zl_99, w2s, w4s] at g1k
    have ev : va_143 i1 i2 i3 i4 V = (-2 : Int32) := by simp only [va_143, if_pos g1]
    have en : vn_143 i1 i2 i3 i4 V = V := by simp only [vn_143, if_pos g1]
    rw [ev, en]
    refine sp_203 (fun q1 q2 q3 q4 q5 q6 q7 q8 q9 => by
      simp only [zz_lt, zz_eq, zl_m2, zl_m4, zl_0, zl_1, zl_10, zl_20, zl_5, zl_60, zl_99, w2s, w4s, w1, w3, w5, w6, w7, w8, w9, w10, w11, w12] at q1 q2 q3 q4 q5 q6 q7 q8 q9
      try simp only [w1, w3, w5, w6, w7, w8, w9, w10, w11, w12]
      refine vp_of_r ?_ ?_ <;> omega) ?_
    dsimp only [aa_rI, aa_rL]
    have j2 : (i1 < (0 : Int32)) := (by simp only [zz_lt, zz_eq, zl_m2, zl_m4, zl_0, zl_1, zl_10, zl_20, zl_5, zl_60, zl_99, w2s, w4s, w1, w3, w5, w6, w7, w8, w9, w10, w11, w12] <;> omega)
    have em : va_203 i1 i2 i3 i4 V = (-2 : Int32) := by simp only [va_203, if_pos j2]
    have eo : vn_203 i1 i2 i3 i4 V = V := by simp only [vn_203, if_pos j2]
    rw [em, eo]
    refine hQ _ _ ?_
    exact hI
  · have g1k := g1
    simp only [zz_lt, zz_eq, zl_m2, zl_m4, zl_0, zl_1, zl_10, zl_20, zl_5, zl_60, zl_99, w2s, w4s] at g1k
    by_cases g3 : (5 : Int32) < i1
    · have g3k := g3
      simp only [zz_lt, zz_eq, zl_m2, zl_m4, zl_0, zl_1, zl_10, zl_20, zl_5, zl_60, zl_99, w2s, w4s] at g3k
      have ev : va_143 i1 i2 i3 i4 V = (-2 : Int32) := by simp only [va_143, if_neg g1, if_pos g3]
      have en : vn_143 i1 i2 i3 i4 V = V := by simp only [vn_143, if_neg g1, if_pos g3]
      rw [ev, en]
      refine sp_203 (fun q1 q2 q3 q4 q5 q6 q7 q8 q9 => by
        simp only [zz_lt, zz_eq, zl_m2, zl_m4, zl_0, zl_1, zl_10, zl_20, zl_5, zl_60, zl_99, w2s, w4s, w1, w3, w5, w6, w7, w8, w9, w10, w11, w12] at q1 q2 q3 q4 q5 q6 q7 q8 q9
        try simp only [w1, w3, w5, w6, w7, w8, w9, w10, w11, w12]
        refine vp_of_r ?_ ?_ <;> omega) ?_
      dsimp only [aa_rI, aa_rL]
      have j4 : ¬ (i1 < (0 : Int32)) := (by simp only [zz_lt, zz_eq, zl_m2, zl_m4, zl_0, zl_1, zl_10, zl_20, zl_5, zl_60, zl_99, w2s, w4s, w1, w3, w5, w6, w7, w8, w9, w10, w11, w12] <;> omega)
      have j5 : ((5 : Int32) < i1) := (by simp only [zz_lt, zz_eq, zl_m2, zl_m4, zl_0, zl_1, zl_10, zl_20, zl_5, zl_60, zl_99, w2s, w4s, w1, w3, w5, w6, w7, w8, w9, w10, w11, w12] <;> omega)
      have em : va_203 i1 i2 i3 i4 V = (-2 : Int32) := by simp only [va_203, if_neg j4, if_pos j5]
      have eo : vn_203 i1 i2 i3 i4 V = V := by simp only [vn_203, if_neg j4, if_pos j5]
      rw [em, eo]
      refine hQ _ _ ?_
      exact hI
    · have g3k := g3
      simp only [zz_lt, zz_eq, zl_m2, zl_m4, zl_0, zl_1, zl_10, zl_20, zl_5, zl_60, zl_99, w2s, w4s] at g3k
      by_cases g6 : i2 < (0 : Int32)
      · have g6k := g6
        simp only [zz_lt, zz_eq, zl_m2, zl_m4, zl_0, zl_1, zl_10, zl_20, zl_5, zl_60, zl_99, w2s, w4s] at g6k
        have ev : va_143 i1 i2 i3 i4 V = (-2 : Int32) := by simp only [va_143, if_neg g1, if_neg g3, if_pos g6]
        have en : vn_143 i1 i2 i3 i4 V = V := by simp only [vn_143, if_neg g1, if_neg g3, if_pos g6]
        rw [ev, en]
        refine sp_203 (fun q1 q2 q3 q4 q5 q6 q7 q8 q9 => by
          simp only [zz_lt, zz_eq, zl_m2, zl_m4, zl_0, zl_1, zl_10, zl_20, zl_5, zl_60, zl_99, w2s, w4s, w1, w3, w5, w6, w7, w8, w9, w10, w11, w12] at q1 q2 q3 q4 q5 q6 q7 q8 q9
          try simp only [w1, w3, w5, w6, w7, w8, w9, w10, w11, w12]
          refine vp_of_r ?_ ?_ <;> omega) ?_
        dsimp only [aa_rI, aa_rL]
        have j7 : ¬ (i1 < (0 : Int32)) := (by simp only [zz_lt, zz_eq, zl_m2, zl_m4, zl_0, zl_1, zl_10, zl_20, zl_5, zl_60, zl_99, w2s, w4s, w1, w3, w5, w6, w7, w8, w9, w10, w11, w12] <;> omega)
        have j8 : ¬ ((5 : Int32) < i1) := (by simp only [zz_lt, zz_eq, zl_m2, zl_m4, zl_0, zl_1, zl_10, zl_20, zl_5, zl_60, zl_99, w2s, w4s, w1, w3, w5, w6, w7, w8, w9, w10, w11, w12] <;> omega)
        have j9 : (i2 < 0) := (by simp only [zz_lt, zz_eq, zl_m2, zl_m4, zl_0, zl_1, zl_10, zl_20, zl_5, zl_60, zl_99, w2s, w4s, w1, w3, w5, w6, w7, w8, w9, w10, w11, w12] <;> omega)
        have em : va_203 i1 i2 i3 i4 V = (-2 : Int32) := by simp only [va_203, if_neg j7, if_neg j8, if_pos j9]
        have eo : vn_203 i1 i2 i3 i4 V = V := by simp only [vn_203, if_neg j7, if_neg j8, if_pos j9]
        rw [em, eo]
        refine hQ _ _ ?_
        exact hI
      · have g6k := g6
        simp only [zz_lt, zz_eq, zl_m2, zl_m4, zl_0, zl_1, zl_10, zl_20, zl_5, zl_60, zl_99, w2s, w4s] at g6k
        by_cases g10 : ((V 29 0) - (1 : Int32)) < i2
        · have g10k := g10
          simp only [zz_lt, zz_eq, zl_m2, zl_m4, zl_0, zl_1, zl_10, zl_20, zl_5, zl_60, zl_99, w2s, w4s] at g10k
          have ev : va_143 i1 i2 i3 i4 V = (-2 : Int32) := by simp only [va_143, if_neg g1, if_neg g3, if_neg g6, if_pos g10]
          have en : vn_143 i1 i2 i3 i4 V = V := by simp only [vn_143, if_neg g1, if_neg g3, if_neg g6, if_pos g10]
          rw [ev, en]
          refine sp_203 (fun q1 q2 q3 q4 q5 q6 q7 q8 q9 => by
            simp only [zz_lt, zz_eq, zl_m2, zl_m4, zl_0, zl_1, zl_10, zl_20, zl_5, zl_60, zl_99, w2s, w4s, w1, w3, w5, w6, w7, w8, w9, w10, w11, w12] at q1 q2 q3 q4 q5 q6 q7 q8 q9
            try simp only [w1, w3, w5, w6, w7, w8, w9, w10, w11, w12]
            refine vp_of_r ?_ ?_ <;> omega) ?_
          dsimp only [aa_rI, aa_rL]
          have j11 : ¬ (i1 < (0 : Int32)) := (by simp only [zz_lt, zz_eq, zl_m2, zl_m4, zl_0, zl_1, zl_10, zl_20, zl_5, zl_60, zl_99, w2s, w4s, w1, w3, w5, w6, w7, w8, w9, w10, w11, w12] <;> omega)
          have j12 : ¬ ((5 : Int32) < i1) := (by simp only [zz_lt, zz_eq, zl_m2, zl_m4, zl_0, zl_1, zl_10, zl_20, zl_5, zl_60, zl_99, w2s, w4s, w1, w3, w5, w6, w7, w8, w9, w10, w11, w12] <;> omega)
          have j13 : ¬ (i2 < 0) := (by simp only [zz_lt, zz_eq, zl_m2, zl_m4, zl_0, zl_1, zl_10, zl_20, zl_5, zl_60, zl_99, w2s, w4s, w1, w3, w5, w6, w7, w8, w9, w10, w11, w12] <;> omega)
          have j14 : ¬ (i2 < (V 105 11)) := (by simp only [zz_lt, zz_eq, zl_m2, zl_m4, zl_0, zl_1, zl_10, zl_20, zl_5, zl_60, zl_99, w2s, w4s, w1, w3, w5, w6, w7, w8, w9, w10, w11, w12] <;> omega)
          have em : va_203 i1 i2 i3 i4 V = (-2 : Int32) := by simp only [va_203, if_neg j11, if_neg j12, if_neg j13, if_neg j14]
          have eo : vn_203 i1 i2 i3 i4 V = V := by simp only [vn_203, if_neg j11, if_neg j12, if_neg j13, if_neg j14]
          rw [em, eo]
          refine hQ _ _ ?_
          exact hI
        · have g10k := g10
          simp only [zz_lt, zz_eq, zl_m2, zl_m4, zl_0, zl_1, zl_10, zl_20, zl_5, zl_60, zl_99, w2s, w4s] at g10k
          by_cases g15 : i3 < (10 : Int32)
          · have g15k := g15
            simp only [zz_lt, zz_eq, zl_m2, zl_m4, zl_0, zl_1, zl_10, zl_20, zl_5, zl_60, zl_99, w2s, w4s] at g15k
            have ev : va_143 i1 i2 i3 i4 V = (-2 : Int32) := by simp only [va_143, if_neg g1, if_neg g3, if_neg g6, if_neg g10, if_pos g15]
            have en : vn_143 i1 i2 i3 i4 V = V := by simp only [vn_143, if_neg g1, if_neg g3, if_neg g6, if_neg g10, if_pos g15]
            rw [ev, en]
            refine sp_203 (fun q1 q2 q3 q4 q5 q6 q7 q8 q9 => by
              simp only [zz_lt, zz_eq, zl_m2, zl_m4, zl_0, zl_1, zl_10, zl_20, zl_5, zl_60, zl_99, w2s, w4s, w1, w3, w5, w6, w7, w8, w9, w10, w11, w12] at q1 q2 q3 q4 q5 q6 q7 q8 q9
              try simp only [w1, w3, w5, w6, w7, w8, w9, w10, w11, w12]
              refine vp_of_r ?_ ?_ <;> omega) ?_
            dsimp only [aa_rI, aa_rL]
            have j16 : ¬ (i1 < (0 : Int32)) := (by simp only [zz_lt, zz_eq, zl_m2, zl_m4, zl_0, zl_1, zl_10, zl_20, zl_5, zl_60, zl_99, w2s, w4s, w1, w3, w5, w6, w7, w8, w9, w10, w11, w12] <;> omega)
            have j17 : ¬ ((5 : Int32) < i1) := (by simp only [zz_lt, zz_eq, zl_m2, zl_m4, zl_0, zl_1, zl_10, zl_20, zl_5, zl_60, zl_99, w2s, w4s, w1, w3, w5, w6, w7, w8, w9, w10, w11, w12] <;> omega)
            have j18 : ¬ (i2 < 0) := (by simp only [zz_lt, zz_eq, zl_m2, zl_m4, zl_0, zl_1, zl_10, zl_20, zl_5, zl_60, zl_99, w2s, w4s, w1, w3, w5, w6, w7, w8, w9, w10, w11, w12] <;> omega)
            have j19 : (i2 < (V 105 11)) := (by simp only [zz_lt, zz_eq, zl_m2, zl_m4, zl_0, zl_1, zl_10, zl_20, zl_5, zl_60, zl_99, w2s, w4s, w1, w3, w5, w6, w7, w8, w9, w10, w11, w12] <;> omega)
            have j20 : (i3 < (10 : Int32)) := (by simp only [zz_lt, zz_eq, zl_m2, zl_m4, zl_0, zl_1, zl_10, zl_20, zl_5, zl_60, zl_99, w2s, w4s, w1, w3, w5, w6, w7, w8, w9, w10, w11, w12] <;> omega)
            have em : va_203 i1 i2 i3 i4 V = (-2 : Int32) := by simp only [va_203, if_neg j16, if_neg j17, if_neg j18, if_pos j19, if_pos j20]
            have eo : vn_203 i1 i2 i3 i4 V = V := by simp only [vn_203, if_neg j16, if_neg j17, if_neg j18, if_pos j19, if_pos j20]
            rw [em, eo]
            refine hQ _ _ ?_
            exact hI
          · have g15k := g15
            simp only [zz_lt, zz_eq, zl_m2, zl_m4, zl_0, zl_1, zl_10, zl_20, zl_5, zl_60, zl_99, w2s, w4s] at g15k
            by_cases g21 : (60 : Int32) < i3
            · have g21k := g21
              simp only [zz_lt, zz_eq, zl_m2, zl_m4, zl_0, zl_1, zl_10, zl_20, zl_5, zl_60, zl_99, w2s, w4s] at g21k
              have ev : va_143 i1 i2 i3 i4 V = (-2 : Int32) := by simp only [va_143, if_neg g1, if_neg g3, if_neg g6, if_neg g10, if_neg g15, if_pos g21]
              have en : vn_143 i1 i2 i3 i4 V = V := by simp only [vn_143, if_neg g1, if_neg g3, if_neg g6, if_neg g10, if_neg g15, if_pos g21]
              rw [ev, en]
              refine sp_203 (fun q1 q2 q3 q4 q5 q6 q7 q8 q9 => by
                simp only [zz_lt, zz_eq, zl_m2, zl_m4, zl_0, zl_1, zl_10, zl_20, zl_5, zl_60, zl_99, w2s, w4s, w1, w3, w5, w6, w7, w8, w9, w10, w11, w12] at q1 q2 q3 q4 q5 q6 q7 q8 q9
                try simp only [w1, w3, w5, w6, w7, w8, w9, w10, w11, w12]
                refine vp_of_r ?_ ?_ <;> omega) ?_
              dsimp only [aa_rI, aa_rL]
              have j22 : ¬ (i1 < (0 : Int32)) := (by simp only [zz_lt, zz_eq, zl_m2, zl_m4, zl_0, zl_1, zl_10, zl_20, zl_5, zl_60, zl_99, w2s, w4s, w1, w3, w5, w6, w7, w8, w9, w10, w11, w12] <;> omega)
              have j23 : ¬ ((5 : Int32) < i1) := (by simp only [zz_lt, zz_eq, zl_m2, zl_m4, zl_0, zl_1, zl_10, zl_20, zl_5, zl_60, zl_99, w2s, w4s, w1, w3, w5, w6, w7, w8, w9, w10, w11, w12] <;> omega)
              have j24 : ¬ (i2 < 0) := (by simp only [zz_lt, zz_eq, zl_m2, zl_m4, zl_0, zl_1, zl_10, zl_20, zl_5, zl_60, zl_99, w2s, w4s, w1, w3, w5, w6, w7, w8, w9, w10, w11, w12] <;> omega)
              have j25 : (i2 < (V 105 11)) := (by simp only [zz_lt, zz_eq, zl_m2, zl_m4, zl_0, zl_1, zl_10, zl_20, zl_5, zl_60, zl_99, w2s, w4s, w1, w3, w5, w6, w7, w8, w9, w10, w11, w12] <;> omega)
              have j26 : ¬ (i3 < (10 : Int32)) := (by simp only [zz_lt, zz_eq, zl_m2, zl_m4, zl_0, zl_1, zl_10, zl_20, zl_5, zl_60, zl_99, w2s, w4s, w1, w3, w5, w6, w7, w8, w9, w10, w11, w12] <;> omega)
              have j27 : ((60 : Int32) < i3) := (by simp only [zz_lt, zz_eq, zl_m2, zl_m4, zl_0, zl_1, zl_10, zl_20, zl_5, zl_60, zl_99, w2s, w4s, w1, w3, w5, w6, w7, w8, w9, w10, w11, w12] <;> omega)
              have em : va_203 i1 i2 i3 i4 V = (-2 : Int32) := by simp only [va_203, if_neg j22, if_neg j23, if_neg j24, if_pos j25, if_neg j26, if_pos j27]
              have eo : vn_203 i1 i2 i3 i4 V = V := by simp only [vn_203, if_neg j22, if_neg j23, if_neg j24, if_pos j25, if_neg j26, if_pos j27]
              rw [em, eo]
              refine hQ _ _ ?_
              exact hI
            · have g21k := g21
              simp only [zz_lt, zz_eq, zl_m2, zl_m4, zl_0, zl_1, zl_10, zl_20, zl_5, zl_60, zl_99, w2s, w4s] at g21k
              by_cases g28 : i4 < (0 : Int32)
              · have g28k := g28
                simp only [zz_lt, zz_eq, zl_m2, zl_m4, zl_0, zl_1, zl_10, zl_20, zl_5, zl_60, zl_99, w2s, w4s] at g28k
                have ev : va_143 i1 i2 i3 i4 V = (-2 : Int32) := by simp only [va_143, if_neg g1, if_neg g3, if_neg g6, if_neg g10, if_neg g15, if_neg g21, if_pos g28]
                have en : vn_143 i1 i2 i3 i4 V = V := by simp only [vn_143, if_neg g1, if_neg g3, if_neg g6, if_neg g10, if_neg g15, if_neg g21, if_pos g28]
                rw [ev, en]
                refine sp_203 (fun q1 q2 q3 q4 q5 q6 q7 q8 q9 => by
                  simp only [zz_lt, zz_eq, zl_m2, zl_m4, zl_0, zl_1, zl_10, zl_20, zl_5, zl_60, zl_99, w2s, w4s, w1, w3, w5, w6, w7, w8, w9, w10, w11, w12] at q1 q2 q3 q4 q5 q6 q7 q8 q9
                  try simp only [w1, w3, w5, w6, w7, w8, w9, w10, w11, w12]
                  refine vp_of_r ?_ ?_ <;> omega) ?_
                dsimp only [aa_rI, aa_rL]
                have j29 : ¬ (i1 < (0 : Int32)) := (by simp only [zz_lt, zz_eq, zl_m2, zl_m4, zl_0, zl_1, zl_10, zl_20, zl_5, zl_60, zl_99, w2s, w4s, w1, w3, w5, w6, w7, w8, w9, w10, w11, w12] <;> omega)
                have j30 : ¬ ((5 : Int32) < i1) := (by simp only [zz_lt, zz_eq, zl_m2, zl_m4, zl_0, zl_1, zl_10, zl_20, zl_5, zl_60, zl_99, w2s, w4s, w1, w3, w5, w6, w7, w8, w9, w10, w11, w12] <;> omega)
                have j31 : ¬ (i2 < 0) := (by simp only [zz_lt, zz_eq, zl_m2, zl_m4, zl_0, zl_1, zl_10, zl_20, zl_5, zl_60, zl_99, w2s, w4s, w1, w3, w5, w6, w7, w8, w9, w10, w11, w12] <;> omega)
                have j32 : (i2 < (V 105 11)) := (by simp only [zz_lt, zz_eq, zl_m2, zl_m4, zl_0, zl_1, zl_10, zl_20, zl_5, zl_60, zl_99, w2s, w4s, w1, w3, w5, w6, w7, w8, w9, w10, w11, w12] <;> omega)
                have j33 : ¬ (i3 < (10 : Int32)) := (by simp only [zz_lt, zz_eq, zl_m2, zl_m4, zl_0, zl_1, zl_10, zl_20, zl_5, zl_60, zl_99, w2s, w4s, w1, w3, w5, w6, w7, w8, w9, w10, w11, w12] <;> omega)
                have j34 : ¬ ((60 : Int32) < i3) := (by simp only [zz_lt, zz_eq, zl_m2, zl_m4, zl_0, zl_1, zl_10, zl_20, zl_5, zl_60, zl_99, w2s, w4s, w1, w3, w5, w6, w7, w8, w9, w10, w11, w12] <;> omega)
                have j35 : (i4 < (0 : Int32)) := (by simp only [zz_lt, zz_eq, zl_m2, zl_m4, zl_0, zl_1, zl_10, zl_20, zl_5, zl_60, zl_99, w2s, w4s, w1, w3, w5, w6, w7, w8, w9, w10, w11, w12] <;> omega)
                have em : va_203 i1 i2 i3 i4 V = (-2 : Int32) := by simp only [va_203, if_neg j29, if_neg j30, if_neg j31, if_pos j32, if_neg j33, if_neg j34, if_pos j35]
                have eo : vn_203 i1 i2 i3 i4 V = V := by simp only [vn_203, if_neg j29, if_neg j30, if_neg j31, if_pos j32, if_neg j33, if_neg j34, if_pos j35]
                rw [em, eo]
                refine hQ _ _ ?_
                exact hI
              · have g28k := g28
                simp only [zz_lt, zz_eq, zl_m2, zl_m4, zl_0, zl_1, zl_10, zl_20, zl_5, zl_60, zl_99, w2s, w4s] at g28k
                by_cases g36 : (99 : Int32) < i4
                · have g36k := g36
                  simp only [zz_lt, zz_eq, zl_m2, zl_m4, zl_0, zl_1, zl_10, zl_20, zl_5, zl_60, zl_99, w2s, w4s] at g36k
                  have ev : va_143 i1 i2 i3 i4 V = (-2 : Int32) := by simp only [va_143, if_neg g1, if_neg g3, if_neg g6, if_neg g10, if_neg g15, if_neg g21, if_neg g28, if_pos g36]
                  have en : vn_143 i1 i2 i3 i4 V = V := by simp only [vn_143, if_neg g1, if_neg g3, if_neg g6, if_neg g10, if_neg g15, if_neg g21, if_neg g28, if_pos g36]
                  rw [ev, en]
                  refine sp_203 (fun q1 q2 q3 q4 q5 q6 q7 q8 q9 => by
                    simp only [zz_lt, zz_eq, zl_m2, zl_m4, zl_0, zl_1, zl_10, zl_20, zl_5, zl_60, zl_99, w2s, w4s, w1, w3, w5, w6, w7, w8, w9, w10, w11, w12] at q1 q2 q3 q4 q5 q6 q7 q8 q9
                    try simp only [w1, w3, w5, w6, w7, w8, w9, w10, w11, w12]
                    refine vp_of_r ?_ ?_ <;> omega) ?_
                  dsimp only [aa_rI, aa_rL]
                  have j37 : ¬ (i1 < (0 : Int32)) := (by simp only [zz_lt, zz_eq, zl_m2, zl_m4, zl_0, zl_1, zl_10, zl_20, zl_5, zl_60, zl_99, w2s, w4s, w1, w3, w5, w6, w7, w8, w9, w10, w11, w12] <;> omega)
                  have j38 : ¬ ((5 : Int32) < i1) := (by simp only [zz_lt, zz_eq, zl_m2, zl_m4, zl_0, zl_1, zl_10, zl_20, zl_5, zl_60, zl_99, w2s, w4s, w1, w3, w5, w6, w7, w8, w9, w10, w11, w12] <;> omega)
                  have j39 : ¬ (i2 < 0) := (by simp only [zz_lt, zz_eq, zl_m2, zl_m4, zl_0, zl_1, zl_10, zl_20, zl_5, zl_60, zl_99, w2s, w4s, w1, w3, w5, w6, w7, w8, w9, w10, w11, w12] <;> omega)
                  have j40 : (i2 < (V 105 11)) := (by simp only [zz_lt, zz_eq, zl_m2, zl_m4, zl_0, zl_1, zl_10, zl_20, zl_5, zl_60, zl_99, w2s, w4s, w1, w3, w5, w6, w7, w8, w9, w10, w11, w12] <;> omega)
                  have j41 : ¬ (i3 < (10 : Int32)) := (by simp only [zz_lt, zz_eq, zl_m2, zl_m4, zl_0, zl_1, zl_10, zl_20, zl_5, zl_60, zl_99, w2s, w4s, w1, w3, w5, w6, w7, w8, w9, w10, w11, w12] <;> omega)
                  have j42 : ¬ ((60 : Int32) < i3) := (by simp only [zz_lt, zz_eq, zl_m2, zl_m4, zl_0, zl_1, zl_10, zl_20, zl_5, zl_60, zl_99, w2s, w4s, w1, w3, w5, w6, w7, w8, w9, w10, w11, w12] <;> omega)
                  have j43 : ¬ (i4 < (0 : Int32)) := (by simp only [zz_lt, zz_eq, zl_m2, zl_m4, zl_0, zl_1, zl_10, zl_20, zl_5, zl_60, zl_99, w2s, w4s, w1, w3, w5, w6, w7, w8, w9, w10, w11, w12] <;> omega)
                  have j44 : ((99 : Int32) < i4) := (by simp only [zz_lt, zz_eq, zl_m2, zl_m4, zl_0, zl_1, zl_10, zl_20, zl_5, zl_60, zl_99, w2s, w4s, w1, w3, w5, w6, w7, w8, w9, w10, w11, w12] <;> omega)
                  have em : va_203 i1 i2 i3 i4 V = (-2 : Int32) := by simp only [va_203, if_neg j37, if_neg j38, if_neg j39, if_pos j40, if_neg j41, if_neg j42, if_neg j43, if_pos j44]
                  have eo : vn_203 i1 i2 i3 i4 V = V := by simp only [vn_203, if_neg j37, if_neg j38, if_neg j39, if_pos j40, if_neg j41, if_neg j42, if_neg j43, if_pos j44]
                  rw [em, eo]
                  refine hQ _ _ ?_
                  exact hI
                · have g36k := g36
                  simp only [zz_lt, zz_eq, zl_m2, zl_m4, zl_0, zl_1, zl_10, zl_20, zl_5, zl_60, zl_99, w2s, w4s] at g36k
                  by_cases g45 : (V 29 3) < (20 : Int32)
                  · have g45k := g45
                    simp only [zz_lt, zz_eq, zl_m2, zl_m4, zl_0, zl_1, zl_10, zl_20, zl_5, zl_60, zl_99, w2s, w4s] at g45k
                    have ev : va_143 i1 i2 i3 i4 V = (((V 29 3) + (1 : Int32)) - (1 : Int32)) := by simp only [va_143, if_neg g1, if_neg g3, if_neg g6, if_neg g10, if_neg g15, if_neg g21, if_neg g28, if_neg g36, if_pos g45]
                    have en : vn_143 i1 i2 i3 i4 V = (aa_up (aa_up (aa_up (aa_up (aa_up V 32 (((V 29 3)).toNatClampNeg) i1) 33 (((V 29 3)).toNatClampNeg) i2) 34 (((V 29 3)).toNatClampNeg) i3) 35 (((V 29 3)).toNatClampNeg) i4) 29 3 ((V 29 3) + (1 : Int32))) := by simp only [vn_143, if_neg g1, if_neg g3, if_neg g6, if_neg g10, if_neg g15, if_neg g21, if_neg g28, if_neg g36, if_pos g45]
                    rw [ev, en]
                    obtain ⟨W, hWe⟩ : ∃ W, W = (aa_up (aa_up (aa_up (aa_up (aa_up V 32 (((V 29 3)).toNatClampNeg) i1) 33 (((V 29 3)).toNatClampNeg) i2) 34 (((V 29 3)).toNatClampNeg) i3) 35 (((V 29 3)).toNatClampNeg) i4) 29 3 ((V 29 3) + (1 : Int32))) := ⟨_, rfl⟩
                    have hW : ∀ c, 104 < c → W c = V c := fun c hc => by rw [hWe, aa_up_c (by omega), aa_up_c (by omega), aa_up_c (by omega), aa_up_c (by omega), aa_up_c (by omega)]
                    rw [← hWe]
                    refine sp_203 (fun q1 q2 q3 q4 q5 q6 q7 q8 q9 => by
                      simp only [zz_lt, zz_eq, zl_m2, zl_m4, zl_0, zl_1, zl_10, zl_20, zl_5, zl_60, zl_99, w2s, w4s, hW 105 (by decide), hW 108 (by decide), hW 109 (by decide), hW 110 (by decide), hW 111 (by decide), hW 112 (by decide), hW 113 (by decide), hW 114 (by decide), hW 115 (by decide), w1, w3, w5, w6, w7, w8, w9, w10, w11, w12] at q1 q2 q3 q4 q5 q6 q7 q8 q9
                      try simp only [w1, w3, w5, w6, w7, w8, w9, w10, w11, w12, hW 105 (by decide), hW 108 (by decide), hW 109 (by decide), hW 110 (by decide), hW 111 (by decide), hW 112 (by decide), hW 113 (by decide), hW 114 (by decide), hW 115 (by decide)]
                      refine vp_of_r ?_ ?_ <;> omega) ?_
                    dsimp only [aa_rI, aa_rL]
                    have j46 : ¬ (i1 < (0 : Int32)) := (by simp only [zz_lt, zz_eq, zl_m2, zl_m4, zl_0, zl_1, zl_10, zl_20, zl_5, zl_60, zl_99, w2s, w4s, hW 105 (by decide), hW 108 (by decide), hW 109 (by decide), hW 110 (by decide), hW 111 (by decide), hW 112 (by decide), hW 113 (by decide), hW 114 (by decide), hW 115 (by decide), w1, w3, w5, w6, w7, w8, w9, w10, w11, w12] <;> omega)
                    have j47 : ¬ ((5 : Int32) < i1) := (by simp only [zz_lt, zz_eq, zl_m2, zl_m4, zl_0, zl_1, zl_10, zl_20, zl_5, zl_60, zl_99, w2s, w4s, hW 105 (by decide), hW 108 (by decide), hW 109 (by decide), hW 110 (by decide), hW 111 (by decide), hW 112 (by decide), hW 113 (by decide), hW 114 (by decide), hW 115 (by decide), w1, w3, w5, w6, w7, w8, w9, w10, w11, w12] <;> omega)
                    have j48 : ¬ (i2 < 0) := (by simp only [zz_lt, zz_eq, zl_m2, zl_m4, zl_0, zl_1, zl_10, zl_20, zl_5, zl_60, zl_99, w2s, w4s, hW 105 (by decide), hW 108 (by decide), hW 109 (by decide), hW 110 (by decide), hW 111 (by decide), hW 112 (by decide), hW 113 (by decide), hW 114 (by decide), hW 115 (by decide), w1, w3, w5, w6, w7, w8, w9, w10, w11, w12] <;> omega)
                    have j49 : (i2 < (W 105 11)) := (by simp only [zz_lt, zz_eq, zl_m2, zl_m4, zl_0, zl_1, zl_10, zl_20, zl_5, zl_60, zl_99, w2s, w4s, hW 105 (by decide), hW 108 (by decide), hW 109 (by decide), hW 110 (by decide), hW 111 (by decide), hW 112 (by decide), hW 113 (by decide), hW 114 (by decide), hW 115 (by decide), w1, w3, w5, w6, w7, w8, w9, w10, w11, w12] <;> omega)
                    have j50 : ¬ (i3 < (10 : Int32)) := (by simp only [zz_lt, zz_eq, zl_m2, zl_m4, zl_0, zl_1, zl_10, zl_20, zl_5, zl_60, zl_99, w2s, w4s, hW 105 (by decide), hW 108 (by decide), hW 109 (by decide), hW 110 (by decide), hW 111 (by decide), hW 112 (by decide), hW 113 (by decide), hW 114 (by decide), hW 115 (by decide), w1, w3, w5, w6, w7, w8, w9, w10, w11, w12] <;> omega)
                    have j51 : ¬ ((60 : Int32) < i3) := (by simp only [zz_lt, zz_eq, zl_m2, zl_m4, zl_0, zl_1, zl_10, zl_20, zl_5, zl_60, zl_99, w2s, w4s, hW 105 (by decide), hW 108 (by decide), hW 109 (by decide), hW 110 (by decide), hW 111 (by decide), hW 112 (by decide), hW 113 (by decide), hW 114 (by decide), hW 115 (by decide), w1, w3, w5, w6, w7, w8, w9, w10, w11, w12] <;> omega)
                    have j52 : ¬ (i4 < (0 : Int32)) := (by simp only [zz_lt, zz_eq, zl_m2, zl_m4, zl_0, zl_1, zl_10, zl_20, zl_5, zl_60, zl_99, w2s, w4s, hW 105 (by decide), hW 108 (by decide), hW 109 (by decide), hW 110 (by decide), hW 111 (by decide), hW 112 (by decide), hW 113 (by decide), hW 114 (by decide), hW 115 (by decide), w1, w3, w5, w6, w7, w8, w9, w10, w11, w12] <;> omega)
                    have j53 : ¬ ((99 : Int32) < i4) := (by simp only [zz_lt, zz_eq, zl_m2, zl_m4, zl_0, zl_1, zl_10, zl_20, zl_5, zl_60, zl_99, w2s, w4s, hW 105 (by decide), hW 108 (by decide), hW 109 (by decide), hW 110 (by decide), hW 111 (by decide), hW 112 (by decide), hW 113 (by decide), hW 114 (by decide), hW 115 (by decide), w1, w3, w5, w6, w7, w8, w9, w10, w11, w12] <;> omega)
                    have j54 : ¬ ((W 105 12) = (20 : Int32)) := (by simp only [zz_lt, zz_eq, zl_m2, zl_m4, zl_0, zl_1, zl_10, zl_20, zl_5, zl_60, zl_99, w2s, w4s, hW 105 (by decide), hW 108 (by decide), hW 109 (by decide), hW 110 (by decide), hW 111 (by decide), hW 112 (by decide), hW 113 (by decide), hW 114 (by decide), hW 115 (by decide), w1, w3, w5, w6, w7, w8, w9, w10, w11, w12] <;> omega)
                    have em : va_203 i1 i2 i3 i4 W = (((W 105 12) + (1 : Int32)) - (1 : Int32)) := by simp only [va_203, if_neg j46, if_neg j47, if_neg j48, if_pos j49, if_neg j50, if_neg j51, if_neg j52, if_neg j53, if_neg j54]
                    have eo : vn_203 i1 i2 i3 i4 W = (aa_up (aa_up (aa_up (aa_up (aa_up W 110 (((W 105 12)).toNatClampNeg) i1) 111 (((W 105 12)).toNatClampNeg) i2) 112 (((W 105 12)).toNatClampNeg) i3) 113 (((W 105 12)).toNatClampNeg) i4) 105 12 ((W 105 12) + (1 : Int32))) := by simp only [vn_203, if_neg j46, if_neg j47, if_neg j48, if_pos j49, if_neg j50, if_neg j51, if_neg j52, if_neg j53, if_neg j54]
                    rw [em, eo]
                    have ex : (((W 105 12) + (1 : Int32)) - (1 : Int32)) = (((V 29 3) + (1 : Int32)) - (1 : Int32)) := by simp only [hW 105 (by decide), hW 108 (by decide), hW 109 (by decide), hW 110 (by decide), hW 111 (by decide), hW 112 (by decide), hW 113 (by decide), hW 114 (by decide), hW 115 (by decide), w1, w3, w5, w6, w7, w8, w9, w10, w11, w12]
                    rw [ex]
                    refine hQ _ _ ?_
                    try simp only [hW 105 (by decide), hW 108 (by decide), hW 109 (by decide), hW 110 (by decide), hW 111 (by decide), hW 112 (by decide), hW 113 (by decide), hW 114 (by decide), hW 115 (by decide), w1, w3, w5, w6, w7, w8, w9, w10, w11, w12]
                    rw [hWe]
                    have z1 : zb i1 5 := zb_of_r (by omega) (by omega) (by decide)
                    have z2 : zb i2 7 := zb_of_r (by omega) (by omega) (by decide)
                    have z3 : zb i3 60 := zb_of_r (by omega) (by omega) (by decide)
                    have z4 : zb i4 99 := zb_of_r (by omega) (by omega) (by decide)
                    refine ⟨hn, nv_rc (V := V) (fun c _ _ => by rw [aa_up_c (by omega), aa_up_c (by omega), aa_up_c (by omega), aa_up_c (by omega), aa_up_c (by omega), aa_up_c (by omega), aa_up_c (by omega), aa_up_c (by omega), aa_up_c (by omega), aa_up_c (by omega)]) rfl hr, ?_, ha, hp, ho, hb, nv_kc (V := V) (fun c _ _ => by rw [aa_up_c (by omega), aa_up_c (by omega), aa_up_c (by omega), aa_up_c (by omega), aa_up_c (by omega), aa_up_c (by omega), aa_up_c (by omega), aa_up_c (by omega), aa_up_c (by omega), aa_up_c (by omega)]) rfl rfl rfl hk, nv_sc (V := V) (fun c _ _ => by rw [aa_up_c (by omega), aa_up_c (by omega), aa_up_c (by omega), aa_up_c (by omega), aa_up_c (by omega), aa_up_c (by omega), aa_up_c (by omega), aa_up_c (by omega), aa_up_c (by omega), aa_up_c (by omega)]) rfl rfl rfl rfl rfl hs, hf, nv_tx (V := V) (fun c _ _ => by rw [aa_up_c (by omega), aa_up_c (by omega), aa_up_c (by omega), aa_up_c (by omega), aa_up_c (by omega), aa_up_c (by omega), aa_up_c (by omega), aa_up_c (by omega), aa_up_c (by omega), aa_up_c (by omega)]) rfl rfl rfl rfl rfl rfl rfl rfl rfl ht⟩
                    exact ⟨⟨w1, w2, rfl, zb_up w4 (by omega) (by decide)⟩, ⟨w5, w6, (show upd (V 110) (V 29 3).toNatClampNeg i1 = upd (V 32) (V 29 3).toNatClampNeg i1 from upd_eq w7), (show upd (V 111) (V 29 3).toNatClampNeg i2 = upd (V 33) (V 29 3).toNatClampNeg i2 from upd_eq w8), (show upd (V 112) (V 29 3).toNatClampNeg i3 = upd (V 34) (V 29 3).toNatClampNeg i3 from upd_eq w9), (show upd (V 113) (V 29 3).toNatClampNeg i4 = upd (V 35) (V 29 3).toNatClampNeg i4 from upd_eq w10), w11, w12⟩, s1, s2, (show ∀ i, zb (upd (V 32) (V 29 3).toNatClampNeg i1 i) 5 from zb_upd s3 z1), (show ∀ i, zb (upd (V 33) (V 29 3).toNatClampNeg i2 i) 7 from zb_upd s4 z2), (show ∀ i, zb (upd (V 34) (V 29 3).toNatClampNeg i3 i) 60 from zb_upd s5 z3), (show ∀ i, zb (upd (V 35) (V 29 3).toNatClampNeg i4 i) 99 from zb_upd s6 z4), s7, s8⟩
                  · have g45k := g45
                    simp only [zz_lt, zz_eq, zl_m2, zl_m4, zl_0, zl_1, zl_10, zl_20, zl_5, zl_60, zl_99, w2s, w4s] at g45k
                    have ev : va_143 i1 i2 i3 i4 V = (-4 : Int32) := by simp only [va_143, if_neg g1, if_neg g3, if_neg g6, if_neg g10, if_neg g15, if_neg g21, if_neg g28, if_neg g36, if_neg g45]
                    have en : vn_143 i1 i2 i3 i4 V = V := by simp only [vn_143, if_neg g1, if_neg g3, if_neg g6, if_neg g10, if_neg g15, if_neg g21, if_neg g28, if_neg g36, if_neg g45]
                    rw [ev, en]
                    refine sp_203 (fun q1 q2 q3 q4 q5 q6 q7 q8 q9 => by
                      simp only [zz_lt, zz_eq, zl_m2, zl_m4, zl_0, zl_1, zl_10, zl_20, zl_5, zl_60, zl_99, w2s, w4s, w1, w3, w5, w6, w7, w8, w9, w10, w11, w12] at q1 q2 q3 q4 q5 q6 q7 q8 q9
                      try simp only [w1, w3, w5, w6, w7, w8, w9, w10, w11, w12]
                      refine vp_of_r ?_ ?_ <;> omega) ?_
                    dsimp only [aa_rI, aa_rL]
                    have j55 : ¬ (i1 < (0 : Int32)) := (by simp only [zz_lt, zz_eq, zl_m2, zl_m4, zl_0, zl_1, zl_10, zl_20, zl_5, zl_60, zl_99, w2s, w4s, w1, w3, w5, w6, w7, w8, w9, w10, w11, w12] <;> omega)
                    have j56 : ¬ ((5 : Int32) < i1) := (by simp only [zz_lt, zz_eq, zl_m2, zl_m4, zl_0, zl_1, zl_10, zl_20, zl_5, zl_60, zl_99, w2s, w4s, w1, w3, w5, w6, w7, w8, w9, w10, w11, w12] <;> omega)
                    have j57 : ¬ (i2 < 0) := (by simp only [zz_lt, zz_eq, zl_m2, zl_m4, zl_0, zl_1, zl_10, zl_20, zl_5, zl_60, zl_99, w2s, w4s, w1, w3, w5, w6, w7, w8, w9, w10, w11, w12] <;> omega)
                    have j58 : (i2 < (V 105 11)) := (by simp only [zz_lt, zz_eq, zl_m2, zl_m4, zl_0, zl_1, zl_10, zl_20, zl_5, zl_60, zl_99, w2s, w4s, w1, w3, w5, w6, w7, w8, w9, w10, w11, w12] <;> omega)
                    have j59 : ¬ (i3 < (10 : Int32)) := (by simp only [zz_lt, zz_eq, zl_m2, zl_m4, zl_0, zl_1, zl_10, zl_20, zl_5, zl_60, zl_99, w2s, w4s, w1, w3, w5, w6, w7, w8, w9, w10, w11, w12] <;> omega)
                    have j60 : ¬ ((60 : Int32) < i3) := (by simp only [zz_lt, zz_eq, zl_m2, zl_m4, zl_0, zl_1, zl_10, zl_20, zl_5, zl_60, zl_99, w2s, w4s, w1, w3, w5, w6, w7, w8, w9, w10, w11, w12] <;> omega)
                    have j61 : ¬ (i4 < (0 : Int32)) := (by simp only [zz_lt, zz_eq, zl_m2, zl_m4, zl_0, zl_1, zl_10, zl_20, zl_5, zl_60, zl_99, w2s, w4s, w1, w3, w5, w6, w7, w8, w9, w10, w11, w12] <;> omega)
                    have j62 : ¬ ((99 : Int32) < i4) := (by simp only [zz_lt, zz_eq, zl_m2, zl_m4, zl_0, zl_1, zl_10, zl_20, zl_5, zl_60, zl_99, w2s, w4s, w1, w3, w5, w6, w7, w8, w9, w10, w11, w12] <;> omega)
                    have j63 : ((V 105 12) = (20 : Int32)) := (by simp only [zz_lt, zz_eq, zl_m2, zl_m4, zl_0, zl_1, zl_10, zl_20, zl_5, zl_60, zl_99, w2s, w4s, w1, w3, w5, w6, w7, w8, w9, w10, w11, w12] <;> omega)
                    have em : va_203 i1 i2 i3 i4 V = (-4 : Int32) := by simp only [va_203, if_neg j55, if_neg j56, if_neg j57, if_pos j58, if_neg j59, if_neg j60, if_neg j61, if_neg j62, if_pos j63]
                    have eo : vn_203 i1 i2 i3 i4 V = V := by simp only [vn_203, if_neg j55, if_neg j56, if_neg j57, if_pos j58, if_neg j59, if_neg j60, if_neg j61, if_neg j62, if_pos j63]
                    rw [em, eo]
                    refine hQ _ _ ?_
                    exact hI

set_option maxRecDepth 20000 in
/-- F_raid -/
theorem cs_152 {G : ab_G} {L : Nat} {xs : Nat → Int32} {l : Launch} {d : Nat} {i1 : Int32} {i2 : Int32} {V : aa_V} {Q : Int32 → Int32 → aa_V → Prop} (hI : nv V) (hQ : ∀ x W, nv W → Q x x W) :
    ab_E G (ac_ST L xs) l (d + 3) ac_SK 152 [.ref 0, .int i1, .int i2] V (aa_rI fun x V1 => ab_E G (ac_ST L xs) l (d + 2) ac_SK 229 [.ref 105, .int i1, .int i2] V1 (aa_rI fun y W => Q x y W)) := by
  have hI' := hI
  obtain ⟨hn, hr, hw, ha, hp, ho, hb, hk, hs, hf, ht⟩ := hI'
  have hn' := hn
  obtain ⟨n1, n2⟩ := hn'
  have n2r := zb_r n2 (by decide)
  have n2s := zb_sub1 n2 (by decide)
  have hw' := hw
  obtain ⟨⟨w1, w2, w3, w4⟩, ⟨w5, w6, w7, w8, w9, w10, w11, w12⟩, s1, s2, s3, s4, s5, s6, s7, s8⟩ := hw'
  have w2r := zb_r w2 (by decide)
  have w2s := zb_sub1 w2 (by decide)
  have w4r := zb_r w4 (by decide)
  have w4s := zb_sub1 w4 (by decide)
  have ha' := ha
  obtain ⟨⟨a1, a2⟩, ⟨a3, a4, a5⟩, a6, a7, a8⟩ := ha'
  have a2r := zb_r a2 (by decide)
  have a2s := zb_sub1 a2 (by decide)
  refine sp_152 (fun q1 q2 q3 q4 => by
    simp only [zz_lt, zz_eq, zl_m2, zl_m3, zl_m4, zl_0, zl_1, zl_11, zl_30, n2s, w2s, w4s, a2s] at q1 q2 q3 q4
    refine vp_of_r ?_ ?_ <;> omega) (fun q1 q2 q3 q4 q5 q6 => by
    simp only [zz_lt, zz_eq, zl_m2, zl_m3, zl_m4, zl_0, zl_1, zl_11, zl_30, n2s, w2s, w4s, a2s] at q1 q2 q3 q4 q5 q6
    refine vp_of_r ?_ ?_ <;> omega) ?_
  dsimp only [aa_rI, aa_rL]
  by_cases g1 : i1 < (0 : Int32)
  · have g1k := g1
    simp only [zz_lt, zz_eq, zl_m2, zl_m3, zl_m4, zl_0, zl_1, zl_11, zl_30, n2s, w2s, w4s, a2s] at g1k
    have ev : va_152 i1 i2 V = (-2 : Int32) := by simp only [va_152, if_pos g1]
    have en : vn_152 i1 i2 V = V := by simp only [vn_152, if_pos g1]
    rw [ev, en]
    refine sp_229 (fun q1 q2 q3 q4 => by
      simp only [zz_lt, zz_eq, zl_m2, zl_m3, zl_m4, zl_0, zl_1, zl_11, zl_30, n2s, w2s, w4s, a2s, n1, w1, w3, w5, w6, w7, w8, w9, w10, w11, w12, a1, a3, a4, a5] at q1 q2 q3 q4
      try simp only [n1, w1, w3, w5, w6, w7, w8, w9, w10, w11, w12, a1, a3, a4, a5]
      refine vp_of_r ?_ ?_ <;> omega) (fun q1 q2 q3 q4 q5 q6 => by
      simp only [zz_lt, zz_eq, zl_m2, zl_m3, zl_m4, zl_0, zl_1, zl_11, zl_30, n2s, w2s, w4s, a2s, n1, w1, w3, w5, w6, w7, w8, w9, w10, w11, w12, a1, a3, a4, a5] at q1 q2 q3 q4 q5 q6
      try simp only [n1, w1, w3, w5, w6, w7, w8, w9, w10, w11, w12, a1, a3, a4, a5]
      refine vp_of_r ?_ ?_ <;> omega) ?_
    dsimp only [aa_rI, aa_rL]
    have j2 : (i1 < 0) := (by simp only [zz_lt, zz_eq, zl_m2, zl_m3, zl_m4, zl_0, zl_1, zl_11, zl_30, n2s, w2s, w4s, a2s, n1, w1, w3, w5, w6, w7, w8, w9, w10, w11, w12, a1, a3, a4, a5] <;> omega)
    have em : va_229 i1 i2 V = (-2 : Int32) := by simp only [va_229, if_pos j2]
    have eo : vn_229 i1 i2 V = V := by simp only [vn_229, if_pos j2]
    rw [em, eo]
    refine hQ _ _ ?_
    exact hI
  · have g1k := g1
    simp only [zz_lt, zz_eq, zl_m2, zl_m3, zl_m4, zl_0, zl_1, zl_11, zl_30, n2s, w2s, w4s, a2s] at g1k
    by_cases g3 : ((V 29 3) - (1 : Int32)) < i1
    · have g3k := g3
      simp only [zz_lt, zz_eq, zl_m2, zl_m3, zl_m4, zl_0, zl_1, zl_11, zl_30, n2s, w2s, w4s, a2s] at g3k
      have ev : va_152 i1 i2 V = (-2 : Int32) := by simp only [va_152, if_neg g1, if_pos g3]
      have en : vn_152 i1 i2 V = V := by simp only [vn_152, if_neg g1, if_pos g3]
      rw [ev, en]
      refine sp_229 (fun q1 q2 q3 q4 => by
        simp only [zz_lt, zz_eq, zl_m2, zl_m3, zl_m4, zl_0, zl_1, zl_11, zl_30, n2s, w2s, w4s, a2s, n1, w1, w3, w5, w6, w7, w8, w9, w10, w11, w12, a1, a3, a4, a5] at q1 q2 q3 q4
        try simp only [n1, w1, w3, w5, w6, w7, w8, w9, w10, w11, w12, a1, a3, a4, a5]
        refine vp_of_r ?_ ?_ <;> omega) (fun q1 q2 q3 q4 q5 q6 => by
        simp only [zz_lt, zz_eq, zl_m2, zl_m3, zl_m4, zl_0, zl_1, zl_11, zl_30, n2s, w2s, w4s, a2s, n1, w1, w3, w5, w6, w7, w8, w9, w10, w11, w12, a1, a3, a4, a5] at q1 q2 q3 q4 q5 q6
        try simp only [n1, w1, w3, w5, w6, w7, w8, w9, w10, w11, w12, a1, a3, a4, a5]
        refine vp_of_r ?_ ?_ <;> omega) ?_
      dsimp only [aa_rI, aa_rL]
      have j4 : ¬ (i1 < 0) := (by simp only [zz_lt, zz_eq, zl_m2, zl_m3, zl_m4, zl_0, zl_1, zl_11, zl_30, n2s, w2s, w4s, a2s, n1, w1, w3, w5, w6, w7, w8, w9, w10, w11, w12, a1, a3, a4, a5] <;> omega)
      have j5 : ¬ (i1 < (V 105 12)) := (by simp only [zz_lt, zz_eq, zl_m2, zl_m3, zl_m4, zl_0, zl_1, zl_11, zl_30, n2s, w2s, w4s, a2s, n1, w1, w3, w5, w6, w7, w8, w9, w10, w11, w12, a1, a3, a4, a5] <;> omega)
      have em : va_229 i1 i2 V = (-2 : Int32) := by simp only [va_229, if_neg j4, if_neg j5]
      have eo : vn_229 i1 i2 V = V := by simp only [vn_229, if_neg j4, if_neg j5]
      rw [em, eo]
      refine hQ _ _ ?_
      exact hI
    · have g3k := g3
      simp only [zz_lt, zz_eq, zl_m2, zl_m3, zl_m4, zl_0, zl_1, zl_11, zl_30, n2s, w2s, w4s, a2s] at g3k
      by_cases g6 : i2 < (0 : Int32)
      · have g6k := g6
        simp only [zz_lt, zz_eq, zl_m2, zl_m3, zl_m4, zl_0, zl_1, zl_11, zl_30, n2s, w2s, w4s, a2s] at g6k
        have ev : va_152 i1 i2 V = (-2 : Int32) := by simp only [va_152, if_neg g1, if_neg g3, if_pos g6]
        have en : vn_152 i1 i2 V = V := by simp only [vn_152, if_neg g1, if_neg g3, if_pos g6]
        rw [ev, en]
        refine sp_229 (fun q1 q2 q3 q4 => by
          simp only [zz_lt, zz_eq, zl_m2, zl_m3, zl_m4, zl_0, zl_1, zl_11, zl_30, n2s, w2s, w4s, a2s, n1, w1, w3, w5, w6, w7, w8, w9, w10, w11, w12, a1, a3, a4, a5] at q1 q2 q3 q4
          try simp only [n1, w1, w3, w5, w6, w7, w8, w9, w10, w11, w12, a1, a3, a4, a5]
          refine vp_of_r ?_ ?_ <;> omega) (fun q1 q2 q3 q4 q5 q6 => by
          simp only [zz_lt, zz_eq, zl_m2, zl_m3, zl_m4, zl_0, zl_1, zl_11, zl_30, n2s, w2s, w4s, a2s, n1, w1, w3, w5, w6, w7, w8, w9, w10, w11, w12, a1, a3, a4, a5] at q1 q2 q3 q4 q5 q6
          try simp only [n1, w1, w3, w5, w6, w7, w8, w9, w10, w11, w12, a1, a3, a4, a5]
          refine vp_of_r ?_ ?_ <;> omega) ?_
        dsimp only [aa_rI, aa_rL]
        have j7 : ¬ (i1 < 0) := (by simp only [zz_lt, zz_eq, zl_m2, zl_m3, zl_m4, zl_0, zl_1, zl_11, zl_30, n2s, w2s, w4s, a2s, n1, w1, w3, w5, w6, w7, w8, w9, w10, w11, w12, a1, a3, a4, a5] <;> omega)
        have j8 : (i1 < (V 105 12)) := (by simp only [zz_lt, zz_eq, zl_m2, zl_m3, zl_m4, zl_0, zl_1, zl_11, zl_30, n2s, w2s, w4s, a2s, n1, w1, w3, w5, w6, w7, w8, w9, w10, w11, w12, a1, a3, a4, a5] <;> omega)
        have j9 : (i2 < (0 : Int32)) := (by simp only [zz_lt, zz_eq, zl_m2, zl_m3, zl_m4, zl_0, zl_1, zl_11, zl_30, n2s, w2s, w4s, a2s, n1, w1, w3, w5, w6, w7, w8, w9, w10, w11, w12, a1, a3, a4, a5] <;> omega)
        have em : va_229 i1 i2 V = (-2 : Int32) := by simp only [va_229, if_neg j7, if_pos j8, if_pos j9]
        have eo : vn_229 i1 i2 V = V := by simp only [vn_229, if_neg j7, if_pos j8, if_pos j9]
        rw [em, eo]
        refine hQ _ _ ?_
        exact hI
      · have g6k := g6
        simp only [zz_lt, zz_eq, zl_m2, zl_m3, zl_m4, zl_0, zl_1, zl_11, zl_30, n2s, w2s, w4s, a2s] at g6k
        by_cases g10 : (11 : Int32) < i2
        · have g10k := g10
          simp only [zz_lt, zz_eq, zl_m2, zl_m3, zl_m4, zl_0, zl_1, zl_11, zl_30, n2s, w2s, w4s, a2s] at g10k
          have ev : va_152 i1 i2 V = (-2 : Int32) := by simp only [va_152, if_neg g1, if_neg g3, if_neg g6, if_pos g10]
          have en : vn_152 i1 i2 V = V := by simp only [vn_152, if_neg g1, if_neg g3, if_neg g6, if_pos g10]
          rw [ev, en]
          refine sp_229 (fun q1 q2 q3 q4 => by
            simp only [zz_lt, zz_eq, zl_m2, zl_m3, zl_m4, zl_0, zl_1, zl_11, zl_30, n2s, w2s, w4s, a2s, n1, w1, w3, w5, w6, w7, w8, w9, w10, w11, w12, a1, a3, a4, a5] at q1 q2 q3 q4
            try simp only [n1, w1, w3, w5, w6, w7, w8, w9, w10, w11, w12, a1, a3, a4, a5]
            refine vp_of_r ?_ ?_ <;> omega) (fun q1 q2 q3 q4 q5 q6 => by
            simp only [zz_lt, zz_eq, zl_m2, zl_m3, zl_m4, zl_0, zl_1, zl_11, zl_30, n2s, w2s, w4s, a2s, n1, w1, w3, w5, w6, w7, w8, w9, w10, w11, w12, a1, a3, a4, a5] at q1 q2 q3 q4 q5 q6
            try simp only [n1, w1, w3, w5, w6, w7, w8, w9, w10, w11, w12, a1, a3, a4, a5]
            refine vp_of_r ?_ ?_ <;> omega) ?_
          dsimp only [aa_rI, aa_rL]
          have j11 : ¬ (i1 < 0) := (by simp only [zz_lt, zz_eq, zl_m2, zl_m3, zl_m4, zl_0, zl_1, zl_11, zl_30, n2s, w2s, w4s, a2s, n1, w1, w3, w5, w6, w7, w8, w9, w10, w11, w12, a1, a3, a4, a5] <;> omega)
          have j12 : (i1 < (V 105 12)) := (by simp only [zz_lt, zz_eq, zl_m2, zl_m3, zl_m4, zl_0, zl_1, zl_11, zl_30, n2s, w2s, w4s, a2s, n1, w1, w3, w5, w6, w7, w8, w9, w10, w11, w12, a1, a3, a4, a5] <;> omega)
          have j13 : ¬ (i2 < (0 : Int32)) := (by simp only [zz_lt, zz_eq, zl_m2, zl_m3, zl_m4, zl_0, zl_1, zl_11, zl_30, n2s, w2s, w4s, a2s, n1, w1, w3, w5, w6, w7, w8, w9, w10, w11, w12, a1, a3, a4, a5] <;> omega)
          have j14 : ((11 : Int32) < i2) := (by simp only [zz_lt, zz_eq, zl_m2, zl_m3, zl_m4, zl_0, zl_1, zl_11, zl_30, n2s, w2s, w4s, a2s, n1, w1, w3, w5, w6, w7, w8, w9, w10, w11, w12, a1, a3, a4, a5] <;> omega)
          have em : va_229 i1 i2 V = (-2 : Int32) := by simp only [va_229, if_neg j11, if_pos j12, if_neg j13, if_pos j14]
          have eo : vn_229 i1 i2 V = V := by simp only [vn_229, if_neg j11, if_pos j12, if_neg j13, if_pos j14]
          rw [em, eo]
          refine hQ _ _ ?_
          exact hI
        · have g10k := g10
          simp only [zz_lt, zz_eq, zl_m2, zl_m3, zl_m4, zl_0, zl_1, zl_11, zl_30, n2s, w2s, w4s, a2s] at g10k
          by_cases g15 : (V 36 ((i1).toNatClampNeg)) = 0
          · have g15k := g15
            simp only [zz_lt, zz_eq, zl_m2, zl_m3, zl_m4, zl_0, zl_1, zl_11, zl_30, n2s, w2s, w4s, a2s] at g15k
            by_cases g16 : (V 38 1) < (30 : Int32)
            · have g16k := g16
              simp only [zz_lt, zz_eq, zl_m2, zl_m3, zl_m4, zl_0, zl_1, zl_11, zl_30, n2s, w2s, w4s, a2s] at g16k
              have ev : va_152 i1 i2 V = (((V 38 1) + (1 : Int32)) - (1 : Int32)) := by simp only [va_152, if_neg g1, if_neg g3, if_neg g6, if_neg g10, if_pos g15, if_pos g16]
              have en : vn_152 i1 i2 V = (aa_up (aa_up (aa_up (aa_up (aa_up (aa_up V 36 ((i1).toNatClampNeg) (1 : Int32)) 37 ((i1).toNatClampNeg) (V 0 13)) 39 (((V 38 1)).toNatClampNeg) i1) 40 (((V 38 1)).toNatClampNeg) (V 0 13)) 41 (((V 38 1)).toNatClampNeg) i2) 38 1 ((V 38 1) + (1 : Int32))) := by simp only [vn_152, if_neg g1, if_neg g3, if_neg g6, if_neg g10, if_pos g15, if_pos g16]
              rw [ev, en]
              obtain ⟨W, hWe⟩ : ∃ W, W = (aa_up (aa_up (aa_up (aa_up (aa_up (aa_up V 36 ((i1).toNatClampNeg) (1 : Int32)) 37 ((i1).toNatClampNeg) (V 0 13)) 39 (((V 38 1)).toNatClampNeg) i1) 40 (((V 38 1)).toNatClampNeg) (V 0 13)) 41 (((V 38 1)).toNatClampNeg) i2) 38 1 ((V 38 1) + (1 : Int32))) := ⟨_, rfl⟩
              have hW : ∀ c, 104 < c → W c = V c := fun c hc => by rw [hWe, aa_up_c (by omega), aa_up_c (by omega), aa_up_c (by omega), aa_up_c (by omega), aa_up_c (by omega), aa_up_c (by omega)]
              rw [← hWe]
              refine sp_229 (fun q1 q2 q3 q4 => by
                simp only [zz_lt, zz_eq, zl_m2, zl_m3, zl_m4, zl_0, zl_1, zl_11, zl_30, n2s, w2s, w4s, a2s, hW 105 (by decide), hW 108 (by decide), hW 109 (by decide), hW 110 (by decide), hW 111 (by decide), hW 112 (by decide), hW 113 (by decide), hW 114 (by decide), hW 115 (by decide), hW 124 (by decide), hW 125 (by decide), hW 126 (by decide), n1, w1, w3, w5, w6, w7, w8, w9, w10, w11, w12, a1, a3, a4, a5] at q1 q2 q3 q4
                try simp only [n1, w1, w3, w5, w6, w7, w8, w9, w10, w11, w12, a1, a3, a4, a5, hW 105 (by decide), hW 108 (by decide), hW 109 (by decide), hW 110 (by decide), hW 111 (by decide), hW 112 (by decide), hW 113 (by decide), hW 114 (by decide), hW 115 (by decide), hW 124 (by decide), hW 125 (by decide), hW 126 (by decide)]
                refine vp_of_r ?_ ?_ <;> omega) (fun q1 q2 q3 q4 q5 q6 => by
                simp only [zz_lt, zz_eq, zl_m2, zl_m3, zl_m4, zl_0, zl_1, zl_11, zl_30, n2s, w2s, w4s, a2s, hW 105 (by decide), hW 108 (by decide), hW 109 (by decide), hW 110 (by decide), hW 111 (by decide), hW 112 (by decide), hW 113 (by decide), hW 114 (by decide), hW 115 (by decide), hW 124 (by decide), hW 125 (by decide), hW 126 (by decide), n1, w1, w3, w5, w6, w7, w8, w9, w10, w11, w12, a1, a3, a4, a5] at q1 q2 q3 q4 q5 q6
                try simp only [n1, w1, w3, w5, w6, w7, w8, w9, w10, w11, w12, a1, a3, a4, a5, hW 105 (by decide), hW 108 (by decide), hW 109 (by decide), hW 110 (by decide), hW 111 (by decide), hW 112 (by decide), hW 113 (by decide), hW 114 (by decide), hW 115 (by decide), hW 124 (by decide), hW 125 (by decide), hW 126 (by decide)]
                refine vp_of_r ?_ ?_ <;> omega) ?_
              dsimp only [aa_rI, aa_rL]
              have j17 : ¬ (i1 < 0) := (by simp only [zz_lt, zz_eq, zl_m2, zl_m3, zl_m4, zl_0, zl_1, zl_11, zl_30, n2s, w2s, w4s, a2s, hW 105 (by decide), hW 108 (by decide), hW 109 (by decide), hW 110 (by decide), hW 111 (by decide), hW 112 (by decide), hW 113 (by decide), hW 114 (by decide), hW 115 (by decide), hW 124 (by decide), hW 125 (by decide), hW 126 (by decide), n1, w1, w3, w5, w6, w7, w8, w9, w10, w11, w12, a1, a3, a4, a5] <;> omega)
              have j18 : (i1 < (W 105 12)) := (by simp only [zz_lt, zz_eq, zl_m2, zl_m3, zl_m4, zl_0, zl_1, zl_11, zl_30, n2s, w2s, w4s, a2s, hW 105 (by decide), hW 108 (by decide), hW 109 (by decide), hW 110 (by decide), hW 111 (by decide), hW 112 (by decide), hW 113 (by decide), hW 114 (by decide), hW 115 (by decide), hW 124 (by decide), hW 125 (by decide), hW 126 (by decide), n1, w1, w3, w5, w6, w7, w8, w9, w10, w11, w12, a1, a3, a4, a5] <;> omega)
              have j19 : ¬ (i2 < (0 : Int32)) := (by simp only [zz_lt, zz_eq, zl_m2, zl_m3, zl_m4, zl_0, zl_1, zl_11, zl_30, n2s, w2s, w4s, a2s, hW 105 (by decide), hW 108 (by decide), hW 109 (by decide), hW 110 (by decide), hW 111 (by decide), hW 112 (by decide), hW 113 (by decide), hW 114 (by decide), hW 115 (by decide), hW 124 (by decide), hW 125 (by decide), hW 126 (by decide), n1, w1, w3, w5, w6, w7, w8, w9, w10, w11, w12, a1, a3, a4, a5] <;> omega)
              have j20 : ¬ ((11 : Int32) < i2) := (by simp only [zz_lt, zz_eq, zl_m2, zl_m3, zl_m4, zl_0, zl_1, zl_11, zl_30, n2s, w2s, w4s, a2s, hW 105 (by decide), hW 108 (by decide), hW 109 (by decide), hW 110 (by decide), hW 111 (by decide), hW 112 (by decide), hW 113 (by decide), hW 114 (by decide), hW 115 (by decide), hW 124 (by decide), hW 125 (by decide), hW 126 (by decide), n1, w1, w3, w5, w6, w7, w8, w9, w10, w11, w12, a1, a3, a4, a5] <;> omega)
              have j21 : ((W 114 ((i1).toNatClampNeg)) = 0) := (by simp only [zz_lt, zz_eq, zl_m2, zl_m3, zl_m4, zl_0, zl_1, zl_11, zl_30, n2s, w2s, w4s, a2s, hW 105 (by decide), hW 108 (by decide), hW 109 (by decide), hW 110 (by decide), hW 111 (by decide), hW 112 (by decide), hW 113 (by decide), hW 114 (by decide), hW 115 (by decide), hW 124 (by decide), hW 125 (by decide), hW 126 (by decide), n1, w1, w3, w5, w6, w7, w8, w9, w10, w11, w12, a1, a3, a4, a5] <;> omega)
              have j22 : ¬ ((W 105 34) = (30 : Int32)) := (by simp only [zz_lt, zz_eq, zl_m2, zl_m3, zl_m4, zl_0, zl_1, zl_11, zl_30, n2s, w2s, w4s, a2s, hW 105 (by decide), hW 108 (by decide), hW 109 (by decide), hW 110 (by decide), hW 111 (by decide), hW 112 (by decide), hW 113 (by decide), hW 114 (by decide), hW 115 (by decide), hW 124 (by decide), hW 125 (by decide), hW 126 (by decide), n1, w1, w3, w5, w6, w7, w8, w9, w10, w11, w12, a1, a3, a4, a5] <;> omega)
              have em : va_229 i1 i2 W = (((W 105 34) + (1 : Int32)) - (1 : Int32)) := by simp only [va_229, if_neg j17, if_pos j18, if_neg j19, if_neg j20, if_pos j21, if_neg j22]
              have eo : vn_229 i1 i2 W = (aa_up (aa_up (aa_up (aa_up (aa_up (aa_up W 114 ((i1).toNatClampNeg) (1 : Int32)) 115 ((i1).toNatClampNeg) (W 105 2)) 124 (((W 105 34)).toNatClampNeg) i1) 125 (((W 105 34)).toNatClampNeg) (W 105 2)) 126 (((W 105 34)).toNatClampNeg) i2) 105 34 ((W 105 34) + (1 : Int32))) := by simp only [vn_229, if_neg j17, if_pos j18, if_neg j19, if_neg j20, if_pos j21, if_neg j22]
              rw [em, eo]
              have ex : (((W 105 34) + (1 : Int32)) - (1 : Int32)) = (((V 38 1) + (1 : Int32)) - (1 : Int32)) := by simp only [hW 105 (by decide), hW 108 (by decide), hW 109 (by decide), hW 110 (by decide), hW 111 (by decide), hW 112 (by decide), hW 113 (by decide), hW 114 (by decide), hW 115 (by decide), hW 124 (by decide), hW 125 (by decide), hW 126 (by decide), n1, w1, w3, w5, w6, w7, w8, w9, w10, w11, w12, a1, a3, a4, a5]
              rw [ex]
              refine hQ _ _ ?_
              try simp only [hW 105 (by decide), hW 108 (by decide), hW 109 (by decide), hW 110 (by decide), hW 111 (by decide), hW 112 (by decide), hW 113 (by decide), hW 114 (by decide), hW 115 (by decide), hW 124 (by decide), hW 125 (by decide), hW 126 (by decide), n1, w1, w3, w5, w6, w7, w8, w9, w10, w11, w12, a1, a3, a4, a5]
              rw [hWe]
              have z1 : zb i1 19 := zb_of_r (by omega) (by omega) (by decide)
              have z2 : zb i2 11 := zb_of_r (by omega) (by omega) (by decide)
              refine ⟨hn, nv_rc (V := V) (fun c _ _ => by rw [aa_up_c (by omega), aa_up_c (by omega), aa_up_c (by omega), aa_up_c (by omega), aa_up_c (by omega), aa_up_c (by omega), aa_up_c (by omega), aa_up_c (by omega), aa_up_c (by omega), aa_up_c (by omega), aa_up_c (by omega), aa_up_c (by omega)]) rfl hr, ?_, ?_, hp, ho, hb, nv_kc (V := V) (fun c _ _ => by rw [aa_up_c (by omega), aa_up_c (by omega), aa_up_c (by omega), aa_up_c (by omega), aa_up_c (by omega), aa_up_c (by omega), aa_up_c (by omega), aa_up_c (by omega), aa_up_c (by omega), aa_up_c (by omega), aa_up_c (by omega), aa_up_c (by omega)]) rfl rfl rfl hk, nv_sc (V := V) (fun c _ _ => by rw [aa_up_c (by omega), aa_up_c (by omega), aa_up_c (by omega), aa_up_c (by omega), aa_up_c (by omega), aa_up_c (by omega), aa_up_c (by omega), aa_up_c (by omega), aa_up_c (by omega), aa_up_c (by omega), aa_up_c (by omega), aa_up_c (by omega)]) rfl rfl rfl rfl rfl hs, hf, nv_tx (V := V) (fun c _ _ => by rw [aa_up_c (by omega), aa_up_c (by omega), aa_up_c (by omega), aa_up_c (by omega), aa_up_c (by omega), aa_up_c (by omega), aa_up_c (by omega), aa_up_c (by omega), aa_up_c (by omega), aa_up_c (by omega), aa_up_c (by omega), aa_up_c (by omega)]) rfl rfl rfl rfl rfl rfl rfl rfl rfl ht⟩
              · exact ⟨⟨w1, w2, w3, w4⟩, ⟨w5, w6, w7, w8, w9, w10, (show upd (V 114) i1.toNatClampNeg 1 = upd (V 36) i1.toNatClampNeg 1 from upd_eq w11), (show upd (V 115) i1.toNatClampNeg (V 0 13) = upd (V 37) i1.toNatClampNeg (V 0 13) from upd_eq w12)⟩, s1, s2, s3, s4, s5, s6, (show ∀ i, zb (upd (V 36) i1.toNatClampNeg 1 i) 2 from zb_upd s7 (zb_n (n := 1) (by decide) (by decide))), (show ∀ i, zb (upd (V 37) i1.toNatClampNeg (V 0 13) i) 399 from zb_upd s8 n2)⟩
              · exact ⟨⟨rfl, zb_up a2 (by omega) (by decide)⟩, ⟨(show upd (V 124) (V 38 1).toNatClampNeg i1 = upd (V 39) (V 38 1).toNatClampNeg i1 from upd_eq a3), (show upd (V 125) (V 38 1).toNatClampNeg (V 0 13) = upd (V 40) (V 38 1).toNatClampNeg (V 0 13) from upd_eq a4), (show upd (V 126) (V 38 1).toNatClampNeg i2 = upd (V 41) (V 38 1).toNatClampNeg i2 from upd_eq a5)⟩, (show ∀ i, zb (upd (V 39) (V 38 1).toNatClampNeg i1 i) 19 from zb_upd a6 z1), (show ∀ i, zb (upd (V 40) (V 38 1).toNatClampNeg (V 0 13) i) 399 from zb_upd a7 n2), (show ∀ i, zb (upd (V 41) (V 38 1).toNatClampNeg i2 i) 11 from zb_upd a8 z2)⟩
            · have g16k := g16
              simp only [zz_lt, zz_eq, zl_m2, zl_m3, zl_m4, zl_0, zl_1, zl_11, zl_30, n2s, w2s, w4s, a2s] at g16k
              have ev : va_152 i1 i2 V = (-4 : Int32) := by simp only [va_152, if_neg g1, if_neg g3, if_neg g6, if_neg g10, if_pos g15, if_neg g16]
              have en : vn_152 i1 i2 V = V := by simp only [vn_152, if_neg g1, if_neg g3, if_neg g6, if_neg g10, if_pos g15, if_neg g16]
              rw [ev, en]
              refine sp_229 (fun q1 q2 q3 q4 => by
                simp only [zz_lt, zz_eq, zl_m2, zl_m3, zl_m4, zl_0, zl_1, zl_11, zl_30, n2s, w2s, w4s, a2s, n1, w1, w3, w5, w6, w7, w8, w9, w10, w11, w12, a1, a3, a4, a5] at q1 q2 q3 q4
                try simp only [n1, w1, w3, w5, w6, w7, w8, w9, w10, w11, w12, a1, a3, a4, a5]
                refine vp_of_r ?_ ?_ <;> omega) (fun q1 q2 q3 q4 q5 q6 => by
                simp only [zz_lt, zz_eq, zl_m2, zl_m3, zl_m4, zl_0, zl_1, zl_11, zl_30, n2s, w2s, w4s, a2s, n1, w1, w3, w5, w6, w7, w8, w9, w10, w11, w12, a1, a3, a4, a5] at q1 q2 q3 q4 q5 q6
                try simp only [n1, w1, w3, w5, w6, w7, w8, w9, w10, w11, w12, a1, a3, a4, a5]
                refine vp_of_r ?_ ?_ <;> omega) ?_
              dsimp only [aa_rI, aa_rL]
              have j23 : ¬ (i1 < 0) := (by simp only [zz_lt, zz_eq, zl_m2, zl_m3, zl_m4, zl_0, zl_1, zl_11, zl_30, n2s, w2s, w4s, a2s, n1, w1, w3, w5, w6, w7, w8, w9, w10, w11, w12, a1, a3, a4, a5] <;> omega)
              have j24 : (i1 < (V 105 12)) := (by simp only [zz_lt, zz_eq, zl_m2, zl_m3, zl_m4, zl_0, zl_1, zl_11, zl_30, n2s, w2s, w4s, a2s, n1, w1, w3, w5, w6, w7, w8, w9, w10, w11, w12, a1, a3, a4, a5] <;> omega)
              have j25 : ¬ (i2 < (0 : Int32)) := (by simp only [zz_lt, zz_eq, zl_m2, zl_m3, zl_m4, zl_0, zl_1, zl_11, zl_30, n2s, w2s, w4s, a2s, n1, w1, w3, w5, w6, w7, w8, w9, w10, w11, w12, a1, a3, a4, a5] <;> omega)
              have j26 : ¬ ((11 : Int32) < i2) := (by simp only [zz_lt, zz_eq, zl_m2, zl_m3, zl_m4, zl_0, zl_1, zl_11, zl_30, n2s, w2s, w4s, a2s, n1, w1, w3, w5, w6, w7, w8, w9, w10, w11, w12, a1, a3, a4, a5] <;> omega)
              have j27 : ((V 114 ((i1).toNatClampNeg)) = 0) := (by simp only [zz_lt, zz_eq, zl_m2, zl_m3, zl_m4, zl_0, zl_1, zl_11, zl_30, n2s, w2s, w4s, a2s, n1, w1, w3, w5, w6, w7, w8, w9, w10, w11, w12, a1, a3, a4, a5] <;> omega)
              have j28 : ((V 105 34) = (30 : Int32)) := (by simp only [zz_lt, zz_eq, zl_m2, zl_m3, zl_m4, zl_0, zl_1, zl_11, zl_30, n2s, w2s, w4s, a2s, n1, w1, w3, w5, w6, w7, w8, w9, w10, w11, w12, a1, a3, a4, a5] <;> omega)
              have em : va_229 i1 i2 V = (-4 : Int32) := by simp only [va_229, if_neg j23, if_pos j24, if_neg j25, if_neg j26, if_pos j27, if_pos j28]
              have eo : vn_229 i1 i2 V = V := by simp only [vn_229, if_neg j23, if_pos j24, if_neg j25, if_neg j26, if_pos j27, if_pos j28]
              rw [em, eo]
              refine hQ _ _ ?_
              exact hI
          · have g15k := g15
            simp only [zz_lt, zz_eq, zl_m2, zl_m3, zl_m4, zl_0, zl_1, zl_11, zl_30, n2s, w2s, w4s, a2s] at g15k
            have ev : va_152 i1 i2 V = (-3 : Int32) := by simp only [va_152, if_neg g1, if_neg g3, if_neg g6, if_neg g10, if_neg g15]
            have en : vn_152 i1 i2 V = V := by simp only [vn_152, if_neg g1, if_neg g3, if_neg g6, if_neg g10, if_neg g15]
            rw [ev, en]
            refine sp_229 (fun q1 q2 q3 q4 => by
              simp only [zz_lt, zz_eq, zl_m2, zl_m3, zl_m4, zl_0, zl_1, zl_11, zl_30, n2s, w2s, w4s, a2s, n1, w1, w3, w5, w6, w7, w8, w9, w10, w11, w12, a1, a3, a4, a5] at q1 q2 q3 q4
              try simp only [n1, w1, w3, w5, w6, w7, w8, w9, w10, w11, w12, a1, a3, a4, a5]
              refine vp_of_r ?_ ?_ <;> omega) (fun q1 q2 q3 q4 q5 q6 => by
              simp only [zz_lt, zz_eq, zl_m2, zl_m3, zl_m4, zl_0, zl_1, zl_11, zl_30, n2s, w2s, w4s, a2s, n1, w1, w3, w5, w6, w7, w8, w9, w10, w11, w12, a1, a3, a4, a5] at q1 q2 q3 q4 q5 q6
              try simp only [n1, w1, w3, w5, w6, w7, w8, w9, w10, w11, w12, a1, a3, a4, a5]
              refine vp_of_r ?_ ?_ <;> omega) ?_
            dsimp only [aa_rI, aa_rL]
            have j29 : ¬ (i1 < 0) := (by simp only [zz_lt, zz_eq, zl_m2, zl_m3, zl_m4, zl_0, zl_1, zl_11, zl_30, n2s, w2s, w4s, a2s, n1, w1, w3, w5, w6, w7, w8, w9, w10, w11, w12, a1, a3, a4, a5] <;> omega)
            have j30 : (i1 < (V 105 12)) := (by simp only [zz_lt, zz_eq, zl_m2, zl_m3, zl_m4, zl_0, zl_1, zl_11, zl_30, n2s, w2s, w4s, a2s, n1, w1, w3, w5, w6, w7, w8, w9, w10, w11, w12, a1, a3, a4, a5] <;> omega)
            have j31 : ¬ (i2 < (0 : Int32)) := (by simp only [zz_lt, zz_eq, zl_m2, zl_m3, zl_m4, zl_0, zl_1, zl_11, zl_30, n2s, w2s, w4s, a2s, n1, w1, w3, w5, w6, w7, w8, w9, w10, w11, w12, a1, a3, a4, a5] <;> omega)
            have j32 : ¬ ((11 : Int32) < i2) := (by simp only [zz_lt, zz_eq, zl_m2, zl_m3, zl_m4, zl_0, zl_1, zl_11, zl_30, n2s, w2s, w4s, a2s, n1, w1, w3, w5, w6, w7, w8, w9, w10, w11, w12, a1, a3, a4, a5] <;> omega)
            have j33 : ¬ ((V 114 ((i1).toNatClampNeg)) = 0) := (by simp only [zz_lt, zz_eq, zl_m2, zl_m3, zl_m4, zl_0, zl_1, zl_11, zl_30, n2s, w2s, w4s, a2s, n1, w1, w3, w5, w6, w7, w8, w9, w10, w11, w12, a1, a3, a4, a5] <;> omega)
            have em : va_229 i1 i2 V = (-3 : Int32) := by simp only [va_229, if_neg j29, if_pos j30, if_neg j31, if_neg j32, if_neg j33]
            have eo : vn_229 i1 i2 V = V := by simp only [vn_229, if_neg j29, if_pos j30, if_neg j31, if_neg j32, if_neg j33]
            rw [em, eo]
            refine hQ _ _ ?_
            exact hI

set_option maxRecDepth 20000 in
/-- F_person -/
theorem cs_157 {G : ab_G} {L : Nat} {xs : Nat → Int32} {l : Launch} {d : Nat} {i1 : Int32} {V : aa_V} {Q : Int32 → Int32 → aa_V → Prop} (hI : nv V) (hQ : ∀ x W, nv W → Q x x W) :
    ab_E G (ac_ST L xs) l (d + 3) ac_SK 157 [.ref 0, .int i1] V (aa_rI fun x V1 => ab_E G (ac_ST L xs) l (d + 2) ac_SK 241 [.ref 105, .int i1] V1 (aa_rI fun y W => Q x y W)) := by
  have hI' := hI
  obtain ⟨hn, hr, hw, ha, hp, ho, hb, hk, hs, hf, ht⟩ := hI'
  have hp' := hp
  obtain ⟨⟨p1, p2, p3, p4, p5, p6⟩, ⟨p7, p8, p9, p10, p11, p12⟩, ⟨p13, p14, p15, p16, p17⟩, ⟨q1, q2, q3, q4, q5, q6⟩, q7, q8, q9, q10, q11⟩ := hp'
  have p2r := zb_r p2 (by decide)
  have p2s := zb_sub1 p2 (by decide)
  have p4r := zb_r p4 (by decide)
  have p4s := zb_sub1 p4 (by decide)
  have p6r := zb_r p6 (by decide)
  have p6s := zb_sub1 p6 (by decide)
  refine sp_157 (fun q1 q2 q3 => by
    simp only [zz_lt, zz_eq, zl_m2, zl_m4, zl_0, zl_1, zl_12, zl_7, zl_8, p2s, p4s, p6s] at q1 q2 q3
    refine vp_of_r ?_ ?_ <;> omega) ?_
  dsimp only [aa_rI, aa_rL]
  by_cases g1 : i1 < (0 : Int32)
  · have g1k := g1
    simp only [zz_lt, zz_eq, zl_m2, zl_m4, zl_0, zl_1, zl_12, zl_7, zl_8, p2s, p4s, p6s] at g1k
    have ev : va_157 i1 V = (-2 : Int32) := by simp only [va_157, if_pos g1]
    have en : vn_157 i1 V = V := by simp only [vn_157, if_pos g1]
    rw [ev, en]
    refine sp_241 (fun q1 q2 q3 => by
      simp only [zz_lt, zz_eq, zl_m2, zl_m4, zl_0, zl_1, zl_12, zl_7, zl_8, p2s, p4s, p6s, p1, p3, p5, p7, p8, p9, p10, p11, p12, p13, p14, p15, p16, p17] at q1 q2 q3
      try simp only [p1, p3, p5, p7, p8, p9, p10, p11, p12, p13, p14, p15, p16, p17]
      refine vp_of_r ?_ ?_ <;> omega) ?_
    dsimp only [aa_rI, aa_rL]
    have j2 : (i1 < 0) := (by simp only [zz_lt, zz_eq, zl_m2, zl_m4, zl_0, zl_1, zl_12, zl_7, zl_8, p2s, p4s, p6s, p1, p3, p5, p7, p8, p9, p10, p11, p12, p13, p14, p15, p16, p17] <;> omega)
    have em : va_241 i1 V = (-2 : Int32) := by simp only [va_241, if_pos j2]
    have eo : vn_241 i1 V = V := by simp only [vn_241, if_pos j2]
    rw [em, eo]
    refine hQ _ _ ?_
    exact hI
  · have g1k := g1
    simp only [zz_lt, zz_eq, zl_m2, zl_m4, zl_0, zl_1, zl_12, zl_7, zl_8, p2s, p4s, p6s] at g1k
    by_cases g3 : (7 : Int32) < i1
    · have g3k := g3
      simp only [zz_lt, zz_eq, zl_m2, zl_m4, zl_0, zl_1, zl_12, zl_7, zl_8, p2s, p4s, p6s] at g3k
      have ev : va_157 i1 V = (-2 : Int32) := by simp only [va_157, if_neg g1, if_pos g3]
      have en : vn_157 i1 V = V := by simp only [vn_157, if_neg g1, if_pos g3]
      rw [ev, en]
      refine sp_241 (fun q1 q2 q3 => by
        simp only [zz_lt, zz_eq, zl_m2, zl_m4, zl_0, zl_1, zl_12, zl_7, zl_8, p2s, p4s, p6s, p1, p3, p5, p7, p8, p9, p10, p11, p12, p13, p14, p15, p16, p17] at q1 q2 q3
        try simp only [p1, p3, p5, p7, p8, p9, p10, p11, p12, p13, p14, p15, p16, p17]
        refine vp_of_r ?_ ?_ <;> omega) ?_
      dsimp only [aa_rI, aa_rL]
      have j4 : ¬ (i1 < 0) := (by simp only [zz_lt, zz_eq, zl_m2, zl_m4, zl_0, zl_1, zl_12, zl_7, zl_8, p2s, p4s, p6s, p1, p3, p5, p7, p8, p9, p10, p11, p12, p13, p14, p15, p16, p17] <;> omega)
      have j5 : ¬ (i1 < (8 : Int32)) := (by simp only [zz_lt, zz_eq, zl_m2, zl_m4, zl_0, zl_1, zl_12, zl_7, zl_8, p2s, p4s, p6s, p1, p3, p5, p7, p8, p9, p10, p11, p12, p13, p14, p15, p16, p17] <;> omega)
      have em : va_241 i1 V = (-2 : Int32) := by simp only [va_241, if_neg j4, if_neg j5]
      have eo : vn_241 i1 V = V := by simp only [vn_241, if_neg j4, if_neg j5]
      rw [em, eo]
      refine hQ _ _ ?_
      exact hI
    · have g3k := g3
      simp only [zz_lt, zz_eq, zl_m2, zl_m4, zl_0, zl_1, zl_12, zl_7, zl_8, p2s, p4s, p6s] at g3k
      by_cases g6 : (V 42 2) < (12 : Int32)
      · have g6k := g6
        simp only [zz_lt, zz_eq, zl_m2, zl_m4, zl_0, zl_1, zl_12, zl_7, zl_8, p2s, p4s, p6s] at g6k
        have ev : va_157 i1 V = (((V 42 2) + (1 : Int32)) - (1 : Int32)) := by simp only [va_157, if_neg g1, if_neg g3, if_pos g6]
        have en : vn_157 i1 V = (aa_up (aa_up V 43 (((V 42 2)).toNatClampNeg) i1) 42 2 ((V 42 2) + (1 : Int32))) := by simp only [vn_157, if_neg g1, if_neg g3, if_pos g6]
        rw [ev, en]
        obtain ⟨W, hWe⟩ : ∃ W, W = (aa_up (aa_up V 43 (((V 42 2)).toNatClampNeg) i1) 42 2 ((V 42 2) + (1 : Int32))) := ⟨_, rfl⟩
        have hW : ∀ c, 104 < c → W c = V c := fun c hc => by rw [hWe, aa_up_c (by omega), aa_up_c (by omega)]
        rw [← hWe]
        refine sp_241 (fun q1 q2 q3 => by
          simp only [zz_lt, zz_eq, zl_m2, zl_m4, zl_0, zl_1, zl_12, zl_7, zl_8, p2s, p4s, p6s, hW 105 (by decide), hW 127 (by decide), hW 128 (by decide), hW 129 (by decide), hW 130 (by decide), hW 131 (by decide), hW 132 (by decide), hW 133 (by decide), hW 134 (by decide), hW 135 (by decide), hW 136 (by decide), hW 137 (by decide), p1, p3, p5, p7, p8, p9, p10, p11, p12, p13, p14, p15, p16, p17] at q1 q2 q3
          try simp only [p1, p3, p5, p7, p8, p9, p10, p11, p12, p13, p14, p15, p16, p17, hW 105 (by decide), hW 127 (by decide), hW 128 (by decide), hW 129 (by decide), hW 130 (by decide), hW 131 (by decide), hW 132 (by decide), hW 133 (by decide), hW 134 (by decide), hW 135 (by decide), hW 136 (by decide), hW 137 (by decide)]
          refine vp_of_r ?_ ?_ <;> omega) ?_
        dsimp only [aa_rI, aa_rL]
        have j7 : ¬ (i1 < 0) := (by simp only [zz_lt, zz_eq, zl_m2, zl_m4, zl_0, zl_1, zl_12, zl_7, zl_8, p2s, p4s, p6s, hW 105 (by decide), hW 127 (by decide), hW 128 (by decide), hW 129 (by decide), hW 130 (by decide), hW 131 (by decide), hW 132 (by decide), hW 133 (by decide), hW 134 (by decide), hW 135 (by decide), hW 136 (by decide), hW 137 (by decide), p1, p3, p5, p7, p8, p9, p10, p11, p12, p13, p14, p15, p16, p17] <;> omega)
        have j8 : (i1 < (8 : Int32)) := (by simp only [zz_lt, zz_eq, zl_m2, zl_m4, zl_0, zl_1, zl_12, zl_7, zl_8, p2s, p4s, p6s, hW 105 (by decide), hW 127 (by decide), hW 128 (by decide), hW 129 (by decide), hW 130 (by decide), hW 131 (by decide), hW 132 (by decide), hW 133 (by decide), hW 134 (by decide), hW 135 (by decide), hW 136 (by decide), hW 137 (by decide), p1, p3, p5, p7, p8, p9, p10, p11, p12, p13, p14, p15, p16, p17] <;> omega)
        have j9 : ¬ ((W 105 46) = (12 : Int32)) := (by simp only [zz_lt, zz_eq, zl_m2, zl_m4, zl_0, zl_1, zl_12, zl_7, zl_8, p2s, p4s, p6s, hW 105 (by decide), hW 127 (by decide), hW 128 (by decide), hW 129 (by decide), hW 130 (by decide), hW 131 (by decide), hW 132 (by decide), hW 133 (by decide), hW 134 (by decide), hW 135 (by decide), hW 136 (by decide), hW 137 (by decide), p1, p3, p5, p7, p8, p9, p10, p11, p12, p13, p14, p15, p16, p17] <;> omega)
        have em : va_241 i1 W = (((W 105 46) + (1 : Int32)) - (1 : Int32)) := by simp only [va_241, if_neg j7, if_pos j8, if_neg j9]
        have eo : vn_241 i1 W = (aa_up (aa_up W 127 (((W 105 46)).toNatClampNeg) i1) 105 46 ((W 105 46) + (1 : Int32))) := by simp only [vn_241, if_neg j7, if_pos j8, if_neg j9]
        rw [em, eo]
        have ex : (((W 105 46) + (1 : Int32)) - (1 : Int32)) = (((V 42 2) + (1 : Int32)) - (1 : Int32)) := by simp only [hW 105 (by decide), hW 127 (by decide), hW 128 (by decide), hW 129 (by decide), hW 130 (by decide), hW 131 (by decide), hW 132 (by decide), hW 133 (by decide), hW 134 (by decide), hW 135 (by decide), hW 136 (by decide), hW 137 (by decide), p1, p3, p5, p7, p8, p9, p10, p11, p12, p13, p14, p15, p16, p17]
        rw [ex]
        refine hQ _ _ ?_
        try simp only [hW 105 (by decide), hW 127 (by decide), hW 128 (by decide), hW 129 (by decide), hW 130 (by decide), hW 131 (by decide), hW 132 (by decide), hW 133 (by decide), hW 134 (by decide), hW 135 (by decide), hW 136 (by decide), hW 137 (by decide), p1, p3, p5, p7, p8, p9, p10, p11, p12, p13, p14, p15, p16, p17]
        rw [hWe]
        have z1 : zb i1 7 := zb_of_r (by omega) (by omega) (by decide)
        refine ⟨hn, nv_rc (V := V) (fun c _ _ => by rw [aa_up_c (by omega), aa_up_c (by omega), aa_up_c (by omega), aa_up_c (by omega)]) rfl hr, hw, ha, ?_, ho, hb, nv_kc (V := V) (fun c _ _ => by rw [aa_up_c (by omega), aa_up_c (by omega), aa_up_c (by omega), aa_up_c (by omega)]) rfl rfl rfl hk, nv_sc (V := V) (fun c _ _ => by rw [aa_up_c (by omega), aa_up_c (by omega), aa_up_c (by omega), aa_up_c (by omega)]) rfl rfl rfl rfl rfl hs, hf, nv_tx (V := V) (fun c _ _ => by rw [aa_up_c (by omega), aa_up_c (by omega), aa_up_c (by omega), aa_up_c (by omega)]) rfl rfl rfl rfl rfl rfl rfl rfl rfl ht⟩
        exact ⟨⟨rfl, zb_up p2 (by omega) (by decide), p3, p4, p5, p6⟩, ⟨(show upd (V 127) (V 42 2).toNatClampNeg i1 = upd (V 43) (V 42 2).toNatClampNeg i1 from upd_eq p7), p8, p9, p10, p11, p12⟩, ⟨p13, p14, p15, p16, p17⟩, ⟨(show ∀ i, zb (upd (V 43) (V 42 2).toNatClampNeg i1 i) 7 from zb_upd q1 z1), q2, q3, q4, q5, q6⟩, q7, q8, q9, q10, q11⟩
      · have g6k := g6
        simp only [zz_lt, zz_eq, zl_m2, zl_m4, zl_0, zl_1, zl_12, zl_7, zl_8, p2s, p4s, p6s] at g6k
        have ev : va_157 i1 V = (-4 : Int32) := by simp only [va_157, if_neg g1, if_neg g3, if_neg g6]
        have en : vn_157 i1 V = V := by simp only [vn_157, if_neg g1, if_neg g3, if_neg g6]
        rw [ev, en]
        refine sp_241 (fun q1 q2 q3 => by
          simp only [zz_lt, zz_eq, zl_m2, zl_m4, zl_0, zl_1, zl_12, zl_7, zl_8, p2s, p4s, p6s, p1, p3, p5, p7, p8, p9, p10, p11, p12, p13, p14, p15, p16, p17] at q1 q2 q3
          try simp only [p1, p3, p5, p7, p8, p9, p10, p11, p12, p13, p14, p15, p16, p17]
          refine vp_of_r ?_ ?_ <;> omega) ?_
        dsimp only [aa_rI, aa_rL]
        have j10 : ¬ (i1 < 0) := (by simp only [zz_lt, zz_eq, zl_m2, zl_m4, zl_0, zl_1, zl_12, zl_7, zl_8, p2s, p4s, p6s, p1, p3, p5, p7, p8, p9, p10, p11, p12, p13, p14, p15, p16, p17] <;> omega)
        have j11 : (i1 < (8 : Int32)) := (by simp only [zz_lt, zz_eq, zl_m2, zl_m4, zl_0, zl_1, zl_12, zl_7, zl_8, p2s, p4s, p6s, p1, p3, p5, p7, p8, p9, p10, p11, p12, p13, p14, p15, p16, p17] <;> omega)
        have j12 : ((V 105 46) = (12 : Int32)) := (by simp only [zz_lt, zz_eq, zl_m2, zl_m4, zl_0, zl_1, zl_12, zl_7, zl_8, p2s, p4s, p6s, p1, p3, p5, p7, p8, p9, p10, p11, p12, p13, p14, p15, p16, p17] <;> omega)
        have em : va_241 i1 V = (-4 : Int32) := by simp only [va_241, if_neg j10, if_pos j11, if_pos j12]
        have eo : vn_241 i1 V = V := by simp only [vn_241, if_neg j10, if_pos j11, if_pos j12]
        rw [em, eo]
        refine hQ _ _ ?_
        exact hI

set_option maxRecDepth 20000 in
/-- F_seen -/
theorem cs_158 {G : ab_G} {L : Nat} {xs : Nat → Int32} {l : Launch} {d : Nat} {i1 : Int32} {i2 : Int32} {i3 : Int32} {i4 : Int32} {V : aa_V} {Q : Int32 → Int32 → aa_V → Prop} (hI : nv V) (hQ : ∀ x W, nv W → Q x x W) :
    ab_E G (ac_ST L xs) l (d + 3) ac_SK 158 [.ref 0, .int i1, .int i2, .int i3, .int i4] V (aa_rI fun x V1 => ab_E G (ac_ST L xs) l (d + 2) ac_SK 242 [.ref 105, .int i1, .int i2, .int i3, .int i4] V1 (aa_rI fun y W => Q x y W)) := by
  have hI' := hI
  obtain ⟨hn, hr, hw, ha, hp, ho, hb, hk, hs, hf, ht⟩ := hI'
  have hn' := hn
  obtain ⟨n1, n2⟩ := hn'
  have n2r := zb_r n2 (by decide)
  have n2s := zb_sub1 n2 (by decide)
  have hp' := hp
  obtain ⟨⟨p1, p2, p3, p4, p5, p6⟩, ⟨p7, p8, p9, p10, p11, p12⟩, ⟨p13, p14, p15, p16, p17⟩, ⟨q1, q2, q3, q4, q5, q6⟩, q7, q8, q9, q10, q11⟩ := hp'
  have p2r := zb_r p2 (by decide)
  have p2s := zb_sub1 p2 (by decide)
  have p4r := zb_r p4 (by decide)
  have p4s := zb_sub1 p4 (by decide)
  have p6r := zb_r p6 (by decide)
  have p6s := zb_sub1 p6 (by decide)
  refine sp_158 (fun q1 q2 q3 q4 q5 q6 q7 q8 q9 => by
    simp only [zz_lt, zz_eq, zl_m2, zl_m4, zl_0, zl_1, zl_11, zl_40, zl_7, zl_8, n2s, p2s, p4s, p6s] at q1 q2 q3 q4 q5 q6 q7 q8 q9
    refine vp_of_r ?_ ?_ <;> omega) ?_
  dsimp only [aa_rI, aa_rL]
  by_cases g1 : i1 < (0 : Int32)
  · have g1k := g1
    simp only [zz_lt, zz_eq, zl_m2, zl_m4, zl_0, zl_1, zl_11, zl_40, zl_7, zl_8, n2s, p2s, p4s, p6s] at g1k
    have ev : va_158 i1 i2 i3 i4 V = (-2 : Int32) := by simp only [va_158, if_pos g1]
    have en : vn_158 i1 i2 i3 i4 V = V := by simp only [vn_158, if_pos g1]
    rw [ev, en]
    refine sp_242 (fun q1 q2 q3 q4 q5 q6 q7 q8 q9 => by
      simp only [zz_lt, zz_eq, zl_m2, zl_m4, zl_0, zl_1, zl_11, zl_40, zl_7, zl_8, n2s, p2s, p4s, p6s, n1, p1, p3, p5, p7, p8, p9, p10, p11, p12, p13, p14, p15, p16, p17] at q1 q2 q3 q4 q5 q6 q7 q8 q9
      try simp only [n1, p1, p3, p5, p7, p8, p9, p10, p11, p12, p13, p14, p15, p16, p17]
      refine vp_of_r ?_ ?_ <;> omega) ?_
    dsimp only [aa_rI, aa_rL]
    have j2 : (i1 < 0) := (by simp only [zz_lt, zz_eq, zl_m2, zl_m4, zl_0, zl_1, zl_11, zl_40, zl_7, zl_8, n2s, p2s, p4s, p6s, n1, p1, p3, p5, p7, p8, p9, p10, p11, p12, p13, p14, p15, p16, p17] <;> omega)
    have em : va_242 i1 i2 i3 i4 V = (-2 : Int32) := by simp only [va_242, if_pos j2]
    have eo : vn_242 i1 i2 i3 i4 V = V := by simp only [vn_242, if_pos j2]
    rw [em, eo]
    refine hQ _ _ ?_
    exact hI
  · have g1k := g1
    simp only [zz_lt, zz_eq, zl_m2, zl_m4, zl_0, zl_1, zl_11, zl_40, zl_7, zl_8, n2s, p2s, p4s, p6s] at g1k
    by_cases g3 : ((V 42 2) - (1 : Int32)) < i1
    · have g3k := g3
      simp only [zz_lt, zz_eq, zl_m2, zl_m4, zl_0, zl_1, zl_11, zl_40, zl_7, zl_8, n2s, p2s, p4s, p6s] at g3k
      have ev : va_158 i1 i2 i3 i4 V = (-2 : Int32) := by simp only [va_158, if_neg g1, if_pos g3]
      have en : vn_158 i1 i2 i3 i4 V = V := by simp only [vn_158, if_neg g1, if_pos g3]
      rw [ev, en]
      refine sp_242 (fun q1 q2 q3 q4 q5 q6 q7 q8 q9 => by
        simp only [zz_lt, zz_eq, zl_m2, zl_m4, zl_0, zl_1, zl_11, zl_40, zl_7, zl_8, n2s, p2s, p4s, p6s, n1, p1, p3, p5, p7, p8, p9, p10, p11, p12, p13, p14, p15, p16, p17] at q1 q2 q3 q4 q5 q6 q7 q8 q9
        try simp only [n1, p1, p3, p5, p7, p8, p9, p10, p11, p12, p13, p14, p15, p16, p17]
        refine vp_of_r ?_ ?_ <;> omega) ?_
      dsimp only [aa_rI, aa_rL]
      have j4 : ¬ (i1 < 0) := (by simp only [zz_lt, zz_eq, zl_m2, zl_m4, zl_0, zl_1, zl_11, zl_40, zl_7, zl_8, n2s, p2s, p4s, p6s, n1, p1, p3, p5, p7, p8, p9, p10, p11, p12, p13, p14, p15, p16, p17] <;> omega)
      have j5 : ¬ (i1 < (V 105 46)) := (by simp only [zz_lt, zz_eq, zl_m2, zl_m4, zl_0, zl_1, zl_11, zl_40, zl_7, zl_8, n2s, p2s, p4s, p6s, n1, p1, p3, p5, p7, p8, p9, p10, p11, p12, p13, p14, p15, p16, p17] <;> omega)
      have em : va_242 i1 i2 i3 i4 V = (-2 : Int32) := by simp only [va_242, if_neg j4, if_neg j5]
      have eo : vn_242 i1 i2 i3 i4 V = V := by simp only [vn_242, if_neg j4, if_neg j5]
      rw [em, eo]
      refine hQ _ _ ?_
      exact hI
    · have g3k := g3
      simp only [zz_lt, zz_eq, zl_m2, zl_m4, zl_0, zl_1, zl_11, zl_40, zl_7, zl_8, n2s, p2s, p4s, p6s] at g3k
      by_cases g6 : i2 < (0 : Int32)
      · have g6k := g6
        simp only [zz_lt, zz_eq, zl_m2, zl_m4, zl_0, zl_1, zl_11, zl_40, zl_7, zl_8, n2s, p2s, p4s, p6s] at g6k
        have ev : va_158 i1 i2 i3 i4 V = (-2 : Int32) := by simp only [va_158, if_neg g1, if_neg g3, if_pos g6]
        have en : vn_158 i1 i2 i3 i4 V = V := by simp only [vn_158, if_neg g1, if_neg g3, if_pos g6]
        rw [ev, en]
        refine sp_242 (fun q1 q2 q3 q4 q5 q6 q7 q8 q9 => by
          simp only [zz_lt, zz_eq, zl_m2, zl_m4, zl_0, zl_1, zl_11, zl_40, zl_7, zl_8, n2s, p2s, p4s, p6s, n1, p1, p3, p5, p7, p8, p9, p10, p11, p12, p13, p14, p15, p16, p17] at q1 q2 q3 q4 q5 q6 q7 q8 q9
          try simp only [n1, p1, p3, p5, p7, p8, p9, p10, p11, p12, p13, p14, p15, p16, p17]
          refine vp_of_r ?_ ?_ <;> omega) ?_
        dsimp only [aa_rI, aa_rL]
        have j7 : ¬ (i1 < 0) := (by simp only [zz_lt, zz_eq, zl_m2, zl_m4, zl_0, zl_1, zl_11, zl_40, zl_7, zl_8, n2s, p2s, p4s, p6s, n1, p1, p3, p5, p7, p8, p9, p10, p11, p12, p13, p14, p15, p16, p17] <;> omega)
        have j8 : (i1 < (V 105 46)) := (by simp only [zz_lt, zz_eq, zl_m2, zl_m4, zl_0, zl_1, zl_11, zl_40, zl_7, zl_8, n2s, p2s, p4s, p6s, n1, p1, p3, p5, p7, p8, p9, p10, p11, p12, p13, p14, p15, p16, p17] <;> omega)
        have j9 : (i2 < 0) := (by simp only [zz_lt, zz_eq, zl_m2, zl_m4, zl_0, zl_1, zl_11, zl_40, zl_7, zl_8, n2s, p2s, p4s, p6s, n1, p1, p3, p5, p7, p8, p9, p10, p11, p12, p13, p14, p15, p16, p17] <;> omega)
        have em : va_242 i1 i2 i3 i4 V = (-2 : Int32) := by simp only [va_242, if_neg j7, if_pos j8, if_pos j9]
        have eo : vn_242 i1 i2 i3 i4 V = V := by simp only [vn_242, if_neg j7, if_pos j8, if_pos j9]
        rw [em, eo]
        refine hQ _ _ ?_
        exact hI
      · have g6k := g6
        simp only [zz_lt, zz_eq, zl_m2, zl_m4, zl_0, zl_1, zl_11, zl_40, zl_7, zl_8, n2s, p2s, p4s, p6s] at g6k
        by_cases g10 : (7 : Int32) < i2
        · have g10k := g10
          simp only [zz_lt, zz_eq, zl_m2, zl_m4, zl_0, zl_1, zl_11, zl_40, zl_7, zl_8, n2s, p2s, p4s, p6s] at g10k
          have ev : va_158 i1 i2 i3 i4 V = (-2 : Int32) := by simp only [va_158, if_neg g1, if_neg g3, if_neg g6, if_pos g10]
          have en : vn_158 i1 i2 i3 i4 V = V := by simp only [vn_158, if_neg g1, if_neg g3, if_neg g6, if_pos g10]
          rw [ev, en]
          refine sp_242 (fun q1 q2 q3 q4 q5 q6 q7 q8 q9 => by
            simp only [zz_lt, zz_eq, zl_m2, zl_m4, zl_0, zl_1, zl_11, zl_40, zl_7, zl_8, n2s, p2s, p4s, p6s, n1, p1, p3, p5, p7, p8, p9, p10, p11, p12, p13, p14, p15, p16, p17] at q1 q2 q3 q4 q5 q6 q7 q8 q9
            try simp only [n1, p1, p3, p5, p7, p8, p9, p10, p11, p12, p13, p14, p15, p16, p17]
            refine vp_of_r ?_ ?_ <;> omega) ?_
          dsimp only [aa_rI, aa_rL]
          have j11 : ¬ (i1 < 0) := (by simp only [zz_lt, zz_eq, zl_m2, zl_m4, zl_0, zl_1, zl_11, zl_40, zl_7, zl_8, n2s, p2s, p4s, p6s, n1, p1, p3, p5, p7, p8, p9, p10, p11, p12, p13, p14, p15, p16, p17] <;> omega)
          have j12 : (i1 < (V 105 46)) := (by simp only [zz_lt, zz_eq, zl_m2, zl_m4, zl_0, zl_1, zl_11, zl_40, zl_7, zl_8, n2s, p2s, p4s, p6s, n1, p1, p3, p5, p7, p8, p9, p10, p11, p12, p13, p14, p15, p16, p17] <;> omega)
          have j13 : ¬ (i2 < 0) := (by simp only [zz_lt, zz_eq, zl_m2, zl_m4, zl_0, zl_1, zl_11, zl_40, zl_7, zl_8, n2s, p2s, p4s, p6s, n1, p1, p3, p5, p7, p8, p9, p10, p11, p12, p13, p14, p15, p16, p17] <;> omega)
          have j14 : ¬ (i2 < (8 : Int32)) := (by simp only [zz_lt, zz_eq, zl_m2, zl_m4, zl_0, zl_1, zl_11, zl_40, zl_7, zl_8, n2s, p2s, p4s, p6s, n1, p1, p3, p5, p7, p8, p9, p10, p11, p12, p13, p14, p15, p16, p17] <;> omega)
          have em : va_242 i1 i2 i3 i4 V = (-2 : Int32) := by simp only [va_242, if_neg j11, if_pos j12, if_neg j13, if_neg j14]
          have eo : vn_242 i1 i2 i3 i4 V = V := by simp only [vn_242, if_neg j11, if_pos j12, if_neg j13, if_neg j14]
          rw [em, eo]
          refine hQ _ _ ?_
          exact hI
        · have g10k := g10
          simp only [zz_lt, zz_eq, zl_m2, zl_m4, zl_0, zl_1, zl_11, zl_40, zl_7, zl_8, n2s, p2s, p4s, p6s] at g10k
          by_cases g15 : i3 < (0 : Int32)
          · have g15k := g15
            simp only [zz_lt, zz_eq, zl_m2, zl_m4, zl_0, zl_1, zl_11, zl_40, zl_7, zl_8, n2s, p2s, p4s, p6s] at g15k
            have ev : va_158 i1 i2 i3 i4 V = (-2 : Int32) := by simp only [va_158, if_neg g1, if_neg g3, if_neg g6, if_neg g10, if_pos g15]
            have en : vn_158 i1 i2 i3 i4 V = V := by simp only [vn_158, if_neg g1, if_neg g3, if_neg g6, if_neg g10, if_pos g15]
            rw [ev, en]
            refine sp_242 (fun q1 q2 q3 q4 q5 q6 q7 q8 q9 => by
              simp only [zz_lt, zz_eq, zl_m2, zl_m4, zl_0, zl_1, zl_11, zl_40, zl_7, zl_8, n2s, p2s, p4s, p6s, n1, p1, p3, p5, p7, p8, p9, p10, p11, p12, p13, p14, p15, p16, p17] at q1 q2 q3 q4 q5 q6 q7 q8 q9
              try simp only [n1, p1, p3, p5, p7, p8, p9, p10, p11, p12, p13, p14, p15, p16, p17]
              refine vp_of_r ?_ ?_ <;> omega) ?_
            dsimp only [aa_rI, aa_rL]
            have j16 : ¬ (i1 < 0) := (by simp only [zz_lt, zz_eq, zl_m2, zl_m4, zl_0, zl_1, zl_11, zl_40, zl_7, zl_8, n2s, p2s, p4s, p6s, n1, p1, p3, p5, p7, p8, p9, p10, p11, p12, p13, p14, p15, p16, p17] <;> omega)
            have j17 : (i1 < (V 105 46)) := (by simp only [zz_lt, zz_eq, zl_m2, zl_m4, zl_0, zl_1, zl_11, zl_40, zl_7, zl_8, n2s, p2s, p4s, p6s, n1, p1, p3, p5, p7, p8, p9, p10, p11, p12, p13, p14, p15, p16, p17] <;> omega)
            have j18 : ¬ (i2 < 0) := (by simp only [zz_lt, zz_eq, zl_m2, zl_m4, zl_0, zl_1, zl_11, zl_40, zl_7, zl_8, n2s, p2s, p4s, p6s, n1, p1, p3, p5, p7, p8, p9, p10, p11, p12, p13, p14, p15, p16, p17] <;> omega)
            have j19 : (i2 < (8 : Int32)) := (by simp only [zz_lt, zz_eq, zl_m2, zl_m4, zl_0, zl_1, zl_11, zl_40, zl_7, zl_8, n2s, p2s, p4s, p6s, n1, p1, p3, p5, p7, p8, p9, p10, p11, p12, p13, p14, p15, p16, p17] <;> omega)
            have j20 : (i3 < (0 : Int32)) := (by simp only [zz_lt, zz_eq, zl_m2, zl_m4, zl_0, zl_1, zl_11, zl_40, zl_7, zl_8, n2s, p2s, p4s, p6s, n1, p1, p3, p5, p7, p8, p9, p10, p11, p12, p13, p14, p15, p16, p17] <;> omega)
            have em : va_242 i1 i2 i3 i4 V = (-2 : Int32) := by simp only [va_242, if_neg j16, if_pos j17, if_neg j18, if_pos j19, if_pos j20]
            have eo : vn_242 i1 i2 i3 i4 V = V := by simp only [vn_242, if_neg j16, if_pos j17, if_neg j18, if_pos j19, if_pos j20]
            rw [em, eo]
            refine hQ _ _ ?_
            exact hI
          · have g15k := g15
            simp only [zz_lt, zz_eq, zl_m2, zl_m4, zl_0, zl_1, zl_11, zl_40, zl_7, zl_8, n2s, p2s, p4s, p6s] at g15k
            by_cases g21 : (V 0 13) < i3
            · have g21k := g21
              simp only [zz_lt, zz_eq, zl_m2, zl_m4, zl_0, zl_1, zl_11, zl_40, zl_7, zl_8, n2s, p2s, p4s, p6s] at g21k
              have ev : va_158 i1 i2 i3 i4 V = (-2 : Int32) := by simp only [va_158, if_neg g1, if_neg g3, if_neg g6, if_neg g10, if_neg g15, if_pos g21]
              have en : vn_158 i1 i2 i3 i4 V = V := by simp only [vn_158, if_neg g1, if_neg g3, if_neg g6, if_neg g10, if_neg g15, if_pos g21]
              rw [ev, en]
              refine sp_242 (fun q1 q2 q3 q4 q5 q6 q7 q8 q9 => by
                simp only [zz_lt, zz_eq, zl_m2, zl_m4, zl_0, zl_1, zl_11, zl_40, zl_7, zl_8, n2s, p2s, p4s, p6s, n1, p1, p3, p5, p7, p8, p9, p10, p11, p12, p13, p14, p15, p16, p17] at q1 q2 q3 q4 q5 q6 q7 q8 q9
                try simp only [n1, p1, p3, p5, p7, p8, p9, p10, p11, p12, p13, p14, p15, p16, p17]
                refine vp_of_r ?_ ?_ <;> omega) ?_
              dsimp only [aa_rI, aa_rL]
              have j22 : ¬ (i1 < 0) := (by simp only [zz_lt, zz_eq, zl_m2, zl_m4, zl_0, zl_1, zl_11, zl_40, zl_7, zl_8, n2s, p2s, p4s, p6s, n1, p1, p3, p5, p7, p8, p9, p10, p11, p12, p13, p14, p15, p16, p17] <;> omega)
              have j23 : (i1 < (V 105 46)) := (by simp only [zz_lt, zz_eq, zl_m2, zl_m4, zl_0, zl_1, zl_11, zl_40, zl_7, zl_8, n2s, p2s, p4s, p6s, n1, p1, p3, p5, p7, p8, p9, p10, p11, p12, p13, p14, p15, p16, p17] <;> omega)
              have j24 : ¬ (i2 < 0) := (by simp only [zz_lt, zz_eq, zl_m2, zl_m4, zl_0, zl_1, zl_11, zl_40, zl_7, zl_8, n2s, p2s, p4s, p6s, n1, p1, p3, p5, p7, p8, p9, p10, p11, p12, p13, p14, p15, p16, p17] <;> omega)
              have j25 : (i2 < (8 : Int32)) := (by simp only [zz_lt, zz_eq, zl_m2, zl_m4, zl_0, zl_1, zl_11, zl_40, zl_7, zl_8, n2s, p2s, p4s, p6s, n1, p1, p3, p5, p7, p8, p9, p10, p11, p12, p13, p14, p15, p16, p17] <;> omega)
              have j26 : ¬ (i3 < (0 : Int32)) := (by simp only [zz_lt, zz_eq, zl_m2, zl_m4, zl_0, zl_1, zl_11, zl_40, zl_7, zl_8, n2s, p2s, p4s, p6s, n1, p1, p3, p5, p7, p8, p9, p10, p11, p12, p13, p14, p15, p16, p17] <;> omega)
              have j27 : ((V 105 2) < i3) := (by simp only [zz_lt, zz_eq, zl_m2, zl_m4, zl_0, zl_1, zl_11, zl_40, zl_7, zl_8, n2s, p2s, p4s, p6s, n1, p1, p3, p5, p7, p8, p9, p10, p11, p12, p13, p14, p15, p16, p17] <;> omega)
              have em : va_242 i1 i2 i3 i4 V = (-2 : Int32) := by simp only [va_242, if_neg j22, if_pos j23, if_neg j24, if_pos j25, if_neg j26, if_pos j27]
              have eo : vn_242 i1 i2 i3 i4 V = V := by simp only [vn_242, if_neg j22, if_pos j23, if_neg j24, if_pos j25, if_neg j26, if_pos j27]
              rw [em, eo]
              refine hQ _ _ ?_
              exact hI
            · have g21k := g21
              simp only [zz_lt, zz_eq, zl_m2, zl_m4, zl_0, zl_1, zl_11, zl_40, zl_7, zl_8, n2s, p2s, p4s, p6s] at g21k
              by_cases g28 : i4 < (0 : Int32)
              · have g28k := g28
                simp only [zz_lt, zz_eq, zl_m2, zl_m4, zl_0, zl_1, zl_11, zl_40, zl_7, zl_8, n2s, p2s, p4s, p6s] at g28k
                have ev : va_158 i1 i2 i3 i4 V = (-2 : Int32) := by simp only [va_158, if_neg g1, if_neg g3, if_neg g6, if_neg g10, if_neg g15, if_neg g21, if_pos g28]
                have en : vn_158 i1 i2 i3 i4 V = V := by simp only [vn_158, if_neg g1, if_neg g3, if_neg g6, if_neg g10, if_neg g15, if_neg g21, if_pos g28]
                rw [ev, en]
                refine sp_242 (fun q1 q2 q3 q4 q5 q6 q7 q8 q9 => by
                  simp only [zz_lt, zz_eq, zl_m2, zl_m4, zl_0, zl_1, zl_11, zl_40, zl_7, zl_8, n2s, p2s, p4s, p6s, n1, p1, p3, p5, p7, p8, p9, p10, p11, p12, p13, p14, p15, p16, p17] at q1 q2 q3 q4 q5 q6 q7 q8 q9
                  try simp only [n1, p1, p3, p5, p7, p8, p9, p10, p11, p12, p13, p14, p15, p16, p17]
                  refine vp_of_r ?_ ?_ <;> omega) ?_
                dsimp only [aa_rI, aa_rL]
                have j29 : ¬ (i1 < 0) := (by simp only [zz_lt, zz_eq, zl_m2, zl_m4, zl_0, zl_1, zl_11, zl_40, zl_7, zl_8, n2s, p2s, p4s, p6s, n1, p1, p3, p5, p7, p8, p9, p10, p11, p12, p13, p14, p15, p16, p17] <;> omega)
                have j30 : (i1 < (V 105 46)) := (by simp only [zz_lt, zz_eq, zl_m2, zl_m4, zl_0, zl_1, zl_11, zl_40, zl_7, zl_8, n2s, p2s, p4s, p6s, n1, p1, p3, p5, p7, p8, p9, p10, p11, p12, p13, p14, p15, p16, p17] <;> omega)
                have j31 : ¬ (i2 < 0) := (by simp only [zz_lt, zz_eq, zl_m2, zl_m4, zl_0, zl_1, zl_11, zl_40, zl_7, zl_8, n2s, p2s, p4s, p6s, n1, p1, p3, p5, p7, p8, p9, p10, p11, p12, p13, p14, p15, p16, p17] <;> omega)
                have j32 : (i2 < (8 : Int32)) := (by simp only [zz_lt, zz_eq, zl_m2, zl_m4, zl_0, zl_1, zl_11, zl_40, zl_7, zl_8, n2s, p2s, p4s, p6s, n1, p1, p3, p5, p7, p8, p9, p10, p11, p12, p13, p14, p15, p16, p17] <;> omega)
                have j33 : ¬ (i3 < (0 : Int32)) := (by simp only [zz_lt, zz_eq, zl_m2, zl_m4, zl_0, zl_1, zl_11, zl_40, zl_7, zl_8, n2s, p2s, p4s, p6s, n1, p1, p3, p5, p7, p8, p9, p10, p11, p12, p13, p14, p15, p16, p17] <;> omega)
                have j34 : ¬ ((V 105 2) < i3) := (by simp only [zz_lt, zz_eq, zl_m2, zl_m4, zl_0, zl_1, zl_11, zl_40, zl_7, zl_8, n2s, p2s, p4s, p6s, n1, p1, p3, p5, p7, p8, p9, p10, p11, p12, p13, p14, p15, p16, p17] <;> omega)
                have j35 : (i4 < (0 : Int32)) := (by simp only [zz_lt, zz_eq, zl_m2, zl_m4, zl_0, zl_1, zl_11, zl_40, zl_7, zl_8, n2s, p2s, p4s, p6s, n1, p1, p3, p5, p7, p8, p9, p10, p11, p12, p13, p14, p15, p16, p17] <;> omega)
                have em : va_242 i1 i2 i3 i4 V = (-2 : Int32) := by simp only [va_242, if_neg j29, if_pos j30, if_neg j31, if_pos j32, if_neg j33, if_neg j34, if_pos j35]
                have eo : vn_242 i1 i2 i3 i4 V = V := by simp only [vn_242, if_neg j29, if_pos j30, if_neg j31, if_pos j32, if_neg j33, if_neg j34, if_pos j35]
                rw [em, eo]
                refine hQ _ _ ?_
                exact hI
              · have g28k := g28
                simp only [zz_lt, zz_eq, zl_m2, zl_m4, zl_0, zl_1, zl_11, zl_40, zl_7, zl_8, n2s, p2s, p4s, p6s] at g28k
                by_cases g36 : (11 : Int32) < i4
                · have g36k := g36
                  simp only [zz_lt, zz_eq, zl_m2, zl_m4, zl_0, zl_1, zl_11, zl_40, zl_7, zl_8, n2s, p2s, p4s, p6s] at g36k
                  have ev : va_158 i1 i2 i3 i4 V = (-2 : Int32) := by simp only [va_158, if_neg g1, if_neg g3, if_neg g6, if_neg g10, if_neg g15, if_neg g21, if_neg g28, if_pos g36]
                  have en : vn_158 i1 i2 i3 i4 V = V := by simp only [vn_158, if_neg g1, if_neg g3, if_neg g6, if_neg g10, if_neg g15, if_neg g21, if_neg g28, if_pos g36]
                  rw [ev, en]
                  refine sp_242 (fun q1 q2 q3 q4 q5 q6 q7 q8 q9 => by
                    simp only [zz_lt, zz_eq, zl_m2, zl_m4, zl_0, zl_1, zl_11, zl_40, zl_7, zl_8, n2s, p2s, p4s, p6s, n1, p1, p3, p5, p7, p8, p9, p10, p11, p12, p13, p14, p15, p16, p17] at q1 q2 q3 q4 q5 q6 q7 q8 q9
                    try simp only [n1, p1, p3, p5, p7, p8, p9, p10, p11, p12, p13, p14, p15, p16, p17]
                    refine vp_of_r ?_ ?_ <;> omega) ?_
                  dsimp only [aa_rI, aa_rL]
                  have j37 : ¬ (i1 < 0) := (by simp only [zz_lt, zz_eq, zl_m2, zl_m4, zl_0, zl_1, zl_11, zl_40, zl_7, zl_8, n2s, p2s, p4s, p6s, n1, p1, p3, p5, p7, p8, p9, p10, p11, p12, p13, p14, p15, p16, p17] <;> omega)
                  have j38 : (i1 < (V 105 46)) := (by simp only [zz_lt, zz_eq, zl_m2, zl_m4, zl_0, zl_1, zl_11, zl_40, zl_7, zl_8, n2s, p2s, p4s, p6s, n1, p1, p3, p5, p7, p8, p9, p10, p11, p12, p13, p14, p15, p16, p17] <;> omega)
                  have j39 : ¬ (i2 < 0) := (by simp only [zz_lt, zz_eq, zl_m2, zl_m4, zl_0, zl_1, zl_11, zl_40, zl_7, zl_8, n2s, p2s, p4s, p6s, n1, p1, p3, p5, p7, p8, p9, p10, p11, p12, p13, p14, p15, p16, p17] <;> omega)
                  have j40 : (i2 < (8 : Int32)) := (by simp only [zz_lt, zz_eq, zl_m2, zl_m4, zl_0, zl_1, zl_11, zl_40, zl_7, zl_8, n2s, p2s, p4s, p6s, n1, p1, p3, p5, p7, p8, p9, p10, p11, p12, p13, p14, p15, p16, p17] <;> omega)
                  have j41 : ¬ (i3 < (0 : Int32)) := (by simp only [zz_lt, zz_eq, zl_m2, zl_m4, zl_0, zl_1, zl_11, zl_40, zl_7, zl_8, n2s, p2s, p4s, p6s, n1, p1, p3, p5, p7, p8, p9, p10, p11, p12, p13, p14, p15, p16, p17] <;> omega)
                  have j42 : ¬ ((V 105 2) < i3) := (by simp only [zz_lt, zz_eq, zl_m2, zl_m4, zl_0, zl_1, zl_11, zl_40, zl_7, zl_8, n2s, p2s, p4s, p6s, n1, p1, p3, p5, p7, p8, p9, p10, p11, p12, p13, p14, p15, p16, p17] <;> omega)
                  have j43 : ¬ (i4 < (0 : Int32)) := (by simp only [zz_lt, zz_eq, zl_m2, zl_m4, zl_0, zl_1, zl_11, zl_40, zl_7, zl_8, n2s, p2s, p4s, p6s, n1, p1, p3, p5, p7, p8, p9, p10, p11, p12, p13, p14, p15, p16, p17] <;> omega)
                  have j44 : ((11 : Int32) < i4) := (by simp only [zz_lt, zz_eq, zl_m2, zl_m4, zl_0, zl_1, zl_11, zl_40, zl_7, zl_8, n2s, p2s, p4s, p6s, n1, p1, p3, p5, p7, p8, p9, p10, p11, p12, p13, p14, p15, p16, p17] <;> omega)
                  have em : va_242 i1 i2 i3 i4 V = (-2 : Int32) := by simp only [va_242, if_neg j37, if_pos j38, if_neg j39, if_pos j40, if_neg j41, if_neg j42, if_neg j43, if_pos j44]
                  have eo : vn_242 i1 i2 i3 i4 V = V := by simp only [vn_242, if_neg j37, if_pos j38, if_neg j39, if_pos j40, if_neg j41, if_neg j42, if_neg j43, if_pos j44]
                  rw [em, eo]
                  refine hQ _ _ ?_
                  exact hI
                · have g36k := g36
                  simp only [zz_lt, zz_eq, zl_m2, zl_m4, zl_0, zl_1, zl_11, zl_40, zl_7, zl_8, n2s, p2s, p4s, p6s] at g36k
                  by_cases g45 : (V 42 4) < (40 : Int32)
                  · have g45k := g45
                    simp only [zz_lt, zz_eq, zl_m2, zl_m4, zl_0, zl_1, zl_11, zl_40, zl_7, zl_8, n2s, p2s, p4s, p6s] at g45k
                    have ev : va_158 i1 i2 i3 i4 V = ((V 42 4) + (1 : Int32)) := by simp only [va_158, if_neg g1, if_neg g3, if_neg g6, if_neg g10, if_neg g15, if_neg g21, if_neg g28, if_neg g36, if_pos g45]
                    have en : vn_158 i1 i2 i3 i4 V = (aa_up (aa_up (aa_up (aa_up (aa_up (aa_up V 44 (((V 42 4)).toNatClampNeg) i1) 45 (((V 42 4)).toNatClampNeg) i2) 46 (((V 42 4)).toNatClampNeg) i3) 47 (((V 42 4)).toNatClampNeg) i4) 48 (((V 42 4)).toNatClampNeg) (V 0 13)) 42 4 ((V 42 4) + (1 : Int32))) := by simp only [vn_158, if_neg g1, if_neg g3, if_neg g6, if_neg g10, if_neg g15, if_neg g21, if_neg g28, if_neg g36, if_pos g45]
                    rw [ev, en]
                    obtain ⟨W, hWe⟩ : ∃ W, W = (aa_up (aa_up (aa_up (aa_up (aa_up (aa_up V 44 (((V 42 4)).toNatClampNeg) i1) 45 (((V 42 4)).toNatClampNeg) i2) 46 (((V 42 4)).toNatClampNeg) i3) 47 (((V 42 4)).toNatClampNeg) i4) 48 (((V 42 4)).toNatClampNeg) (V 0 13)) 42 4 ((V 42 4) + (1 : Int32))) := ⟨_, rfl⟩
                    have hW : ∀ c, 104 < c → W c = V c := fun c hc => by rw [hWe, aa_up_c (by omega), aa_up_c (by omega), aa_up_c (by omega), aa_up_c (by omega), aa_up_c (by omega), aa_up_c (by omega)]
                    rw [← hWe]
                    refine sp_242 (fun q1 q2 q3 q4 q5 q6 q7 q8 q9 => by
                      simp only [zz_lt, zz_eq, zl_m2, zl_m4, zl_0, zl_1, zl_11, zl_40, zl_7, zl_8, n2s, p2s, p4s, p6s, hW 105 (by decide), hW 127 (by decide), hW 128 (by decide), hW 129 (by decide), hW 130 (by decide), hW 131 (by decide), hW 132 (by decide), hW 133 (by decide), hW 134 (by decide), hW 135 (by decide), hW 136 (by decide), hW 137 (by decide), n1, p1, p3, p5, p7, p8, p9, p10, p11, p12, p13, p14, p15, p16, p17] at q1 q2 q3 q4 q5 q6 q7 q8 q9
                      try simp only [n1, p1, p3, p5, p7, p8, p9, p10, p11, p12, p13, p14, p15, p16, p17, hW 105 (by decide), hW 127 (by decide), hW 128 (by decide), hW 129 (by decide), hW 130 (by decide), hW 131 (by decide), hW 132 (by decide), hW 133 (by decide), hW 134 (by decide), hW 135 (by decide), hW 136 (by decide), hW 137 (by decide)]
                      refine vp_of_r ?_ ?_ <;> omega) ?_
                    dsimp only [aa_rI, aa_rL]
                    have j46 : ¬ (i1 < 0) := (by simp only [zz_lt, zz_eq, zl_m2, zl_m4, zl_0, zl_1, zl_11, zl_40, zl_7, zl_8, n2s, p2s, p4s, p6s, hW 105 (by decide), hW 127 (by decide), hW 128 (by decide), hW 129 (by decide), hW 130 (by decide), hW 131 (by decide), hW 132 (by decide), hW 133 (by decide), hW 134 (by decide), hW 135 (by decide), hW 136 (by decide), hW 137 (by decide), n1, p1, p3, p5, p7, p8, p9, p10, p11, p12, p13, p14, p15, p16, p17] <;> omega)
                    have j47 : (i1 < (W 105 46)) := (by simp only [zz_lt, zz_eq, zl_m2, zl_m4, zl_0, zl_1, zl_11, zl_40, zl_7, zl_8, n2s, p2s, p4s, p6s, hW 105 (by decide), hW 127 (by decide), hW 128 (by decide), hW 129 (by decide), hW 130 (by decide), hW 131 (by decide), hW 132 (by decide), hW 133 (by decide), hW 134 (by decide), hW 135 (by decide), hW 136 (by decide), hW 137 (by decide), n1, p1, p3, p5, p7, p8, p9, p10, p11, p12, p13, p14, p15, p16, p17] <;> omega)
                    have j48 : ¬ (i2 < 0) := (by simp only [zz_lt, zz_eq, zl_m2, zl_m4, zl_0, zl_1, zl_11, zl_40, zl_7, zl_8, n2s, p2s, p4s, p6s, hW 105 (by decide), hW 127 (by decide), hW 128 (by decide), hW 129 (by decide), hW 130 (by decide), hW 131 (by decide), hW 132 (by decide), hW 133 (by decide), hW 134 (by decide), hW 135 (by decide), hW 136 (by decide), hW 137 (by decide), n1, p1, p3, p5, p7, p8, p9, p10, p11, p12, p13, p14, p15, p16, p17] <;> omega)
                    have j49 : (i2 < (8 : Int32)) := (by simp only [zz_lt, zz_eq, zl_m2, zl_m4, zl_0, zl_1, zl_11, zl_40, zl_7, zl_8, n2s, p2s, p4s, p6s, hW 105 (by decide), hW 127 (by decide), hW 128 (by decide), hW 129 (by decide), hW 130 (by decide), hW 131 (by decide), hW 132 (by decide), hW 133 (by decide), hW 134 (by decide), hW 135 (by decide), hW 136 (by decide), hW 137 (by decide), n1, p1, p3, p5, p7, p8, p9, p10, p11, p12, p13, p14, p15, p16, p17] <;> omega)
                    have j50 : ¬ (i3 < (0 : Int32)) := (by simp only [zz_lt, zz_eq, zl_m2, zl_m4, zl_0, zl_1, zl_11, zl_40, zl_7, zl_8, n2s, p2s, p4s, p6s, hW 105 (by decide), hW 127 (by decide), hW 128 (by decide), hW 129 (by decide), hW 130 (by decide), hW 131 (by decide), hW 132 (by decide), hW 133 (by decide), hW 134 (by decide), hW 135 (by decide), hW 136 (by decide), hW 137 (by decide), n1, p1, p3, p5, p7, p8, p9, p10, p11, p12, p13, p14, p15, p16, p17] <;> omega)
                    have j51 : ¬ ((W 105 2) < i3) := (by simp only [zz_lt, zz_eq, zl_m2, zl_m4, zl_0, zl_1, zl_11, zl_40, zl_7, zl_8, n2s, p2s, p4s, p6s, hW 105 (by decide), hW 127 (by decide), hW 128 (by decide), hW 129 (by decide), hW 130 (by decide), hW 131 (by decide), hW 132 (by decide), hW 133 (by decide), hW 134 (by decide), hW 135 (by decide), hW 136 (by decide), hW 137 (by decide), n1, p1, p3, p5, p7, p8, p9, p10, p11, p12, p13, p14, p15, p16, p17] <;> omega)
                    have j52 : ¬ (i4 < (0 : Int32)) := (by simp only [zz_lt, zz_eq, zl_m2, zl_m4, zl_0, zl_1, zl_11, zl_40, zl_7, zl_8, n2s, p2s, p4s, p6s, hW 105 (by decide), hW 127 (by decide), hW 128 (by decide), hW 129 (by decide), hW 130 (by decide), hW 131 (by decide), hW 132 (by decide), hW 133 (by decide), hW 134 (by decide), hW 135 (by decide), hW 136 (by decide), hW 137 (by decide), n1, p1, p3, p5, p7, p8, p9, p10, p11, p12, p13, p14, p15, p16, p17] <;> omega)
                    have j53 : ¬ ((11 : Int32) < i4) := (by simp only [zz_lt, zz_eq, zl_m2, zl_m4, zl_0, zl_1, zl_11, zl_40, zl_7, zl_8, n2s, p2s, p4s, p6s, hW 105 (by decide), hW 127 (by decide), hW 128 (by decide), hW 129 (by decide), hW 130 (by decide), hW 131 (by decide), hW 132 (by decide), hW 133 (by decide), hW 134 (by decide), hW 135 (by decide), hW 136 (by decide), hW 137 (by decide), n1, p1, p3, p5, p7, p8, p9, p10, p11, p12, p13, p14, p15, p16, p17] <;> omega)
                    have j54 : ¬ ((W 105 47) = (40 : Int32)) := (by simp only [zz_lt, zz_eq, zl_m2, zl_m4, zl_0, zl_1, zl_11, zl_40, zl_7, zl_8, n2s, p2s, p4s, p6s, hW 105 (by decide), hW 127 (by decide), hW 128 (by decide), hW 129 (by decide), hW 130 (by decide), hW 131 (by decide), hW 132 (by decide), hW 133 (by decide), hW 134 (by decide), hW 135 (by decide), hW 136 (by decide), hW 137 (by decide), n1, p1, p3, p5, p7, p8, p9, p10, p11, p12, p13, p14, p15, p16, p17] <;> omega)
                    have em : va_242 i1 i2 i3 i4 W = ((W 105 47) + (1 : Int32)) := by simp only [va_242, if_neg j46, if_pos j47, if_neg j48, if_pos j49, if_neg j50, if_neg j51, if_neg j52, if_neg j53, if_neg j54]
                    have eo : vn_242 i1 i2 i3 i4 W = (aa_up (aa_up (aa_up (aa_up (aa_up (aa_up W 128 (((W 105 47)).toNatClampNeg) i1) 129 (((W 105 47)).toNatClampNeg) i2) 130 (((W 105 47)).toNatClampNeg) i3) 131 (((W 105 47)).toNatClampNeg) i4) 132 (((W 105 47)).toNatClampNeg) (W 105 2)) 105 47 ((W 105 47) + (1 : Int32))) := by simp only [vn_242, if_neg j46, if_pos j47, if_neg j48, if_pos j49, if_neg j50, if_neg j51, if_neg j52, if_neg j53, if_neg j54]
                    rw [em, eo]
                    have ex : ((W 105 47) + (1 : Int32)) = ((V 42 4) + (1 : Int32)) := by simp only [hW 105 (by decide), hW 127 (by decide), hW 128 (by decide), hW 129 (by decide), hW 130 (by decide), hW 131 (by decide), hW 132 (by decide), hW 133 (by decide), hW 134 (by decide), hW 135 (by decide), hW 136 (by decide), hW 137 (by decide), n1, p1, p3, p5, p7, p8, p9, p10, p11, p12, p13, p14, p15, p16, p17]
                    rw [ex]
                    refine hQ _ _ ?_
                    try simp only [hW 105 (by decide), hW 127 (by decide), hW 128 (by decide), hW 129 (by decide), hW 130 (by decide), hW 131 (by decide), hW 132 (by decide), hW 133 (by decide), hW 134 (by decide), hW 135 (by decide), hW 136 (by decide), hW 137 (by decide), n1, p1, p3, p5, p7, p8, p9, p10, p11, p12, p13, p14, p15, p16, p17]
                    rw [hWe]
                    have z1 : zb i1 11 := zb_of_r (by omega) (by omega) (by decide)
                    have z2 : zb i2 7 := zb_of_r (by omega) (by omega) (by decide)
                    have z3 : zb i3 399 := zb_of_r (by omega) (by omega) (by decide)
                    have z4 : zb i4 11 := zb_of_r (by omega) (by omega) (by decide)
                    refine ⟨hn, nv_rc (V := V) (fun c _ _ => by rw [aa_up_c (by omega), aa_up_c (by omega), aa_up_c (by omega), aa_up_c (by omega), aa_up_c (by omega), aa_up_c (by omega), aa_up_c (by omega), aa_up_c (by omega), aa_up_c (by omega), aa_up_c (by omega), aa_up_c (by omega), aa_up_c (by omega)]) rfl hr, hw, ha, ?_, ho, hb, nv_kc (V := V) (fun c _ _ => by rw [aa_up_c (by omega), aa_up_c (by omega), aa_up_c (by omega), aa_up_c (by omega), aa_up_c (by omega), aa_up_c (by omega), aa_up_c (by omega), aa_up_c (by omega), aa_up_c (by omega), aa_up_c (by omega), aa_up_c (by omega), aa_up_c (by omega)]) rfl rfl rfl hk, nv_sc (V := V) (fun c _ _ => by rw [aa_up_c (by omega), aa_up_c (by omega), aa_up_c (by omega), aa_up_c (by omega), aa_up_c (by omega), aa_up_c (by omega), aa_up_c (by omega), aa_up_c (by omega), aa_up_c (by omega), aa_up_c (by omega), aa_up_c (by omega), aa_up_c (by omega)]) rfl rfl rfl rfl rfl hs, hf, nv_tx (V := V) (fun c _ _ => by rw [aa_up_c (by omega), aa_up_c (by omega), aa_up_c (by omega), aa_up_c (by omega), aa_up_c (by omega), aa_up_c (by omega), aa_up_c (by omega), aa_up_c (by omega), aa_up_c (by omega), aa_up_c (by omega), aa_up_c (by omega), aa_up_c (by omega)]) rfl rfl rfl rfl rfl rfl rfl rfl rfl ht⟩
                    exact ⟨⟨p1, p2, rfl, zb_up p4 (by omega) (by decide), p5, p6⟩, ⟨p7, (show upd (V 128) (V 42 4).toNatClampNeg i1 = upd (V 44) (V 42 4).toNatClampNeg i1 from upd_eq p8), (show upd (V 129) (V 42 4).toNatClampNeg i2 = upd (V 45) (V 42 4).toNatClampNeg i2 from upd_eq p9), (show upd (V 130) (V 42 4).toNatClampNeg i3 = upd (V 46) (V 42 4).toNatClampNeg i3 from upd_eq p10), (show upd (V 131) (V 42 4).toNatClampNeg i4 = upd (V 47) (V 42 4).toNatClampNeg i4 from upd_eq p11), (show upd (V 132) (V 42 4).toNatClampNeg (V 0 13) = upd (V 48) (V 42 4).toNatClampNeg (V 0 13) from upd_eq p12)⟩, ⟨p13, p14, p15, p16, p17⟩, ⟨q1, (show ∀ i, zb (upd (V 44) (V 42 4).toNatClampNeg i1 i) 11 from zb_upd q2 z1), (show ∀ i, zb (upd (V 45) (V 42 4).toNatClampNeg i2 i) 7 from zb_upd q3 z2), (show ∀ i, zb (upd (V 46) (V 42 4).toNatClampNeg i3 i) 399 from zb_upd q4 z3), (show ∀ i, zb (upd (V 47) (V 42 4).toNatClampNeg i4 i) 11 from zb_upd q5 z4), (show ∀ i, zb (upd (V 48) (V 42 4).toNatClampNeg (V 0 13) i) 399 from zb_upd q6 n2)⟩, q7, q8, q9, q10, q11⟩
                  · have g45k := g45
                    simp only [zz_lt, zz_eq, zl_m2, zl_m4, zl_0, zl_1, zl_11, zl_40, zl_7, zl_8, n2s, p2s, p4s, p6s] at g45k
                    have ev : va_158 i1 i2 i3 i4 V = (-4 : Int32) := by simp only [va_158, if_neg g1, if_neg g3, if_neg g6, if_neg g10, if_neg g15, if_neg g21, if_neg g28, if_neg g36, if_neg g45]
                    have en : vn_158 i1 i2 i3 i4 V = V := by simp only [vn_158, if_neg g1, if_neg g3, if_neg g6, if_neg g10, if_neg g15, if_neg g21, if_neg g28, if_neg g36, if_neg g45]
                    rw [ev, en]
                    refine sp_242 (fun q1 q2 q3 q4 q5 q6 q7 q8 q9 => by
                      simp only [zz_lt, zz_eq, zl_m2, zl_m4, zl_0, zl_1, zl_11, zl_40, zl_7, zl_8, n2s, p2s, p4s, p6s, n1, p1, p3, p5, p7, p8, p9, p10, p11, p12, p13, p14, p15, p16, p17] at q1 q2 q3 q4 q5 q6 q7 q8 q9
                      try simp only [n1, p1, p3, p5, p7, p8, p9, p10, p11, p12, p13, p14, p15, p16, p17]
                      refine vp_of_r ?_ ?_ <;> omega) ?_
                    dsimp only [aa_rI, aa_rL]
                    have j55 : ¬ (i1 < 0) := (by simp only [zz_lt, zz_eq, zl_m2, zl_m4, zl_0, zl_1, zl_11, zl_40, zl_7, zl_8, n2s, p2s, p4s, p6s, n1, p1, p3, p5, p7, p8, p9, p10, p11, p12, p13, p14, p15, p16, p17] <;> omega)
                    have j56 : (i1 < (V 105 46)) := (by simp only [zz_lt, zz_eq, zl_m2, zl_m4, zl_0, zl_1, zl_11, zl_40, zl_7, zl_8, n2s, p2s, p4s, p6s, n1, p1, p3, p5, p7, p8, p9, p10, p11, p12, p13, p14, p15, p16, p17] <;> omega)
                    have j57 : ¬ (i2 < 0) := (by simp only [zz_lt, zz_eq, zl_m2, zl_m4, zl_0, zl_1, zl_11, zl_40, zl_7, zl_8, n2s, p2s, p4s, p6s, n1, p1, p3, p5, p7, p8, p9, p10, p11, p12, p13, p14, p15, p16, p17] <;> omega)
                    have j58 : (i2 < (8 : Int32)) := (by simp only [zz_lt, zz_eq, zl_m2, zl_m4, zl_0, zl_1, zl_11, zl_40, zl_7, zl_8, n2s, p2s, p4s, p6s, n1, p1, p3, p5, p7, p8, p9, p10, p11, p12, p13, p14, p15, p16, p17] <;> omega)
                    have j59 : ¬ (i3 < (0 : Int32)) := (by simp only [zz_lt, zz_eq, zl_m2, zl_m4, zl_0, zl_1, zl_11, zl_40, zl_7, zl_8, n2s, p2s, p4s, p6s, n1, p1, p3, p5, p7, p8, p9, p10, p11, p12, p13, p14, p15, p16, p17] <;> omega)
                    have j60 : ¬ ((V 105 2) < i3) := (by simp only [zz_lt, zz_eq, zl_m2, zl_m4, zl_0, zl_1, zl_11, zl_40, zl_7, zl_8, n2s, p2s, p4s, p6s, n1, p1, p3, p5, p7, p8, p9, p10, p11, p12, p13, p14, p15, p16, p17] <;> omega)
                    have j61 : ¬ (i4 < (0 : Int32)) := (by simp only [zz_lt, zz_eq, zl_m2, zl_m4, zl_0, zl_1, zl_11, zl_40, zl_7, zl_8, n2s, p2s, p4s, p6s, n1, p1, p3, p5, p7, p8, p9, p10, p11, p12, p13, p14, p15, p16, p17] <;> omega)
                    have j62 : ¬ ((11 : Int32) < i4) := (by simp only [zz_lt, zz_eq, zl_m2, zl_m4, zl_0, zl_1, zl_11, zl_40, zl_7, zl_8, n2s, p2s, p4s, p6s, n1, p1, p3, p5, p7, p8, p9, p10, p11, p12, p13, p14, p15, p16, p17] <;> omega)
                    have j63 : ((V 105 47) = (40 : Int32)) := (by simp only [zz_lt, zz_eq, zl_m2, zl_m4, zl_0, zl_1, zl_11, zl_40, zl_7, zl_8, n2s, p2s, p4s, p6s, n1, p1, p3, p5, p7, p8, p9, p10, p11, p12, p13, p14, p15, p16, p17] <;> omega)
                    have em : va_242 i1 i2 i3 i4 V = (-4 : Int32) := by simp only [va_242, if_neg j55, if_pos j56, if_neg j57, if_pos j58, if_neg j59, if_neg j60, if_neg j61, if_neg j62, if_pos j63]
                    have eo : vn_242 i1 i2 i3 i4 V = V := by simp only [vn_242, if_neg j55, if_pos j56, if_neg j57, if_pos j58, if_neg j59, if_neg j60, if_neg j61, if_neg j62, if_pos j63]
                    rw [em, eo]
                    refine hQ _ _ ?_
                    exact hI

set_option maxRecDepth 20000 in
/-- F_word -/
theorem cs_161 {G : ab_G} {L : Nat} {xs : Nat → Int32} {l : Launch} {d : Nat} {i1 : Int32} {i2 : Int32} {i3 : Int32} {i4 : Int32} {V : aa_V} {Q : Int32 → Int32 → aa_V → Prop} (hI : nv V) (hQ : ∀ x W, nv W → Q x x W) :
    ab_E G (ac_ST L xs) l (d + 3) ac_SK 161 [.ref 0, .int i1, .int i2, .int i3, .int i4] V (aa_rI fun x V1 => ab_E G (ac_ST L xs) l (d + 2) ac_SK 249 [.ref 105, .int i1, .int i2, .int i3, .int i4] V1 (aa_rI fun y W => Q x y W)) := by
  have hI' := hI
  obtain ⟨hn, hr, hw, ha, hp, ho, hb, hk, hs, hf, ht⟩ := hI'
  have hn' := hn
  obtain ⟨n1, n2⟩ := hn'
  have n2r := zb_r n2 (by decide)
  have n2s := zb_sub1 n2 (by decide)
  have ha' := ha
  obtain ⟨⟨a1, a2⟩, ⟨a3, a4, a5⟩, a6, a7, a8⟩ := ha'
  have a2r := zb_r a2 (by decide)
  have a2s := zb_sub1 a2 (by decide)
  have hp' := hp
  obtain ⟨⟨p1, p2, p3, p4, p5, p6⟩, ⟨p7, p8, p9, p10, p11, p12⟩, ⟨p13, p14, p15, p16, p17⟩, ⟨q1, q2, q3, q4, q5, q6⟩, q7, q8, q9, q10, q11⟩ := hp'
  have p2r := zb_r p2 (by decide)
  have p2s := zb_sub1 p2 (by decide)
  have p4r := zb_r p4 (by decide)
  have p4s := zb_sub1 p4 (by decide)
  have p6r := zb_r p6 (by decide)
  have p6s := zb_sub1 p6 (by decide)
  refine sp_161 (fun q1 q2 q3 q4 q5 q6 q7 q8 q9 => by
    simp only [zz_lt, zz_eq, zl_m2, zl_m4, zl_0, zl_1, zl_24, zl_5, zl_999, n2s, a2s, p2s, p4s, p6s] at q1 q2 q3 q4 q5 q6 q7 q8 q9
    refine vp_of_r ?_ ?_ <;> omega) ?_
  dsimp only [aa_rI, aa_rL]
  by_cases g1 : i1 < (0 : Int32)
  · have g1k := g1
    simp only [zz_lt, zz_eq, zl_m2, zl_m4, zl_0, zl_1, zl_24, zl_5, zl_999, n2s, a2s, p2s, p4s, p6s] at g1k
    have ev : va_161 i1 i2 i3 i4 V = (-2 : Int32) := by simp only [va_161, if_pos g1]
    have en : vn_161 i1 i2 i3 i4 V = V := by simp only [vn_161, if_pos g1]
    rw [ev, en]
    refine sp_249 (fun q1 q2 q3 q4 q5 q6 q7 q8 q9 => by
      simp only [zz_lt, zz_eq, zl_m2, zl_m4, zl_0, zl_1, zl_24, zl_5, zl_999, n2s, a2s, p2s, p4s, p6s, n1, a1, a3, a4, a5, p1, p3, p5, p7, p8, p9, p10, p11, p12, p13, p14, p15, p16, p17] at q1 q2 q3 q4 q5 q6 q7 q8 q9
      try simp only [n1, a1, a3, a4, a5, p1, p3, p5, p7, p8, p9, p10, p11, p12, p13, p14, p15, p16, p17]
      refine vp_of_r ?_ ?_ <;> omega) ?_
    dsimp only [aa_rI, aa_rL]
    have j2 : (i1 < (0 : Int32)) := (by simp only [zz_lt, zz_eq, zl_m2, zl_m4, zl_0, zl_1, zl_24, zl_5, zl_999, n2s, a2s, p2s, p4s, p6s, n1, a1, a3, a4, a5, p1, p3, p5, p7, p8, p9, p10, p11, p12, p13, p14, p15, p16, p17] <;> omega)
    have em : va_249 i1 i2 i3 i4 V = (-2 : Int32) := by simp only [va_249, if_pos j2]
    have eo : vn_249 i1 i2 i3 i4 V = V := by simp only [vn_249, if_pos j2]
    rw [em, eo]
    refine hQ _ _ ?_
    exact hI
  · have g1k := g1
    simp only [zz_lt, zz_eq, zl_m2, zl_m4, zl_0, zl_1, zl_24, zl_5, zl_999, n2s, a2s, p2s, p4s, p6s] at g1k
    by_cases g3 : (5 : Int32) < i1
    · have g3k := g3
      simp only [zz_lt, zz_eq, zl_m2, zl_m4, zl_0, zl_1, zl_24, zl_5, zl_999, n2s, a2s, p2s, p4s, p6s] at g3k
      have ev : va_161 i1 i2 i3 i4 V = (-2 : Int32) := by simp only [va_161, if_neg g1, if_pos g3]
      have en : vn_161 i1 i2 i3 i4 V = V := by simp only [vn_161, if_neg g1, if_pos g3]
      rw [ev, en]
      refine sp_249 (fun q1 q2 q3 q4 q5 q6 q7 q8 q9 => by
        simp only [zz_lt, zz_eq, zl_m2, zl_m4, zl_0, zl_1, zl_24, zl_5, zl_999, n2s, a2s, p2s, p4s, p6s, n1, a1, a3, a4, a5, p1, p3, p5, p7, p8, p9, p10, p11, p12, p13, p14, p15, p16, p17] at q1 q2 q3 q4 q5 q6 q7 q8 q9
        try simp only [n1, a1, a3, a4, a5, p1, p3, p5, p7, p8, p9, p10, p11, p12, p13, p14, p15, p16, p17]
        refine vp_of_r ?_ ?_ <;> omega) ?_
      dsimp only [aa_rI, aa_rL]
      have j4 : ¬ (i1 < (0 : Int32)) := (by simp only [zz_lt, zz_eq, zl_m2, zl_m4, zl_0, zl_1, zl_24, zl_5, zl_999, n2s, a2s, p2s, p4s, p6s, n1, a1, a3, a4, a5, p1, p3, p5, p7, p8, p9, p10, p11, p12, p13, p14, p15, p16, p17] <;> omega)
      have j5 : ((5 : Int32) < i1) := (by simp only [zz_lt, zz_eq, zl_m2, zl_m4, zl_0, zl_1, zl_24, zl_5, zl_999, n2s, a2s, p2s, p4s, p6s, n1, a1, a3, a4, a5, p1, p3, p5, p7, p8, p9, p10, p11, p12, p13, p14, p15, p16, p17] <;> omega)
      have em : va_249 i1 i2 i3 i4 V = (-2 : Int32) := by simp only [va_249, if_neg j4, if_pos j5]
      have eo : vn_249 i1 i2 i3 i4 V = V := by simp only [vn_249, if_neg j4, if_pos j5]
      rw [em, eo]
      refine hQ _ _ ?_
      exact hI
    · have g3k := g3
      simp only [zz_lt, zz_eq, zl_m2, zl_m4, zl_0, zl_1, zl_24, zl_5, zl_999, n2s, a2s, p2s, p4s, p6s] at g3k
      by_cases g6 : i2 < (0 : Int32)
      · have g6k := g6
        simp only [zz_lt, zz_eq, zl_m2, zl_m4, zl_0, zl_1, zl_24, zl_5, zl_999, n2s, a2s, p2s, p4s, p6s] at g6k
        have ev : va_161 i1 i2 i3 i4 V = (-2 : Int32) := by simp only [va_161, if_neg g1, if_neg g3, if_pos g6]
        have en : vn_161 i1 i2 i3 i4 V = V := by simp only [vn_161, if_neg g1, if_neg g3, if_pos g6]
        rw [ev, en]
        refine sp_249 (fun q1 q2 q3 q4 q5 q6 q7 q8 q9 => by
          simp only [zz_lt, zz_eq, zl_m2, zl_m4, zl_0, zl_1, zl_24, zl_5, zl_999, n2s, a2s, p2s, p4s, p6s, n1, a1, a3, a4, a5, p1, p3, p5, p7, p8, p9, p10, p11, p12, p13, p14, p15, p16, p17] at q1 q2 q3 q4 q5 q6 q7 q8 q9
          try simp only [n1, a1, a3, a4, a5, p1, p3, p5, p7, p8, p9, p10, p11, p12, p13, p14, p15, p16, p17]
          refine vp_of_r ?_ ?_ <;> omega) ?_
        dsimp only [aa_rI, aa_rL]
        have j7 : ¬ (i1 < (0 : Int32)) := (by simp only [zz_lt, zz_eq, zl_m2, zl_m4, zl_0, zl_1, zl_24, zl_5, zl_999, n2s, a2s, p2s, p4s, p6s, n1, a1, a3, a4, a5, p1, p3, p5, p7, p8, p9, p10, p11, p12, p13, p14, p15, p16, p17] <;> omega)
        have j8 : ¬ ((5 : Int32) < i1) := (by simp only [zz_lt, zz_eq, zl_m2, zl_m4, zl_0, zl_1, zl_24, zl_5, zl_999, n2s, a2s, p2s, p4s, p6s, n1, a1, a3, a4, a5, p1, p3, p5, p7, p8, p9, p10, p11, p12, p13, p14, p15, p16, p17] <;> omega)
        have j9 : (i2 < 0) := (by simp only [zz_lt, zz_eq, zl_m2, zl_m4, zl_0, zl_1, zl_24, zl_5, zl_999, n2s, a2s, p2s, p4s, p6s, n1, a1, a3, a4, a5, p1, p3, p5, p7, p8, p9, p10, p11, p12, p13, p14, p15, p16, p17] <;> omega)
        have em : va_249 i1 i2 i3 i4 V = (-2 : Int32) := by simp only [va_249, if_neg j7, if_neg j8, if_pos j9]
        have eo : vn_249 i1 i2 i3 i4 V = V := by simp only [vn_249, if_neg j7, if_neg j8, if_pos j9]
        rw [em, eo]
        refine hQ _ _ ?_
        exact hI
      · have g6k := g6
        simp only [zz_lt, zz_eq, zl_m2, zl_m4, zl_0, zl_1, zl_24, zl_5, zl_999, n2s, a2s, p2s, p4s, p6s] at g6k
        by_cases g10 : ((V 42 2) - (1 : Int32)) < i2
        · have g10k := g10
          simp only [zz_lt, zz_eq, zl_m2, zl_m4, zl_0, zl_1, zl_24, zl_5, zl_999, n2s, a2s, p2s, p4s, p6s] at g10k
          have ev : va_161 i1 i2 i3 i4 V = (-2 : Int32) := by simp only [va_161, if_neg g1, if_neg g3, if_neg g6, if_pos g10]
          have en : vn_161 i1 i2 i3 i4 V = V := by simp only [vn_161, if_neg g1, if_neg g3, if_neg g6, if_pos g10]
          rw [ev, en]
          refine sp_249 (fun q1 q2 q3 q4 q5 q6 q7 q8 q9 => by
            simp only [zz_lt, zz_eq, zl_m2, zl_m4, zl_0, zl_1, zl_24, zl_5, zl_999, n2s, a2s, p2s, p4s, p6s, n1, a1, a3, a4, a5, p1, p3, p5, p7, p8, p9, p10, p11, p12, p13, p14, p15, p16, p17] at q1 q2 q3 q4 q5 q6 q7 q8 q9
            try simp only [n1, a1, a3, a4, a5, p1, p3, p5, p7, p8, p9, p10, p11, p12, p13, p14, p15, p16, p17]
            refine vp_of_r ?_ ?_ <;> omega) ?_
          dsimp only [aa_rI, aa_rL]
          have j11 : ¬ (i1 < (0 : Int32)) := (by simp only [zz_lt, zz_eq, zl_m2, zl_m4, zl_0, zl_1, zl_24, zl_5, zl_999, n2s, a2s, p2s, p4s, p6s, n1, a1, a3, a4, a5, p1, p3, p5, p7, p8, p9, p10, p11, p12, p13, p14, p15, p16, p17] <;> omega)
          have j12 : ¬ ((5 : Int32) < i1) := (by simp only [zz_lt, zz_eq, zl_m2, zl_m4, zl_0, zl_1, zl_24, zl_5, zl_999, n2s, a2s, p2s, p4s, p6s, n1, a1, a3, a4, a5, p1, p3, p5, p7, p8, p9, p10, p11, p12, p13, p14, p15, p16, p17] <;> omega)
          have j13 : ¬ (i2 < 0) := (by simp only [zz_lt, zz_eq, zl_m2, zl_m4, zl_0, zl_1, zl_24, zl_5, zl_999, n2s, a2s, p2s, p4s, p6s, n1, a1, a3, a4, a5, p1, p3, p5, p7, p8, p9, p10, p11, p12, p13, p14, p15, p16, p17] <;> omega)
          have j14 : ¬ (i2 < (V 105 46)) := (by simp only [zz_lt, zz_eq, zl_m2, zl_m4, zl_0, zl_1, zl_24, zl_5, zl_999, n2s, a2s, p2s, p4s, p6s, n1, a1, a3, a4, a5, p1, p3, p5, p7, p8, p9, p10, p11, p12, p13, p14, p15, p16, p17] <;> omega)
          have em : va_249 i1 i2 i3 i4 V = (-2 : Int32) := by simp only [va_249, if_neg j11, if_neg j12, if_neg j13, if_neg j14]
          have eo : vn_249 i1 i2 i3 i4 V = V := by simp only [vn_249, if_neg j11, if_neg j12, if_neg j13, if_neg j14]
          rw [em, eo]
          refine hQ _ _ ?_
          exact hI
        · have g10k := g10
          simp only [zz_lt, zz_eq, zl_m2, zl_m4, zl_0, zl_1, zl_24, zl_5, zl_999, n2s, a2s, p2s, p4s, p6s] at g10k
          by_cases g15 : i3 < (0 : Int32)
          · have g15k := g15
            simp only [zz_lt, zz_eq, zl_m2, zl_m4, zl_0, zl_1, zl_24, zl_5, zl_999, n2s, a2s, p2s, p4s, p6s] at g15k
            have ev : va_161 i1 i2 i3 i4 V = (-2 : Int32) := by simp only [va_161, if_neg g1, if_neg g3, if_neg g6, if_neg g10, if_pos g15]
            have en : vn_161 i1 i2 i3 i4 V = V := by simp only [vn_161, if_neg g1, if_neg g3, if_neg g6, if_neg g10, if_pos g15]
            rw [ev, en]
            refine sp_249 (fun q1 q2 q3 q4 q5 q6 q7 q8 q9 => by
              simp only [zz_lt, zz_eq, zl_m2, zl_m4, zl_0, zl_1, zl_24, zl_5, zl_999, n2s, a2s, p2s, p4s, p6s, n1, a1, a3, a4, a5, p1, p3, p5, p7, p8, p9, p10, p11, p12, p13, p14, p15, p16, p17] at q1 q2 q3 q4 q5 q6 q7 q8 q9
              try simp only [n1, a1, a3, a4, a5, p1, p3, p5, p7, p8, p9, p10, p11, p12, p13, p14, p15, p16, p17]
              refine vp_of_r ?_ ?_ <;> omega) ?_
            dsimp only [aa_rI, aa_rL]
            have j16 : ¬ (i1 < (0 : Int32)) := (by simp only [zz_lt, zz_eq, zl_m2, zl_m4, zl_0, zl_1, zl_24, zl_5, zl_999, n2s, a2s, p2s, p4s, p6s, n1, a1, a3, a4, a5, p1, p3, p5, p7, p8, p9, p10, p11, p12, p13, p14, p15, p16, p17] <;> omega)
            have j17 : ¬ ((5 : Int32) < i1) := (by simp only [zz_lt, zz_eq, zl_m2, zl_m4, zl_0, zl_1, zl_24, zl_5, zl_999, n2s, a2s, p2s, p4s, p6s, n1, a1, a3, a4, a5, p1, p3, p5, p7, p8, p9, p10, p11, p12, p13, p14, p15, p16, p17] <;> omega)
            have j18 : ¬ (i2 < 0) := (by simp only [zz_lt, zz_eq, zl_m2, zl_m4, zl_0, zl_1, zl_24, zl_5, zl_999, n2s, a2s, p2s, p4s, p6s, n1, a1, a3, a4, a5, p1, p3, p5, p7, p8, p9, p10, p11, p12, p13, p14, p15, p16, p17] <;> omega)
            have j19 : (i2 < (V 105 46)) := (by simp only [zz_lt, zz_eq, zl_m2, zl_m4, zl_0, zl_1, zl_24, zl_5, zl_999, n2s, a2s, p2s, p4s, p6s, n1, a1, a3, a4, a5, p1, p3, p5, p7, p8, p9, p10, p11, p12, p13, p14, p15, p16, p17] <;> omega)
            have j20 : (i3 < (0 : Int32)) := (by simp only [zz_lt, zz_eq, zl_m2, zl_m4, zl_0, zl_1, zl_24, zl_5, zl_999, n2s, a2s, p2s, p4s, p6s, n1, a1, a3, a4, a5, p1, p3, p5, p7, p8, p9, p10, p11, p12, p13, p14, p15, p16, p17] <;> omega)
            have em : va_249 i1 i2 i3 i4 V = (-2 : Int32) := by simp only [va_249, if_neg j16, if_neg j17, if_neg j18, if_pos j19, if_pos j20]
            have eo : vn_249 i1 i2 i3 i4 V = V := by simp only [vn_249, if_neg j16, if_neg j17, if_neg j18, if_pos j19, if_pos j20]
            rw [em, eo]
            refine hQ _ _ ?_
            exact hI
          · have g15k := g15
            simp only [zz_lt, zz_eq, zl_m2, zl_m4, zl_0, zl_1, zl_24, zl_5, zl_999, n2s, a2s, p2s, p4s, p6s] at g15k
            by_cases g21 : ((V 38 1) - (1 : Int32)) < i3
            · have g21k := g21
              simp only [zz_lt, zz_eq, zl_m2, zl_m4, zl_0, zl_1, zl_24, zl_5, zl_999, n2s, a2s, p2s, p4s, p6s] at g21k
              have ev : va_161 i1 i2 i3 i4 V = (-2 : Int32) := by simp only [va_161, if_neg g1, if_neg g3, if_neg g6, if_neg g10, if_neg g15, if_pos g21]
              have en : vn_161 i1 i2 i3 i4 V = V := by simp only [vn_161, if_neg g1, if_neg g3, if_neg g6, if_neg g10, if_neg g15, if_pos g21]
              rw [ev, en]
              refine sp_249 (fun q1 q2 q3 q4 q5 q6 q7 q8 q9 => by
                simp only [zz_lt, zz_eq, zl_m2, zl_m4, zl_0, zl_1, zl_24, zl_5, zl_999, n2s, a2s, p2s, p4s, p6s, n1, a1, a3, a4, a5, p1, p3, p5, p7, p8, p9, p10, p11, p12, p13, p14, p15, p16, p17] at q1 q2 q3 q4 q5 q6 q7 q8 q9
                try simp only [n1, a1, a3, a4, a5, p1, p3, p5, p7, p8, p9, p10, p11, p12, p13, p14, p15, p16, p17]
                refine vp_of_r ?_ ?_ <;> omega) ?_
              dsimp only [aa_rI, aa_rL]
              have j22 : ¬ (i1 < (0 : Int32)) := (by simp only [zz_lt, zz_eq, zl_m2, zl_m4, zl_0, zl_1, zl_24, zl_5, zl_999, n2s, a2s, p2s, p4s, p6s, n1, a1, a3, a4, a5, p1, p3, p5, p7, p8, p9, p10, p11, p12, p13, p14, p15, p16, p17] <;> omega)
              have j23 : ¬ ((5 : Int32) < i1) := (by simp only [zz_lt, zz_eq, zl_m2, zl_m4, zl_0, zl_1, zl_24, zl_5, zl_999, n2s, a2s, p2s, p4s, p6s, n1, a1, a3, a4, a5, p1, p3, p5, p7, p8, p9, p10, p11, p12, p13, p14, p15, p16, p17] <;> omega)
              have j24 : ¬ (i2 < 0) := (by simp only [zz_lt, zz_eq, zl_m2, zl_m4, zl_0, zl_1, zl_24, zl_5, zl_999, n2s, a2s, p2s, p4s, p6s, n1, a1, a3, a4, a5, p1, p3, p5, p7, p8, p9, p10, p11, p12, p13, p14, p15, p16, p17] <;> omega)
              have j25 : (i2 < (V 105 46)) := (by simp only [zz_lt, zz_eq, zl_m2, zl_m4, zl_0, zl_1, zl_24, zl_5, zl_999, n2s, a2s, p2s, p4s, p6s, n1, a1, a3, a4, a5, p1, p3, p5, p7, p8, p9, p10, p11, p12, p13, p14, p15, p16, p17] <;> omega)
              have j26 : ¬ (i3 < (0 : Int32)) := (by simp only [zz_lt, zz_eq, zl_m2, zl_m4, zl_0, zl_1, zl_24, zl_5, zl_999, n2s, a2s, p2s, p4s, p6s, n1, a1, a3, a4, a5, p1, p3, p5, p7, p8, p9, p10, p11, p12, p13, p14, p15, p16, p17] <;> omega)
              have j27 : (((V 105 34) - (1 : Int32)) < i3) := (by simp only [zz_lt, zz_eq, zl_m2, zl_m4, zl_0, zl_1, zl_24, zl_5, zl_999, n2s, a2s, p2s, p4s, p6s, n1, a1, a3, a4, a5, p1, p3, p5, p7, p8, p9, p10, p11, p12, p13, p14, p15, p16, p17] <;> omega)
              have em : va_249 i1 i2 i3 i4 V = (-2 : Int32) := by simp only [va_249, if_neg j22, if_neg j23, if_neg j24, if_pos j25, if_neg j26, if_pos j27]
              have eo : vn_249 i1 i2 i3 i4 V = V := by simp only [vn_249, if_neg j22, if_neg j23, if_neg j24, if_pos j25, if_neg j26, if_pos j27]
              rw [em, eo]
              refine hQ _ _ ?_
              exact hI
            · have g21k := g21
              simp only [zz_lt, zz_eq, zl_m2, zl_m4, zl_0, zl_1, zl_24, zl_5, zl_999, n2s, a2s, p2s, p4s, p6s] at g21k
              by_cases g28 : i4 < (0 : Int32)
              · have g28k := g28
                simp only [zz_lt, zz_eq, zl_m2, zl_m4, zl_0, zl_1, zl_24, zl_5, zl_999, n2s, a2s, p2s, p4s, p6s] at g28k
                have ev : va_161 i1 i2 i3 i4 V = (-2 : Int32) := by simp only [va_161, if_neg g1, if_neg g3, if_neg g6, if_neg g10, if_neg g15, if_neg g21, if_pos g28]
                have en : vn_161 i1 i2 i3 i4 V = V := by simp only [vn_161, if_neg g1, if_neg g3, if_neg g6, if_neg g10, if_neg g15, if_neg g21, if_pos g28]
                rw [ev, en]
                refine sp_249 (fun q1 q2 q3 q4 q5 q6 q7 q8 q9 => by
                  simp only [zz_lt, zz_eq, zl_m2, zl_m4, zl_0, zl_1, zl_24, zl_5, zl_999, n2s, a2s, p2s, p4s, p6s, n1, a1, a3, a4, a5, p1, p3, p5, p7, p8, p9, p10, p11, p12, p13, p14, p15, p16, p17] at q1 q2 q3 q4 q5 q6 q7 q8 q9
                  try simp only [n1, a1, a3, a4, a5, p1, p3, p5, p7, p8, p9, p10, p11, p12, p13, p14, p15, p16, p17]
                  refine vp_of_r ?_ ?_ <;> omega) ?_
                dsimp only [aa_rI, aa_rL]
                have j29 : ¬ (i1 < (0 : Int32)) := (by simp only [zz_lt, zz_eq, zl_m2, zl_m4, zl_0, zl_1, zl_24, zl_5, zl_999, n2s, a2s, p2s, p4s, p6s, n1, a1, a3, a4, a5, p1, p3, p5, p7, p8, p9, p10, p11, p12, p13, p14, p15, p16, p17] <;> omega)
                have j30 : ¬ ((5 : Int32) < i1) := (by simp only [zz_lt, zz_eq, zl_m2, zl_m4, zl_0, zl_1, zl_24, zl_5, zl_999, n2s, a2s, p2s, p4s, p6s, n1, a1, a3, a4, a5, p1, p3, p5, p7, p8, p9, p10, p11, p12, p13, p14, p15, p16, p17] <;> omega)
                have j31 : ¬ (i2 < 0) := (by simp only [zz_lt, zz_eq, zl_m2, zl_m4, zl_0, zl_1, zl_24, zl_5, zl_999, n2s, a2s, p2s, p4s, p6s, n1, a1, a3, a4, a5, p1, p3, p5, p7, p8, p9, p10, p11, p12, p13, p14, p15, p16, p17] <;> omega)
                have j32 : (i2 < (V 105 46)) := (by simp only [zz_lt, zz_eq, zl_m2, zl_m4, zl_0, zl_1, zl_24, zl_5, zl_999, n2s, a2s, p2s, p4s, p6s, n1, a1, a3, a4, a5, p1, p3, p5, p7, p8, p9, p10, p11, p12, p13, p14, p15, p16, p17] <;> omega)
                have j33 : ¬ (i3 < (0 : Int32)) := (by simp only [zz_lt, zz_eq, zl_m2, zl_m4, zl_0, zl_1, zl_24, zl_5, zl_999, n2s, a2s, p2s, p4s, p6s, n1, a1, a3, a4, a5, p1, p3, p5, p7, p8, p9, p10, p11, p12, p13, p14, p15, p16, p17] <;> omega)
                have j34 : ¬ (((V 105 34) - (1 : Int32)) < i3) := (by simp only [zz_lt, zz_eq, zl_m2, zl_m4, zl_0, zl_1, zl_24, zl_5, zl_999, n2s, a2s, p2s, p4s, p6s, n1, a1, a3, a4, a5, p1, p3, p5, p7, p8, p9, p10, p11, p12, p13, p14, p15, p16, p17] <;> omega)
                have j35 : (i4 < (0 : Int32)) := (by simp only [zz_lt, zz_eq, zl_m2, zl_m4, zl_0, zl_1, zl_24, zl_5, zl_999, n2s, a2s, p2s, p4s, p6s, n1, a1, a3, a4, a5, p1, p3, p5, p7, p8, p9, p10, p11, p12, p13, p14, p15, p16, p17] <;> omega)
                have em : va_249 i1 i2 i3 i4 V = (-2 : Int32) := by simp only [va_249, if_neg j29, if_neg j30, if_neg j31, if_pos j32, if_neg j33, if_neg j34, if_pos j35]
                have eo : vn_249 i1 i2 i3 i4 V = V := by simp only [vn_249, if_neg j29, if_neg j30, if_neg j31, if_pos j32, if_neg j33, if_neg j34, if_pos j35]
                rw [em, eo]
                refine hQ _ _ ?_
                exact hI
              · have g28k := g28
                simp only [zz_lt, zz_eq, zl_m2, zl_m4, zl_0, zl_1, zl_24, zl_5, zl_999, n2s, a2s, p2s, p4s, p6s] at g28k
                by_cases g36 : (999 : Int32) < i4
                · have g36k := g36
                  simp only [zz_lt, zz_eq, zl_m2, zl_m4, zl_0, zl_1, zl_24, zl_5, zl_999, n2s, a2s, p2s, p4s, p6s] at g36k
                  have ev : va_161 i1 i2 i3 i4 V = (-2 : Int32) := by simp only [va_161, if_neg g1, if_neg g3, if_neg g6, if_neg g10, if_neg g15, if_neg g21, if_neg g28, if_pos g36]
                  have en : vn_161 i1 i2 i3 i4 V = V := by simp only [vn_161, if_neg g1, if_neg g3, if_neg g6, if_neg g10, if_neg g15, if_neg g21, if_neg g28, if_pos g36]
                  rw [ev, en]
                  refine sp_249 (fun q1 q2 q3 q4 q5 q6 q7 q8 q9 => by
                    simp only [zz_lt, zz_eq, zl_m2, zl_m4, zl_0, zl_1, zl_24, zl_5, zl_999, n2s, a2s, p2s, p4s, p6s, n1, a1, a3, a4, a5, p1, p3, p5, p7, p8, p9, p10, p11, p12, p13, p14, p15, p16, p17] at q1 q2 q3 q4 q5 q6 q7 q8 q9
                    try simp only [n1, a1, a3, a4, a5, p1, p3, p5, p7, p8, p9, p10, p11, p12, p13, p14, p15, p16, p17]
                    refine vp_of_r ?_ ?_ <;> omega) ?_
                  dsimp only [aa_rI, aa_rL]
                  have j37 : ¬ (i1 < (0 : Int32)) := (by simp only [zz_lt, zz_eq, zl_m2, zl_m4, zl_0, zl_1, zl_24, zl_5, zl_999, n2s, a2s, p2s, p4s, p6s, n1, a1, a3, a4, a5, p1, p3, p5, p7, p8, p9, p10, p11, p12, p13, p14, p15, p16, p17] <;> omega)
                  have j38 : ¬ ((5 : Int32) < i1) := (by simp only [zz_lt, zz_eq, zl_m2, zl_m4, zl_0, zl_1, zl_24, zl_5, zl_999, n2s, a2s, p2s, p4s, p6s, n1, a1, a3, a4, a5, p1, p3, p5, p7, p8, p9, p10, p11, p12, p13, p14, p15, p16, p17] <;> omega)
                  have j39 : ¬ (i2 < 0) := (by simp only [zz_lt, zz_eq, zl_m2, zl_m4, zl_0, zl_1, zl_24, zl_5, zl_999, n2s, a2s, p2s, p4s, p6s, n1, a1, a3, a4, a5, p1, p3, p5, p7, p8, p9, p10, p11, p12, p13, p14, p15, p16, p17] <;> omega)
                  have j40 : (i2 < (V 105 46)) := (by simp only [zz_lt, zz_eq, zl_m2, zl_m4, zl_0, zl_1, zl_24, zl_5, zl_999, n2s, a2s, p2s, p4s, p6s, n1, a1, a3, a4, a5, p1, p3, p5, p7, p8, p9, p10, p11, p12, p13, p14, p15, p16, p17] <;> omega)
                  have j41 : ¬ (i3 < (0 : Int32)) := (by simp only [zz_lt, zz_eq, zl_m2, zl_m4, zl_0, zl_1, zl_24, zl_5, zl_999, n2s, a2s, p2s, p4s, p6s, n1, a1, a3, a4, a5, p1, p3, p5, p7, p8, p9, p10, p11, p12, p13, p14, p15, p16, p17] <;> omega)
                  have j42 : ¬ (((V 105 34) - (1 : Int32)) < i3) := (by simp only [zz_lt, zz_eq, zl_m2, zl_m4, zl_0, zl_1, zl_24, zl_5, zl_999, n2s, a2s, p2s, p4s, p6s, n1, a1, a3, a4, a5, p1, p3, p5, p7, p8, p9, p10, p11, p12, p13, p14, p15, p16, p17] <;> omega)
                  have j43 : ¬ (i4 < (0 : Int32)) := (by simp only [zz_lt, zz_eq, zl_m2, zl_m4, zl_0, zl_1, zl_24, zl_5, zl_999, n2s, a2s, p2s, p4s, p6s, n1, a1, a3, a4, a5, p1, p3, p5, p7, p8, p9, p10, p11, p12, p13, p14, p15, p16, p17] <;> omega)
                  have j44 : ((999 : Int32) < i4) := (by simp only [zz_lt, zz_eq, zl_m2, zl_m4, zl_0, zl_1, zl_24, zl_5, zl_999, n2s, a2s, p2s, p4s, p6s, n1, a1, a3, a4, a5, p1, p3, p5, p7, p8, p9, p10, p11, p12, p13, p14, p15, p16, p17] <;> omega)
                  have em : va_249 i1 i2 i3 i4 V = (-2 : Int32) := by simp only [va_249, if_neg j37, if_neg j38, if_neg j39, if_pos j40, if_neg j41, if_neg j42, if_neg j43, if_pos j44]
                  have eo : vn_249 i1 i2 i3 i4 V = V := by simp only [vn_249, if_neg j37, if_neg j38, if_neg j39, if_pos j40, if_neg j41, if_neg j42, if_neg j43, if_pos j44]
                  rw [em, eo]
                  refine hQ _ _ ?_
                  exact hI
                · have g36k := g36
                  simp only [zz_lt, zz_eq, zl_m2, zl_m4, zl_0, zl_1, zl_24, zl_5, zl_999, n2s, a2s, p2s, p4s, p6s] at g36k
                  by_cases g45 : (V 42 10) < (24 : Int32)
                  · have g45k := g45
                    simp only [zz_lt, zz_eq, zl_m2, zl_m4, zl_0, zl_1, zl_24, zl_5, zl_999, n2s, a2s, p2s, p4s, p6s] at g45k
                    have ev : va_161 i1 i2 i3 i4 V = (((V 42 10) + (1 : Int32)) - (1 : Int32)) := by simp only [va_161, if_neg g1, if_neg g3, if_neg g6, if_neg g10, if_neg g15, if_neg g21, if_neg g28, if_neg g36, if_pos g45]
                    have en : vn_161 i1 i2 i3 i4 V = (aa_up (aa_up (aa_up (aa_up (aa_up (aa_up V 49 (((V 42 10)).toNatClampNeg) i1) 50 (((V 42 10)).toNatClampNeg) i2) 51 (((V 42 10)).toNatClampNeg) i3) 52 (((V 42 10)).toNatClampNeg) i4) 53 (((V 42 10)).toNatClampNeg) (V 0 13)) 42 10 ((V 42 10) + (1 : Int32))) := by simp only [vn_161, if_neg g1, if_neg g3, if_neg g6, if_neg g10, if_neg g15, if_neg g21, if_neg g28, if_neg g36, if_pos g45]
                    rw [ev, en]
                    obtain ⟨W, hWe⟩ : ∃ W, W = (aa_up (aa_up (aa_up (aa_up (aa_up (aa_up V 49 (((V 42 10)).toNatClampNeg) i1) 50 (((V 42 10)).toNatClampNeg) i2) 51 (((V 42 10)).toNatClampNeg) i3) 52 (((V 42 10)).toNatClampNeg) i4) 53 (((V 42 10)).toNatClampNeg) (V 0 13)) 42 10 ((V 42 10) + (1 : Int32))) := ⟨_, rfl⟩
                    have hW : ∀ c, 104 < c → W c = V c := fun c hc => by rw [hWe, aa_up_c (by omega), aa_up_c (by omega), aa_up_c (by omega), aa_up_c (by omega), aa_up_c (by omega), aa_up_c (by omega)]
                    rw [← hWe]
                    refine sp_249 (fun q1 q2 q3 q4 q5 q6 q7 q8 q9 => by
                      simp only [zz_lt, zz_eq, zl_m2, zl_m4, zl_0, zl_1, zl_24, zl_5, zl_999, n2s, a2s, p2s, p4s, p6s, hW 105 (by decide), hW 124 (by decide), hW 125 (by decide), hW 126 (by decide), hW 127 (by decide), hW 128 (by decide), hW 129 (by decide), hW 130 (by decide), hW 131 (by decide), hW 132 (by decide), hW 133 (by decide), hW 134 (by decide), hW 135 (by decide), hW 136 (by decide), hW 137 (by decide), n1, a1, a3, a4, a5, p1, p3, p5, p7, p8, p9, p10, p11, p12, p13, p14, p15, p16, p17] at q1 q2 q3 q4 q5 q6 q7 q8 q9
                      try simp only [n1, a1, a3, a4, a5, p1, p3, p5, p7, p8, p9, p10, p11, p12, p13, p14, p15, p16, p17, hW 105 (by decide), hW 124 (by decide), hW 125 (by decide), hW 126 (by decide), hW 127 (by decide), hW 128 (by decide), hW 129 (by decide), hW 130 (by decide), hW 131 (by decide), hW 132 (by decide), hW 133 (by decide), hW 134 (by decide), hW 135 (by decide), hW 136 (by decide), hW 137 (by decide)]
                      refine vp_of_r ?_ ?_ <;> omega) ?_
                    dsimp only [aa_rI, aa_rL]
                    have j46 : ¬ (i1 < (0 : Int32)) := (by simp only [zz_lt, zz_eq, zl_m2, zl_m4, zl_0, zl_1, zl_24, zl_5, zl_999, n2s, a2s, p2s, p4s, p6s, hW 105 (by decide), hW 124 (by decide), hW 125 (by decide), hW 126 (by decide), hW 127 (by decide), hW 128 (by decide), hW 129 (by decide), hW 130 (by decide), hW 131 (by decide), hW 132 (by decide), hW 133 (by decide), hW 134 (by decide), hW 135 (by decide), hW 136 (by decide), hW 137 (by decide), n1, a1, a3, a4, a5, p1, p3, p5, p7, p8, p9, p10, p11, p12, p13, p14, p15, p16, p17] <;> omega)
                    have j47 : ¬ ((5 : Int32) < i1) := (by simp only [zz_lt, zz_eq, zl_m2, zl_m4, zl_0, zl_1, zl_24, zl_5, zl_999, n2s, a2s, p2s, p4s, p6s, hW 105 (by decide), hW 124 (by decide), hW 125 (by decide), hW 126 (by decide), hW 127 (by decide), hW 128 (by decide), hW 129 (by decide), hW 130 (by decide), hW 131 (by decide), hW 132 (by decide), hW 133 (by decide), hW 134 (by decide), hW 135 (by decide), hW 136 (by decide), hW 137 (by decide), n1, a1, a3, a4, a5, p1, p3, p5, p7, p8, p9, p10, p11, p12, p13, p14, p15, p16, p17] <;> omega)
                    have j48 : ¬ (i2 < 0) := (by simp only [zz_lt, zz_eq, zl_m2, zl_m4, zl_0, zl_1, zl_24, zl_5, zl_999, n2s, a2s, p2s, p4s, p6s, hW 105 (by decide), hW 124 (by decide), hW 125 (by decide), hW 126 (by decide), hW 127 (by decide), hW 128 (by decide), hW 129 (by decide), hW 130 (by decide), hW 131 (by decide), hW 132 (by decide), hW 133 (by decide), hW 134 (by decide), hW 135 (by decide), hW 136 (by decide), hW 137 (by decide), n1, a1, a3, a4, a5, p1, p3, p5, p7, p8, p9, p10, p11, p12, p13, p14, p15, p16, p17] <;> omega)
                    have j49 : (i2 < (W 105 46)) := (by simp only [zz_lt, zz_eq, zl_m2, zl_m4, zl_0, zl_1, zl_24, zl_5, zl_999, n2s, a2s, p2s, p4s, p6s, hW 105 (by decide), hW 124 (by decide), hW 125 (by decide), hW 126 (by decide), hW 127 (by decide), hW 128 (by decide), hW 129 (by decide), hW 130 (by decide), hW 131 (by decide), hW 132 (by decide), hW 133 (by decide), hW 134 (by decide), hW 135 (by decide), hW 136 (by decide), hW 137 (by decide), n1, a1, a3, a4, a5, p1, p3, p5, p7, p8, p9, p10, p11, p12, p13, p14, p15, p16, p17] <;> omega)
                    have j50 : ¬ (i3 < (0 : Int32)) := (by simp only [zz_lt, zz_eq, zl_m2, zl_m4, zl_0, zl_1, zl_24, zl_5, zl_999, n2s, a2s, p2s, p4s, p6s, hW 105 (by decide), hW 124 (by decide), hW 125 (by decide), hW 126 (by decide), hW 127 (by decide), hW 128 (by decide), hW 129 (by decide), hW 130 (by decide), hW 131 (by decide), hW 132 (by decide), hW 133 (by decide), hW 134 (by decide), hW 135 (by decide), hW 136 (by decide), hW 137 (by decide), n1, a1, a3, a4, a5, p1, p3, p5, p7, p8, p9, p10, p11, p12, p13, p14, p15, p16, p17] <;> omega)
                    have j51 : ¬ (((W 105 34) - (1 : Int32)) < i3) := (by simp only [zz_lt, zz_eq, zl_m2, zl_m4, zl_0, zl_1, zl_24, zl_5, zl_999, n2s, a2s, p2s, p4s, p6s, hW 105 (by decide), hW 124 (by decide), hW 125 (by decide), hW 126 (by decide), hW 127 (by decide), hW 128 (by decide), hW 129 (by decide), hW 130 (by decide), hW 131 (by decide), hW 132 (by decide), hW 133 (by decide), hW 134 (by decide), hW 135 (by decide), hW 136 (by decide), hW 137 (by decide), n1, a1, a3, a4, a5, p1, p3, p5, p7, p8, p9, p10, p11, p12, p13, p14, p15, p16, p17] <;> omega)
                    have j52 : ¬ (i4 < (0 : Int32)) := (by simp only [zz_lt, zz_eq, zl_m2, zl_m4, zl_0, zl_1, zl_24, zl_5, zl_999, n2s, a2s, p2s, p4s, p6s, hW 105 (by decide), hW 124 (by decide), hW 125 (by decide), hW 126 (by decide), hW 127 (by decide), hW 128 (by decide), hW 129 (by decide), hW 130 (by decide), hW 131 (by decide), hW 132 (by decide), hW 133 (by decide), hW 134 (by decide), hW 135 (by decide), hW 136 (by decide), hW 137 (by decide), n1, a1, a3, a4, a5, p1, p3, p5, p7, p8, p9, p10, p11, p12, p13, p14, p15, p16, p17] <;> omega)
                    have j53 : ¬ ((999 : Int32) < i4) := (by simp only [zz_lt, zz_eq, zl_m2, zl_m4, zl_0, zl_1, zl_24, zl_5, zl_999, n2s, a2s, p2s, p4s, p6s, hW 105 (by decide), hW 124 (by decide), hW 125 (by decide), hW 126 (by decide), hW 127 (by decide), hW 128 (by decide), hW 129 (by decide), hW 130 (by decide), hW 131 (by decide), hW 132 (by decide), hW 133 (by decide), hW 134 (by decide), hW 135 (by decide), hW 136 (by decide), hW 137 (by decide), n1, a1, a3, a4, a5, p1, p3, p5, p7, p8, p9, p10, p11, p12, p13, p14, p15, p16, p17] <;> omega)
                    have j54 : ¬ ((W 105 48) = (24 : Int32)) := (by simp only [zz_lt, zz_eq, zl_m2, zl_m4, zl_0, zl_1, zl_24, zl_5, zl_999, n2s, a2s, p2s, p4s, p6s, hW 105 (by decide), hW 124 (by decide), hW 125 (by decide), hW 126 (by decide), hW 127 (by decide), hW 128 (by decide), hW 129 (by decide), hW 130 (by decide), hW 131 (by decide), hW 132 (by decide), hW 133 (by decide), hW 134 (by decide), hW 135 (by decide), hW 136 (by decide), hW 137 (by decide), n1, a1, a3, a4, a5, p1, p3, p5, p7, p8, p9, p10, p11, p12, p13, p14, p15, p16, p17] <;> omega)
                    have em : va_249 i1 i2 i3 i4 W = (((W 105 48) + (1 : Int32)) - (1 : Int32)) := by simp only [va_249, if_neg j46, if_neg j47, if_neg j48, if_pos j49, if_neg j50, if_neg j51, if_neg j52, if_neg j53, if_neg j54]
                    have eo : vn_249 i1 i2 i3 i4 W = (aa_up (aa_up (aa_up (aa_up (aa_up (aa_up W 133 (((W 105 48)).toNatClampNeg) i1) 134 (((W 105 48)).toNatClampNeg) i2) 135 (((W 105 48)).toNatClampNeg) i3) 136 (((W 105 48)).toNatClampNeg) i4) 137 (((W 105 48)).toNatClampNeg) (W 105 2)) 105 48 ((W 105 48) + (1 : Int32))) := by simp only [vn_249, if_neg j46, if_neg j47, if_neg j48, if_pos j49, if_neg j50, if_neg j51, if_neg j52, if_neg j53, if_neg j54]
                    rw [em, eo]
                    have ex : (((W 105 48) + (1 : Int32)) - (1 : Int32)) = (((V 42 10) + (1 : Int32)) - (1 : Int32)) := by simp only [hW 105 (by decide), hW 124 (by decide), hW 125 (by decide), hW 126 (by decide), hW 127 (by decide), hW 128 (by decide), hW 129 (by decide), hW 130 (by decide), hW 131 (by decide), hW 132 (by decide), hW 133 (by decide), hW 134 (by decide), hW 135 (by decide), hW 136 (by decide), hW 137 (by decide), n1, a1, a3, a4, a5, p1, p3, p5, p7, p8, p9, p10, p11, p12, p13, p14, p15, p16, p17]
                    rw [ex]
                    refine hQ _ _ ?_
                    try simp only [hW 105 (by decide), hW 124 (by decide), hW 125 (by decide), hW 126 (by decide), hW 127 (by decide), hW 128 (by decide), hW 129 (by decide), hW 130 (by decide), hW 131 (by decide), hW 132 (by decide), hW 133 (by decide), hW 134 (by decide), hW 135 (by decide), hW 136 (by decide), hW 137 (by decide), n1, a1, a3, a4, a5, p1, p3, p5, p7, p8, p9, p10, p11, p12, p13, p14, p15, p16, p17]
                    rw [hWe]
                    have z1 : zb i1 5 := zb_of_r (by omega) (by omega) (by decide)
                    have z2 : zb i2 11 := zb_of_r (by omega) (by omega) (by decide)
                    have z3 : zb i3 29 := zb_of_r (by omega) (by omega) (by decide)
                    have z4 : zb i4 999 := zb_of_r (by omega) (by omega) (by decide)
                    refine ⟨hn, nv_rc (V := V) (fun c _ _ => by rw [aa_up_c (by omega), aa_up_c (by omega), aa_up_c (by omega), aa_up_c (by omega), aa_up_c (by omega), aa_up_c (by omega), aa_up_c (by omega), aa_up_c (by omega), aa_up_c (by omega), aa_up_c (by omega), aa_up_c (by omega), aa_up_c (by omega)]) rfl hr, hw, ha, ?_, ho, hb, nv_kc (V := V) (fun c _ _ => by rw [aa_up_c (by omega), aa_up_c (by omega), aa_up_c (by omega), aa_up_c (by omega), aa_up_c (by omega), aa_up_c (by omega), aa_up_c (by omega), aa_up_c (by omega), aa_up_c (by omega), aa_up_c (by omega), aa_up_c (by omega), aa_up_c (by omega)]) rfl rfl rfl hk, nv_sc (V := V) (fun c _ _ => by rw [aa_up_c (by omega), aa_up_c (by omega), aa_up_c (by omega), aa_up_c (by omega), aa_up_c (by omega), aa_up_c (by omega), aa_up_c (by omega), aa_up_c (by omega), aa_up_c (by omega), aa_up_c (by omega), aa_up_c (by omega), aa_up_c (by omega)]) rfl rfl rfl rfl rfl hs, hf, nv_tx (V := V) (fun c _ _ => by rw [aa_up_c (by omega), aa_up_c (by omega), aa_up_c (by omega), aa_up_c (by omega), aa_up_c (by omega), aa_up_c (by omega), aa_up_c (by omega), aa_up_c (by omega), aa_up_c (by omega), aa_up_c (by omega), aa_up_c (by omega), aa_up_c (by omega)]) rfl rfl rfl rfl rfl rfl rfl rfl rfl ht⟩
                    exact ⟨⟨p1, p2, p3, p4, rfl, zb_up p6 (by omega) (by decide)⟩, ⟨p7, p8, p9, p10, p11, p12⟩, ⟨(show upd (V 133) (V 42 10).toNatClampNeg i1 = upd (V 49) (V 42 10).toNatClampNeg i1 from upd_eq p13), (show upd (V 134) (V 42 10).toNatClampNeg i2 = upd (V 50) (V 42 10).toNatClampNeg i2 from upd_eq p14), (show upd (V 135) (V 42 10).toNatClampNeg i3 = upd (V 51) (V 42 10).toNatClampNeg i3 from upd_eq p15), (show upd (V 136) (V 42 10).toNatClampNeg i4 = upd (V 52) (V 42 10).toNatClampNeg i4 from upd_eq p16), (show upd (V 137) (V 42 10).toNatClampNeg (V 0 13) = upd (V 53) (V 42 10).toNatClampNeg (V 0 13) from upd_eq p17)⟩, ⟨q1, q2, q3, q4, q5, q6⟩, (show ∀ i, zb (upd (V 49) (V 42 10).toNatClampNeg i1 i) 5 from zb_upd q7 z1), (show ∀ i, zb (upd (V 50) (V 42 10).toNatClampNeg i2 i) 11 from zb_upd q8 z2), (show ∀ i, zb (upd (V 51) (V 42 10).toNatClampNeg i3 i) 29 from zb_upd q9 z3), (show ∀ i, zb (upd (V 52) (V 42 10).toNatClampNeg i4 i) 999 from zb_upd q10 z4), (show ∀ i, zb (upd (V 53) (V 42 10).toNatClampNeg (V 0 13) i) 399 from zb_upd q11 n2)⟩
                  · have g45k := g45
                    simp only [zz_lt, zz_eq, zl_m2, zl_m4, zl_0, zl_1, zl_24, zl_5, zl_999, n2s, a2s, p2s, p4s, p6s] at g45k
                    have ev : va_161 i1 i2 i3 i4 V = (-4 : Int32) := by simp only [va_161, if_neg g1, if_neg g3, if_neg g6, if_neg g10, if_neg g15, if_neg g21, if_neg g28, if_neg g36, if_neg g45]
                    have en : vn_161 i1 i2 i3 i4 V = V := by simp only [vn_161, if_neg g1, if_neg g3, if_neg g6, if_neg g10, if_neg g15, if_neg g21, if_neg g28, if_neg g36, if_neg g45]
                    rw [ev, en]
                    refine sp_249 (fun q1 q2 q3 q4 q5 q6 q7 q8 q9 => by
                      simp only [zz_lt, zz_eq, zl_m2, zl_m4, zl_0, zl_1, zl_24, zl_5, zl_999, n2s, a2s, p2s, p4s, p6s, n1, a1, a3, a4, a5, p1, p3, p5, p7, p8, p9, p10, p11, p12, p13, p14, p15, p16, p17] at q1 q2 q3 q4 q5 q6 q7 q8 q9
                      try simp only [n1, a1, a3, a4, a5, p1, p3, p5, p7, p8, p9, p10, p11, p12, p13, p14, p15, p16, p17]
                      refine vp_of_r ?_ ?_ <;> omega) ?_
                    dsimp only [aa_rI, aa_rL]
                    have j55 : ¬ (i1 < (0 : Int32)) := (by simp only [zz_lt, zz_eq, zl_m2, zl_m4, zl_0, zl_1, zl_24, zl_5, zl_999, n2s, a2s, p2s, p4s, p6s, n1, a1, a3, a4, a5, p1, p3, p5, p7, p8, p9, p10, p11, p12, p13, p14, p15, p16, p17] <;> omega)
                    have j56 : ¬ ((5 : Int32) < i1) := (by simp only [zz_lt, zz_eq, zl_m2, zl_m4, zl_0, zl_1, zl_24, zl_5, zl_999, n2s, a2s, p2s, p4s, p6s, n1, a1, a3, a4, a5, p1, p3, p5, p7, p8, p9, p10, p11, p12, p13, p14, p15, p16, p17] <;> omega)
                    have j57 : ¬ (i2 < 0) := (by simp only [zz_lt, zz_eq, zl_m2, zl_m4, zl_0, zl_1, zl_24, zl_5, zl_999, n2s, a2s, p2s, p4s, p6s, n1, a1, a3, a4, a5, p1, p3, p5, p7, p8, p9, p10, p11, p12, p13, p14, p15, p16, p17] <;> omega)
                    have j58 : (i2 < (V 105 46)) := (by simp only [zz_lt, zz_eq, zl_m2, zl_m4, zl_0, zl_1, zl_24, zl_5, zl_999, n2s, a2s, p2s, p4s, p6s, n1, a1, a3, a4, a5, p1, p3, p5, p7, p8, p9, p10, p11, p12, p13, p14, p15, p16, p17] <;> omega)
                    have j59 : ¬ (i3 < (0 : Int32)) := (by simp only [zz_lt, zz_eq, zl_m2, zl_m4, zl_0, zl_1, zl_24, zl_5, zl_999, n2s, a2s, p2s, p4s, p6s, n1, a1, a3, a4, a5, p1, p3, p5, p7, p8, p9, p10, p11, p12, p13, p14, p15, p16, p17] <;> omega)
                    have j60 : ¬ (((V 105 34) - (1 : Int32)) < i3) := (by simp only [zz_lt, zz_eq, zl_m2, zl_m4, zl_0, zl_1, zl_24, zl_5, zl_999, n2s, a2s, p2s, p4s, p6s, n1, a1, a3, a4, a5, p1, p3, p5, p7, p8, p9, p10, p11, p12, p13, p14, p15, p16, p17] <;> omega)
                    have j61 : ¬ (i4 < (0 : Int32)) := (by simp only [zz_lt, zz_eq, zl_m2, zl_m4, zl_0, zl_1, zl_24, zl_5, zl_999, n2s, a2s, p2s, p4s, p6s, n1, a1, a3, a4, a5, p1, p3, p5, p7, p8, p9, p10, p11, p12, p13, p14, p15, p16, p17] <;> omega)
                    have j62 : ¬ ((999 : Int32) < i4) := (by simp only [zz_lt, zz_eq, zl_m2, zl_m4, zl_0, zl_1, zl_24, zl_5, zl_999, n2s, a2s, p2s, p4s, p6s, n1, a1, a3, a4, a5, p1, p3, p5, p7, p8, p9, p10, p11, p12, p13, p14, p15, p16, p17] <;> omega)
                    have j63 : ((V 105 48) = (24 : Int32)) := (by simp only [zz_lt, zz_eq, zl_m2, zl_m4, zl_0, zl_1, zl_24, zl_5, zl_999, n2s, a2s, p2s, p4s, p6s, n1, a1, a3, a4, a5, p1, p3, p5, p7, p8, p9, p10, p11, p12, p13, p14, p15, p16, p17] <;> omega)
                    have em : va_249 i1 i2 i3 i4 V = (-4 : Int32) := by simp only [va_249, if_neg j55, if_neg j56, if_neg j57, if_pos j58, if_neg j59, if_neg j60, if_neg j61, if_neg j62, if_pos j63]
                    have eo : vn_249 i1 i2 i3 i4 V = V := by simp only [vn_249, if_neg j55, if_neg j56, if_neg j57, if_pos j58, if_neg j59, if_neg j60, if_neg j61, if_neg j62, if_pos j63]
                    rw [em, eo]
                    refine hQ _ _ ?_
                    exact hI

set_option maxRecDepth 20000 in
/-- F_taker -/
theorem cs_167 {G : ab_G} {L : Nat} {xs : Nat → Int32} {l : Launch} {d : Nat} {i1 : Int32} {i2 : Int32} {V : aa_V} {Q : Int32 → Int32 → aa_V → Prop} (hI : nv V) (hQ : ∀ x W, nv W → Q x x W) :
    ab_E G (ac_ST L xs) l (d + 3) ac_SK 167 [.ref 0, .int i1, .int i2] V (aa_rI fun x V1 => ab_E G (ac_ST L xs) l (d + 2) ac_SK 258 [.ref 105, .int i1, .int i2] V1 (aa_rI fun y W => Q x y W)) := by
  have hI' := hI
  obtain ⟨hn, hr, hw, ha, hp, ho, hb, hk, hs, hf, ht⟩ := hI'
  have hp' := hp
  obtain ⟨⟨p1, p2, p3, p4, p5, p6⟩, ⟨p7, p8, p9, p10, p11, p12⟩, ⟨p13, p14, p15, p16, p17⟩, ⟨q1, q2, q3, q4, q5, q6⟩, q7, q8, q9, q10, q11⟩ := hp'
  have p2r := zb_r p2 (by decide)
  have p2s := zb_sub1 p2 (by decide)
  have p4r := zb_r p4 (by decide)
  have p4s := zb_sub1 p4 (by decide)
  have p6r := zb_r p6 (by decide)
  have p6s := zb_sub1 p6 (by decide)
  have ho' := ho
  obtain ⟨⟨o1, o2, o3, o4⟩, o5, o6, o7, o8, o9⟩ := ho'
  have o2r := zb_r o2 (by decide)
  have o2s := zb_sub1 o2 (by decide)
  refine sp_167 (fun q1 q2 q3 q4 => by
    simp only [zz_lt, zz_eq, zl_m1, zl_m5, zl_0, zl_1, zl_399, p2s, p4s, p6s, o2s] at q1 q2 q3 q4
    refine vp_of_r ?_ ?_ <;> omega) ?_
  dsimp only [aa_rI, aa_rL]
  by_cases g1 : i1 < (0 : Int32)
  · have g1k := g1
    simp only [zz_lt, zz_eq, zl_m1, zl_m5, zl_0, zl_1, zl_399, p2s, p4s, p6s, o2s] at g1k
    have ev : va_167 i1 i2 V = (-5 : Int32) := by simp only [va_167, if_pos g1]
    have en : vn_167 i1 i2 V = V := by simp only [vn_167, if_pos g1]
    rw [ev, en]
    refine sp_258 (fun q1 q2 q3 q4 => by
      simp only [zz_lt, zz_eq, zl_m1, zl_m5, zl_0, zl_1, zl_399, p2s, p4s, p6s, o2s, p1, p3, p5, p7, p8, p9, p10, p11, p12, p13, p14, p15, p16, p17, o1, o3] at q1 q2 q3 q4
      try simp only [p1, p3, p5, p7, p8, p9, p10, p11, p12, p13, p14, p15, p16, p17, o1, o3]
      refine vp_of_r ?_ ?_ <;> omega) ?_
    dsimp only [aa_rI, aa_rL]
    have j2 : (i1 < 0) := (by simp only [zz_lt, zz_eq, zl_m1, zl_m5, zl_0, zl_1, zl_399, p2s, p4s, p6s, o2s, p1, p3, p5, p7, p8, p9, p10, p11, p12, p13, p14, p15, p16, p17, o1, o3] <;> omega)
    have em : va_258 i1 i2 V = (-5 : Int32) := by simp only [va_258, if_pos j2]
    have eo : vn_258 i1 i2 V = V := by simp only [vn_258, if_pos j2]
    rw [em, eo]
    refine hQ _ _ ?_
    exact hI
  · have g1k := g1
    simp only [zz_lt, zz_eq, zl_m1, zl_m5, zl_0, zl_1, zl_399, p2s, p4s, p6s, o2s] at g1k
    by_cases g3 : ((V 42 2) - (1 : Int32)) < i1
    · have g3k := g3
      simp only [zz_lt, zz_eq, zl_m1, zl_m5, zl_0, zl_1, zl_399, p2s, p4s, p6s, o2s] at g3k
      have ev : va_167 i1 i2 V = (-5 : Int32) := by simp only [va_167, if_neg g1, if_pos g3]
      have en : vn_167 i1 i2 V = V := by simp only [vn_167, if_neg g1, if_pos g3]
      rw [ev, en]
      refine sp_258 (fun q1 q2 q3 q4 => by
        simp only [zz_lt, zz_eq, zl_m1, zl_m5, zl_0, zl_1, zl_399, p2s, p4s, p6s, o2s, p1, p3, p5, p7, p8, p9, p10, p11, p12, p13, p14, p15, p16, p17, o1, o3] at q1 q2 q3 q4
        try simp only [p1, p3, p5, p7, p8, p9, p10, p11, p12, p13, p14, p15, p16, p17, o1, o3]
        refine vp_of_r ?_ ?_ <;> omega) ?_
      dsimp only [aa_rI, aa_rL]
      have j4 : ¬ (i1 < 0) := (by simp only [zz_lt, zz_eq, zl_m1, zl_m5, zl_0, zl_1, zl_399, p2s, p4s, p6s, o2s, p1, p3, p5, p7, p8, p9, p10, p11, p12, p13, p14, p15, p16, p17, o1, o3] <;> omega)
      have j5 : ¬ (i1 < (V 105 46)) := (by simp only [zz_lt, zz_eq, zl_m1, zl_m5, zl_0, zl_1, zl_399, p2s, p4s, p6s, o2s, p1, p3, p5, p7, p8, p9, p10, p11, p12, p13, p14, p15, p16, p17, o1, o3] <;> omega)
      have em : va_258 i1 i2 V = (-5 : Int32) := by simp only [va_258, if_neg j4, if_neg j5]
      have eo : vn_258 i1 i2 V = V := by simp only [vn_258, if_neg j4, if_neg j5]
      rw [em, eo]
      refine hQ _ _ ?_
      exact hI
    · have g3k := g3
      simp only [zz_lt, zz_eq, zl_m1, zl_m5, zl_0, zl_1, zl_399, p2s, p4s, p6s, o2s] at g3k
      by_cases g6 : i2 < (-1 : Int32)
      · have g6k := g6
        simp only [zz_lt, zz_eq, zl_m1, zl_m5, zl_0, zl_1, zl_399, p2s, p4s, p6s, o2s] at g6k
        have ev : va_167 i1 i2 V = (-5 : Int32) := by simp only [va_167, if_neg g1, if_neg g3, if_pos g6]
        have en : vn_167 i1 i2 V = V := by simp only [vn_167, if_neg g1, if_neg g3, if_pos g6]
        rw [ev, en]
        refine sp_258 (fun q1 q2 q3 q4 => by
          simp only [zz_lt, zz_eq, zl_m1, zl_m5, zl_0, zl_1, zl_399, p2s, p4s, p6s, o2s, p1, p3, p5, p7, p8, p9, p10, p11, p12, p13, p14, p15, p16, p17, o1, o3] at q1 q2 q3 q4
          try simp only [p1, p3, p5, p7, p8, p9, p10, p11, p12, p13, p14, p15, p16, p17, o1, o3]
          refine vp_of_r ?_ ?_ <;> omega) ?_
        dsimp only [aa_rI, aa_rL]
        have j7 : ¬ (i1 < 0) := (by simp only [zz_lt, zz_eq, zl_m1, zl_m5, zl_0, zl_1, zl_399, p2s, p4s, p6s, o2s, p1, p3, p5, p7, p8, p9, p10, p11, p12, p13, p14, p15, p16, p17, o1, o3] <;> omega)
        have j8 : (i1 < (V 105 46)) := (by simp only [zz_lt, zz_eq, zl_m1, zl_m5, zl_0, zl_1, zl_399, p2s, p4s, p6s, o2s, p1, p3, p5, p7, p8, p9, p10, p11, p12, p13, p14, p15, p16, p17, o1, o3] <;> omega)
        have j9 : (i2 < (-1 : Int32)) := (by simp only [zz_lt, zz_eq, zl_m1, zl_m5, zl_0, zl_1, zl_399, p2s, p4s, p6s, o2s, p1, p3, p5, p7, p8, p9, p10, p11, p12, p13, p14, p15, p16, p17, o1, o3] <;> omega)
        have em : va_258 i1 i2 V = (-5 : Int32) := by simp only [va_258, if_neg j7, if_pos j8, if_pos j9]
        have eo : vn_258 i1 i2 V = V := by simp only [vn_258, if_neg j7, if_pos j8, if_pos j9]
        rw [em, eo]
        refine hQ _ _ ?_
        exact hI
      · have g6k := g6
        simp only [zz_lt, zz_eq, zl_m1, zl_m5, zl_0, zl_1, zl_399, p2s, p4s, p6s, o2s] at g6k
        by_cases g10 : (399 : Int32) < i2
        · have g10k := g10
          simp only [zz_lt, zz_eq, zl_m1, zl_m5, zl_0, zl_1, zl_399, p2s, p4s, p6s, o2s] at g10k
          have ev : va_167 i1 i2 V = (-5 : Int32) := by simp only [va_167, if_neg g1, if_neg g3, if_neg g6, if_pos g10]
          have en : vn_167 i1 i2 V = V := by simp only [vn_167, if_neg g1, if_neg g3, if_neg g6, if_pos g10]
          rw [ev, en]
          refine sp_258 (fun q1 q2 q3 q4 => by
            simp only [zz_lt, zz_eq, zl_m1, zl_m5, zl_0, zl_1, zl_399, p2s, p4s, p6s, o2s, p1, p3, p5, p7, p8, p9, p10, p11, p12, p13, p14, p15, p16, p17, o1, o3] at q1 q2 q3 q4
            try simp only [p1, p3, p5, p7, p8, p9, p10, p11, p12, p13, p14, p15, p16, p17, o1, o3]
            refine vp_of_r ?_ ?_ <;> omega) ?_
          dsimp only [aa_rI, aa_rL]
          have j11 : ¬ (i1 < 0) := (by simp only [zz_lt, zz_eq, zl_m1, zl_m5, zl_0, zl_1, zl_399, p2s, p4s, p6s, o2s, p1, p3, p5, p7, p8, p9, p10, p11, p12, p13, p14, p15, p16, p17, o1, o3] <;> omega)
          have j12 : (i1 < (V 105 46)) := (by simp only [zz_lt, zz_eq, zl_m1, zl_m5, zl_0, zl_1, zl_399, p2s, p4s, p6s, o2s, p1, p3, p5, p7, p8, p9, p10, p11, p12, p13, p14, p15, p16, p17, o1, o3] <;> omega)
          have j13 : ¬ (i2 < (-1 : Int32)) := (by simp only [zz_lt, zz_eq, zl_m1, zl_m5, zl_0, zl_1, zl_399, p2s, p4s, p6s, o2s, p1, p3, p5, p7, p8, p9, p10, p11, p12, p13, p14, p15, p16, p17, o1, o3] <;> omega)
          have j14 : ((399 : Int32) < i2) := (by simp only [zz_lt, zz_eq, zl_m1, zl_m5, zl_0, zl_1, zl_399, p2s, p4s, p6s, o2s, p1, p3, p5, p7, p8, p9, p10, p11, p12, p13, p14, p15, p16, p17, o1, o3] <;> omega)
          have em : va_258 i1 i2 V = (-5 : Int32) := by simp only [va_258, if_neg j11, if_pos j12, if_neg j13, if_pos j14]
          have eo : vn_258 i1 i2 V = V := by simp only [vn_258, if_neg j11, if_pos j12, if_neg j13, if_pos j14]
          rw [em, eo]
          refine hQ _ _ ?_
          exact hI
        · have g10k := g10
          simp only [zz_lt, zz_eq, zl_m1, zl_m5, zl_0, zl_1, zl_399, p2s, p4s, p6s, o2s] at g10k
          have ev : va_167 i1 i2 V = (V 58 ((i1).toNatClampNeg)) := by simp only [va_167, if_neg g1, if_neg g3, if_neg g6, if_neg g10]
          have en : vn_167 i1 i2 V = (aa_up V 58 ((i1).toNatClampNeg) i2) := by simp only [vn_167, if_neg g1, if_neg g3, if_neg g6, if_neg g10]
          rw [ev, en]
          obtain ⟨W, hWe⟩ : ∃ W, W = (aa_up V 58 ((i1).toNatClampNeg) i2) := ⟨_, rfl⟩
          have hW : ∀ c, 104 < c → W c = V c := fun c hc => by rw [hWe, aa_up_c (by omega)]
          rw [← hWe]
          refine sp_258 (fun q1 q2 q3 q4 => by
            simp only [zz_lt, zz_eq, zl_m1, zl_m5, zl_0, zl_1, zl_399, p2s, p4s, p6s, o2s, hW 105 (by decide), hW 127 (by decide), hW 128 (by decide), hW 129 (by decide), hW 130 (by decide), hW 131 (by decide), hW 132 (by decide), hW 133 (by decide), hW 134 (by decide), hW 135 (by decide), hW 136 (by decide), hW 137 (by decide), hW 138 (by decide), hW 139 (by decide), hW 140 (by decide), hW 141 (by decide), hW 142 (by decide), p1, p3, p5, p7, p8, p9, p10, p11, p12, p13, p14, p15, p16, p17, o1, o3] at q1 q2 q3 q4
            try simp only [p1, p3, p5, p7, p8, p9, p10, p11, p12, p13, p14, p15, p16, p17, o1, o3, hW 105 (by decide), hW 127 (by decide), hW 128 (by decide), hW 129 (by decide), hW 130 (by decide), hW 131 (by decide), hW 132 (by decide), hW 133 (by decide), hW 134 (by decide), hW 135 (by decide), hW 136 (by decide), hW 137 (by decide), hW 138 (by decide), hW 139 (by decide), hW 140 (by decide), hW 141 (by decide), hW 142 (by decide)]
            refine vp_of_r ?_ ?_ <;> omega) ?_
          dsimp only [aa_rI, aa_rL]
          have j15 : ¬ (i1 < 0) := (by simp only [zz_lt, zz_eq, zl_m1, zl_m5, zl_0, zl_1, zl_399, p2s, p4s, p6s, o2s, hW 105 (by decide), hW 127 (by decide), hW 128 (by decide), hW 129 (by decide), hW 130 (by decide), hW 131 (by decide), hW 132 (by decide), hW 133 (by decide), hW 134 (by decide), hW 135 (by decide), hW 136 (by decide), hW 137 (by decide), hW 138 (by decide), hW 139 (by decide), hW 140 (by decide), hW 141 (by decide), hW 142 (by decide), p1, p3, p5, p7, p8, p9, p10, p11, p12, p13, p14, p15, p16, p17, o1, o3] <;> omega)
          have j16 : (i1 < (W 105 46)) := (by simp only [zz_lt, zz_eq, zl_m1, zl_m5, zl_0, zl_1, zl_399, p2s, p4s, p6s, o2s, hW 105 (by decide), hW 127 (by decide), hW 128 (by decide), hW 129 (by decide), hW 130 (by decide), hW 131 (by decide), hW 132 (by decide), hW 133 (by decide), hW 134 (by decide), hW 135 (by decide), hW 136 (by decide), hW 137 (by decide), hW 138 (by decide), hW 139 (by decide), hW 140 (by decide), hW 141 (by decide), hW 142 (by decide), p1, p3, p5, p7, p8, p9, p10, p11, p12, p13, p14, p15, p16, p17, o1, o3] <;> omega)
          have j17 : ¬ (i2 < (-1 : Int32)) := (by simp only [zz_lt, zz_eq, zl_m1, zl_m5, zl_0, zl_1, zl_399, p2s, p4s, p6s, o2s, hW 105 (by decide), hW 127 (by decide), hW 128 (by decide), hW 129 (by decide), hW 130 (by decide), hW 131 (by decide), hW 132 (by decide), hW 133 (by decide), hW 134 (by decide), hW 135 (by decide), hW 136 (by decide), hW 137 (by decide), hW 138 (by decide), hW 139 (by decide), hW 140 (by decide), hW 141 (by decide), hW 142 (by decide), p1, p3, p5, p7, p8, p9, p10, p11, p12, p13, p14, p15, p16, p17, o1, o3] <;> omega)
          have j18 : ¬ ((399 : Int32) < i2) := (by simp only [zz_lt, zz_eq, zl_m1, zl_m5, zl_0, zl_1, zl_399, p2s, p4s, p6s, o2s, hW 105 (by decide), hW 127 (by decide), hW 128 (by decide), hW 129 (by decide), hW 130 (by decide), hW 131 (by decide), hW 132 (by decide), hW 133 (by decide), hW 134 (by decide), hW 135 (by decide), hW 136 (by decide), hW 137 (by decide), hW 138 (by decide), hW 139 (by decide), hW 140 (by decide), hW 141 (by decide), hW 142 (by decide), p1, p3, p5, p7, p8, p9, p10, p11, p12, p13, p14, p15, p16, p17, o1, o3] <;> omega)
          have em : va_258 i1 i2 W = (W 142 ((i1).toNatClampNeg)) := by simp only [va_258, if_neg j15, if_pos j16, if_neg j17, if_neg j18]
          have eo : vn_258 i1 i2 W = (aa_up W 142 ((i1).toNatClampNeg) i2) := by simp only [vn_258, if_neg j15, if_pos j16, if_neg j17, if_neg j18]
          rw [em, eo]
          have ex : (W 142 ((i1).toNatClampNeg)) = (V 58 ((i1).toNatClampNeg)) := by simp only [hW 105 (by decide), hW 127 (by decide), hW 128 (by decide), hW 129 (by decide), hW 130 (by decide), hW 131 (by decide), hW 132 (by decide), hW 133 (by decide), hW 134 (by decide), hW 135 (by decide), hW 136 (by decide), hW 137 (by decide), hW 138 (by decide), hW 139 (by decide), hW 140 (by decide), hW 141 (by decide), hW 142 (by decide), p1, p3, p5, p7, p8, p9, p10, p11, p12, p13, p14, p15, p16, p17, o1, o3]
          rw [ex]
          refine hQ _ _ ?_
          try simp only [hW 105 (by decide), hW 127 (by decide), hW 128 (by decide), hW 129 (by decide), hW 130 (by decide), hW 131 (by decide), hW 132 (by decide), hW 133 (by decide), hW 134 (by decide), hW 135 (by decide), hW 136 (by decide), hW 137 (by decide), hW 138 (by decide), hW 139 (by decide), hW 140 (by decide), hW 141 (by decide), hW 142 (by decide), p1, p3, p5, p7, p8, p9, p10, p11, p12, p13, p14, p15, p16, p17, o1, o3]
          rw [hWe]
          refine ⟨hn, nv_rc (V := V) (fun c _ _ => by rw [aa_up_c (by omega), aa_up_c (by omega)]) rfl hr, hw, ha, hp, ?_, hb, nv_kc (V := V) (fun c _ _ => by rw [aa_up_c (by omega), aa_up_c (by omega)]) rfl rfl rfl hk, nv_sc (V := V) (fun c _ _ => by rw [aa_up_c (by omega), aa_up_c (by omega)]) rfl rfl rfl rfl rfl hs, hf, nv_tx (V := V) (fun c _ _ => by rw [aa_up_c (by omega), aa_up_c (by omega)]) rfl rfl rfl rfl rfl rfl rfl rfl rfl ht⟩
          refine ⟨⟨o1, o2, (show upd (V 142) i1.toNatClampNeg i2 = upd (V 58) i1.toNatClampNeg i2 from upd_eq o3), fun i hi => ?_⟩, o5, o6, o7, o8, o9⟩
          show upd (V 58) i1.toNatClampNeg i2 i = -1 ∨ zb (upd (V 58) i1.toNatClampNeg i2 i) 399
          unfold upd
          by_cases e : i = i1.toNatClampNeg
          · rw [if_pos e]
            by_cases e2 : i2.toInt = -1
            · exact Or.inl (by rw [zz_eq, e2]; rfl)
            · exact Or.inr (zb_of_r (by omega) (by omega) (by decide))
          · rw [if_neg e]
            exact o4 i hi

set_option maxRecDepth 20000 in
/-- F_clause -/
theorem cs_171 {G : ab_G} {L : Nat} {xs : Nat → Int32} {l : Launch} {d : Nat} {i1 : Int32} {i2 : Int32} {V : aa_V} {Q : Int32 → Int32 → aa_V → Prop} (hI : nv V) (hQ : ∀ x W, nv W → Q x x W) :
    ab_E G (ac_ST L xs) l (d + 2) ac_SK 171 [.ref 0, .int i1, .int i2] V (aa_rI fun x V1 => ab_E G (ac_ST L xs) l (d + 2) ac_SK 266 [.ref 105, .int i1, .int i2] V1 (aa_rI fun y W => Q x y W)) := by
  have hI' := hI
  obtain ⟨hn, hr, hw, ha, hp, ho, hb, hk, hs, hf, ht⟩ := hI'
  have hb' := hb
  obtain ⟨⟨b1, b2⟩, ⟨b3, b4, b5⟩, b6, b7⟩ := hb'
  have b2r := zb_r b2 (by decide)
  have b2s := zb_sub1 b2 (by decide)
  refine sp_171 (fun q1 q2 q3 q4 q5 => by
    simp only [zz_lt, zz_eq, zl_m2, zl_m4, zl_m99, zl_0, zl_1, zl_8, zl_99, b2s] at q1 q2 q3 q4 q5
    refine vp_of_r ?_ ?_ <;> omega) ?_
  dsimp only [aa_rI, aa_rL]
  by_cases g1 : i1 < (-99 : Int32)
  · have g1k := g1
    simp only [zz_lt, zz_eq, zl_m2, zl_m4, zl_m99, zl_0, zl_1, zl_8, zl_99, b2s] at g1k
    have ev : va_171 i1 i2 V = (-2 : Int32) := by simp only [va_171, if_pos g1]
    have en : vn_171 i1 i2 V = V := by simp only [vn_171, if_pos g1]
    rw [ev, en]
    refine sp_266 (fun q1 q2 q3 q4 q5 => by
      simp only [zz_lt, zz_eq, zl_m2, zl_m4, zl_m99, zl_0, zl_1, zl_8, zl_99, b2s, b1, b3, b4, b5] at q1 q2 q3 q4 q5
      try simp only [b1, b3, b4, b5]
      refine vp_of_r ?_ ?_ <;> omega) ?_
    dsimp only [aa_rI, aa_rL]
    have j2 : (i1 < (-99 : Int32)) := (by simp only [zz_lt, zz_eq, zl_m2, zl_m4, zl_m99, zl_0, zl_1, zl_8, zl_99, b2s, b1, b3, b4, b5] <;> omega)
    have em : va_266 i1 i2 V = (-2 : Int32) := by simp only [va_266, if_pos j2]
    have eo : vn_266 i1 i2 V = V := by simp only [vn_266, if_pos j2]
    rw [em, eo]
    refine hQ _ _ ?_
    exact hI
  · have g1k := g1
    simp only [zz_lt, zz_eq, zl_m2, zl_m4, zl_m99, zl_0, zl_1, zl_8, zl_99, b2s] at g1k
    by_cases g3 : (99 : Int32) < i1
    · have g3k := g3
      simp only [zz_lt, zz_eq, zl_m2, zl_m4, zl_m99, zl_0, zl_1, zl_8, zl_99, b2s] at g3k
      have ev : va_171 i1 i2 V = (-2 : Int32) := by simp only [va_171, if_neg g1, if_pos g3]
      have en : vn_171 i1 i2 V = V := by simp only [vn_171, if_neg g1, if_pos g3]
      rw [ev, en]
      refine sp_266 (fun q1 q2 q3 q4 q5 => by
        simp only [zz_lt, zz_eq, zl_m2, zl_m4, zl_m99, zl_0, zl_1, zl_8, zl_99, b2s, b1, b3, b4, b5] at q1 q2 q3 q4 q5
        try simp only [b1, b3, b4, b5]
        refine vp_of_r ?_ ?_ <;> omega) ?_
      dsimp only [aa_rI, aa_rL]
      have j4 : ¬ (i1 < (-99 : Int32)) := (by simp only [zz_lt, zz_eq, zl_m2, zl_m4, zl_m99, zl_0, zl_1, zl_8, zl_99, b2s, b1, b3, b4, b5] <;> omega)
      have j5 : ((99 : Int32) < i1) := (by simp only [zz_lt, zz_eq, zl_m2, zl_m4, zl_m99, zl_0, zl_1, zl_8, zl_99, b2s, b1, b3, b4, b5] <;> omega)
      have em : va_266 i1 i2 V = (-2 : Int32) := by simp only [va_266, if_neg j4, if_pos j5]
      have eo : vn_266 i1 i2 V = V := by simp only [vn_266, if_neg j4, if_pos j5]
      rw [em, eo]
      refine hQ _ _ ?_
      exact hI
    · have g3k := g3
      simp only [zz_lt, zz_eq, zl_m2, zl_m4, zl_m99, zl_0, zl_1, zl_8, zl_99, b2s] at g3k
      by_cases g6 : i2 < (-99 : Int32)
      · have g6k := g6
        simp only [zz_lt, zz_eq, zl_m2, zl_m4, zl_m99, zl_0, zl_1, zl_8, zl_99, b2s] at g6k
        have ev : va_171 i1 i2 V = (-2 : Int32) := by simp only [va_171, if_neg g1, if_neg g3, if_pos g6]
        have en : vn_171 i1 i2 V = V := by simp only [vn_171, if_neg g1, if_neg g3, if_pos g6]
        rw [ev, en]
        refine sp_266 (fun q1 q2 q3 q4 q5 => by
          simp only [zz_lt, zz_eq, zl_m2, zl_m4, zl_m99, zl_0, zl_1, zl_8, zl_99, b2s, b1, b3, b4, b5] at q1 q2 q3 q4 q5
          try simp only [b1, b3, b4, b5]
          refine vp_of_r ?_ ?_ <;> omega) ?_
        dsimp only [aa_rI, aa_rL]
        have j7 : ¬ (i1 < (-99 : Int32)) := (by simp only [zz_lt, zz_eq, zl_m2, zl_m4, zl_m99, zl_0, zl_1, zl_8, zl_99, b2s, b1, b3, b4, b5] <;> omega)
        have j8 : ¬ ((99 : Int32) < i1) := (by simp only [zz_lt, zz_eq, zl_m2, zl_m4, zl_m99, zl_0, zl_1, zl_8, zl_99, b2s, b1, b3, b4, b5] <;> omega)
        have j9 : (i2 < (-99 : Int32)) := (by simp only [zz_lt, zz_eq, zl_m2, zl_m4, zl_m99, zl_0, zl_1, zl_8, zl_99, b2s, b1, b3, b4, b5] <;> omega)
        have em : va_266 i1 i2 V = (-2 : Int32) := by simp only [va_266, if_neg j7, if_neg j8, if_pos j9]
        have eo : vn_266 i1 i2 V = V := by simp only [vn_266, if_neg j7, if_neg j8, if_pos j9]
        rw [em, eo]
        refine hQ _ _ ?_
        exact hI
      · have g6k := g6
        simp only [zz_lt, zz_eq, zl_m2, zl_m4, zl_m99, zl_0, zl_1, zl_8, zl_99, b2s] at g6k
        by_cases g10 : (99 : Int32) < i2
        · have g10k := g10
          simp only [zz_lt, zz_eq, zl_m2, zl_m4, zl_m99, zl_0, zl_1, zl_8, zl_99, b2s] at g10k
          have ev : va_171 i1 i2 V = (-2 : Int32) := by simp only [va_171, if_neg g1, if_neg g3, if_neg g6, if_pos g10]
          have en : vn_171 i1 i2 V = V := by simp only [vn_171, if_neg g1, if_neg g3, if_neg g6, if_pos g10]
          rw [ev, en]
          refine sp_266 (fun q1 q2 q3 q4 q5 => by
            simp only [zz_lt, zz_eq, zl_m2, zl_m4, zl_m99, zl_0, zl_1, zl_8, zl_99, b2s, b1, b3, b4, b5] at q1 q2 q3 q4 q5
            try simp only [b1, b3, b4, b5]
            refine vp_of_r ?_ ?_ <;> omega) ?_
          dsimp only [aa_rI, aa_rL]
          have j11 : ¬ (i1 < (-99 : Int32)) := (by simp only [zz_lt, zz_eq, zl_m2, zl_m4, zl_m99, zl_0, zl_1, zl_8, zl_99, b2s, b1, b3, b4, b5] <;> omega)
          have j12 : ¬ ((99 : Int32) < i1) := (by simp only [zz_lt, zz_eq, zl_m2, zl_m4, zl_m99, zl_0, zl_1, zl_8, zl_99, b2s, b1, b3, b4, b5] <;> omega)
          have j13 : ¬ (i2 < (-99 : Int32)) := (by simp only [zz_lt, zz_eq, zl_m2, zl_m4, zl_m99, zl_0, zl_1, zl_8, zl_99, b2s, b1, b3, b4, b5] <;> omega)
          have j14 : ((99 : Int32) < i2) := (by simp only [zz_lt, zz_eq, zl_m2, zl_m4, zl_m99, zl_0, zl_1, zl_8, zl_99, b2s, b1, b3, b4, b5] <;> omega)
          have em : va_266 i1 i2 V = (-2 : Int32) := by simp only [va_266, if_neg j11, if_neg j12, if_neg j13, if_pos j14]
          have eo : vn_266 i1 i2 V = V := by simp only [vn_266, if_neg j11, if_neg j12, if_neg j13, if_pos j14]
          rw [em, eo]
          refine hQ _ _ ?_
          exact hI
        · have g10k := g10
          simp only [zz_lt, zz_eq, zl_m2, zl_m4, zl_m99, zl_0, zl_1, zl_8, zl_99, b2s] at g10k
          by_cases g15 : (V 60 0) < (8 : Int32)
          · have g15k := g15
            simp only [zz_lt, zz_eq, zl_m2, zl_m4, zl_m99, zl_0, zl_1, zl_8, zl_99, b2s] at g15k
            have ev : va_171 i1 i2 V = (((V 60 0) + (1 : Int32)) - (1 : Int32)) := by simp only [va_171, if_neg g1, if_neg g3, if_neg g6, if_neg g10, if_pos g15]
            have en : vn_171 i1 i2 V = (aa_up (aa_up (aa_up V 61 (((V 60 0)).toNatClampNeg) i1) 62 (((V 60 0)).toNatClampNeg) i2) 60 0 ((V 60 0) + (1 : Int32))) := by simp only [vn_171, if_neg g1, if_neg g3, if_neg g6, if_neg g10, if_pos g15]
            rw [ev, en]
            obtain ⟨W, hWe⟩ : ∃ W, W = (aa_up (aa_up (aa_up V 61 (((V 60 0)).toNatClampNeg) i1) 62 (((V 60 0)).toNatClampNeg) i2) 60 0 ((V 60 0) + (1 : Int32))) := ⟨_, rfl⟩
            have hW : ∀ c, 104 < c → W c = V c := fun c hc => by rw [hWe, aa_up_c (by omega), aa_up_c (by omega), aa_up_c (by omega)]
            rw [← hWe]
            refine sp_266 (fun q1 q2 q3 q4 q5 => by
              simp only [zz_lt, zz_eq, zl_m2, zl_m4, zl_m99, zl_0, zl_1, zl_8, zl_99, b2s, hW 105 (by decide), hW 143 (by decide), hW 144 (by decide), hW 145 (by decide), b1, b3, b4, b5] at q1 q2 q3 q4 q5
              try simp only [b1, b3, b4, b5, hW 105 (by decide), hW 143 (by decide), hW 144 (by decide), hW 145 (by decide)]
              refine vp_of_r ?_ ?_ <;> omega) ?_
            dsimp only [aa_rI, aa_rL]
            have j16 : ¬ (i1 < (-99 : Int32)) := (by simp only [zz_lt, zz_eq, zl_m2, zl_m4, zl_m99, zl_0, zl_1, zl_8, zl_99, b2s, hW 105 (by decide), hW 143 (by decide), hW 144 (by decide), hW 145 (by decide), b1, b3, b4, b5] <;> omega)
            have j17 : ¬ ((99 : Int32) < i1) := (by simp only [zz_lt, zz_eq, zl_m2, zl_m4, zl_m99, zl_0, zl_1, zl_8, zl_99, b2s, hW 105 (by decide), hW 143 (by decide), hW 144 (by decide), hW 145 (by decide), b1, b3, b4, b5] <;> omega)
            have j18 : ¬ (i2 < (-99 : Int32)) := (by simp only [zz_lt, zz_eq, zl_m2, zl_m4, zl_m99, zl_0, zl_1, zl_8, zl_99, b2s, hW 105 (by decide), hW 143 (by decide), hW 144 (by decide), hW 145 (by decide), b1, b3, b4, b5] <;> omega)
            have j19 : ¬ ((99 : Int32) < i2) := (by simp only [zz_lt, zz_eq, zl_m2, zl_m4, zl_m99, zl_0, zl_1, zl_8, zl_99, b2s, hW 105 (by decide), hW 143 (by decide), hW 144 (by decide), hW 145 (by decide), b1, b3, b4, b5] <;> omega)
            have j20 : ¬ ((W 105 58) = (8 : Int32)) := (by simp only [zz_lt, zz_eq, zl_m2, zl_m4, zl_m99, zl_0, zl_1, zl_8, zl_99, b2s, hW 105 (by decide), hW 143 (by decide), hW 144 (by decide), hW 145 (by decide), b1, b3, b4, b5] <;> omega)
            have em : va_266 i1 i2 W = (((W 105 58) + (1 : Int32)) - (1 : Int32)) := by simp only [va_266, if_neg j16, if_neg j17, if_neg j18, if_neg j19, if_neg j20]
            have eo : vn_266 i1 i2 W = (aa_up (aa_up (aa_up W 143 (((W 105 58)).toNatClampNeg) i1) 144 (((W 105 58)).toNatClampNeg) i2) 105 58 ((W 105 58) + (1 : Int32))) := by simp only [vn_266, if_neg j16, if_neg j17, if_neg j18, if_neg j19, if_neg j20]
            rw [em, eo]
            have ex : (((W 105 58) + (1 : Int32)) - (1 : Int32)) = (((V 60 0) + (1 : Int32)) - (1 : Int32)) := by simp only [hW 105 (by decide), hW 143 (by decide), hW 144 (by decide), hW 145 (by decide), b1, b3, b4, b5]
            rw [ex]
            refine hQ _ _ ?_
            try simp only [hW 105 (by decide), hW 143 (by decide), hW 144 (by decide), hW 145 (by decide), b1, b3, b4, b5]
            rw [hWe]
            have z1 : nv_g i1 := by unfold nv_g; omega
            have z2 : nv_g i2 := by unfold nv_g; omega
            refine ⟨hn, nv_rc (V := V) (fun c _ _ => by rw [aa_up_c (by omega), aa_up_c (by omega), aa_up_c (by omega), aa_up_c (by omega), aa_up_c (by omega), aa_up_c (by omega)]) rfl hr, hw, ha, hp, ho, ?_, nv_kc (V := V) (fun c _ _ => by rw [aa_up_c (by omega), aa_up_c (by omega), aa_up_c (by omega), aa_up_c (by omega), aa_up_c (by omega), aa_up_c (by omega)]) rfl rfl rfl hk, nv_sc (V := V) (fun c _ _ => by rw [aa_up_c (by omega), aa_up_c (by omega), aa_up_c (by omega), aa_up_c (by omega), aa_up_c (by omega), aa_up_c (by omega)]) rfl rfl rfl rfl rfl hs, hf, nv_tx (V := V) (fun c _ _ => by rw [aa_up_c (by omega), aa_up_c (by omega), aa_up_c (by omega), aa_up_c (by omega), aa_up_c (by omega), aa_up_c (by omega)]) rfl rfl rfl rfl rfl rfl rfl rfl rfl ht⟩
            exact ⟨⟨rfl, zb_up b2 (by omega) (by decide)⟩, ⟨(show upd (V 143) (V 60 0).toNatClampNeg i1 = upd (V 61) (V 60 0).toNatClampNeg i1 from upd_eq b3), (show upd (V 144) (V 60 0).toNatClampNeg i2 = upd (V 62) (V 60 0).toNatClampNeg i2 from upd_eq b4), b5⟩, (show ∀ i, nv_g (upd (V 61) (V 60 0).toNatClampNeg i1 i) from upd_p (P := nv_g) b6 z1), (show ∀ i, nv_g (upd (V 62) (V 60 0).toNatClampNeg i2 i) from upd_p (P := nv_g) b7 z2)⟩
          · have g15k := g15
            simp only [zz_lt, zz_eq, zl_m2, zl_m4, zl_m99, zl_0, zl_1, zl_8, zl_99, b2s] at g15k
            have ev : va_171 i1 i2 V = (-4 : Int32) := by simp only [va_171, if_neg g1, if_neg g3, if_neg g6, if_neg g10, if_neg g15]
            have en : vn_171 i1 i2 V = V := by simp only [vn_171, if_neg g1, if_neg g3, if_neg g6, if_neg g10, if_neg g15]
            rw [ev, en]
            refine sp_266 (fun q1 q2 q3 q4 q5 => by
              simp only [zz_lt, zz_eq, zl_m2, zl_m4, zl_m99, zl_0, zl_1, zl_8, zl_99, b2s, b1, b3, b4, b5] at q1 q2 q3 q4 q5
              try simp only [b1, b3, b4, b5]
              refine vp_of_r ?_ ?_ <;> omega) ?_
            dsimp only [aa_rI, aa_rL]
            have j21 : ¬ (i1 < (-99 : Int32)) := (by simp only [zz_lt, zz_eq, zl_m2, zl_m4, zl_m99, zl_0, zl_1, zl_8, zl_99, b2s, b1, b3, b4, b5] <;> omega)
            have j22 : ¬ ((99 : Int32) < i1) := (by simp only [zz_lt, zz_eq, zl_m2, zl_m4, zl_m99, zl_0, zl_1, zl_8, zl_99, b2s, b1, b3, b4, b5] <;> omega)
            have j23 : ¬ (i2 < (-99 : Int32)) := (by simp only [zz_lt, zz_eq, zl_m2, zl_m4, zl_m99, zl_0, zl_1, zl_8, zl_99, b2s, b1, b3, b4, b5] <;> omega)
            have j24 : ¬ ((99 : Int32) < i2) := (by simp only [zz_lt, zz_eq, zl_m2, zl_m4, zl_m99, zl_0, zl_1, zl_8, zl_99, b2s, b1, b3, b4, b5] <;> omega)
            have j25 : ((V 105 58) = (8 : Int32)) := (by simp only [zz_lt, zz_eq, zl_m2, zl_m4, zl_m99, zl_0, zl_1, zl_8, zl_99, b2s, b1, b3, b4, b5] <;> omega)
            have em : va_266 i1 i2 V = (-4 : Int32) := by simp only [va_266, if_neg j21, if_neg j22, if_neg j23, if_neg j24, if_pos j25]
            have eo : vn_266 i1 i2 V = V := by simp only [vn_266, if_neg j21, if_neg j22, if_neg j23, if_neg j24, if_pos j25]
            rw [em, eo]
            refine hQ _ _ ?_
            exact hI

set_option maxRecDepth 20000 in
/-- F_mend -/
theorem cs_145 {G : ab_G} {L : Nat} {xs : Nat → Int32} {l : Launch} {d : Nat} {i1 : Int32} {i2 : Int32} {V : aa_V} {Q : Int32 → Int32 → aa_V → Prop} (hI : nv V) (hQ : ∀ x W, nv W → Q x x W) :
    ab_E G (ac_ST L xs) l (d + 3) ac_SK 145 [.ref 0, .int i1, .int i2] V (aa_rI fun x V1 => ab_E G (ac_ST L xs) l (d + 2) ac_SK 208 [.ref 105, .int i1, .int i2] V1 (aa_rI fun y W => Q x y W)) := by
  have hI' := hI
  obtain ⟨hn, hr, hw, ha, hp, ho, hb, hk, hs, hf, ht⟩ := hI'
  have hw' := hw
  obtain ⟨⟨w1, w2, w3, w4⟩, ⟨w5, w6, w7, w8, w9, w10, w11, w12⟩, s1, s2, s3, s4, s5, s6, s7, s8⟩ := hw'
  have w2r := zb_r w2 (by decide)
  have w2s := zb_sub1 w2 (by decide)
  have w4r := zb_r w4 (by decide)
  have w4s := zb_sub1 w4 (by decide)
  refine sp_145 (fun q1 q2 q3 q4 q5 => by
    simp only [zz_lt, zz_eq, zl_m2, zl_m3, zl_0, zl_1, zl_2, w2s, w4s] at q1 q2 q3 q4 q5
    refine vp_of_r ?_ ?_ <;> omega) (fun q1 q2 q3 q4 q5 q6 => by
    simp only [zz_lt, zz_eq, zl_m2, zl_m3, zl_0, zl_1, zl_2, w2s, w4s] at q1 q2 q3 q4 q5 q6
    refine vp_of_r ?_ ?_ <;> omega) (fun q1 q2 q3 q4 q5 q6 => by
    simp only [zz_lt, zz_eq, zl_m2, zl_m3, zl_0, zl_1, zl_2, w2s, w4s] at q1 q2 q3 q4 q5 q6
    refine vp_of_r ?_ ?_ <;> omega) ?_
  dsimp only [aa_rI, aa_rL]
  by_cases g1 : i1 < (0 : Int32)
  · have g1k := g1
    simp only [zz_lt, zz_eq, zl_m2, zl_m3, zl_0, zl_1, zl_2, w2s, w4s] at g1k
    have ev : va_145 i1 i2 V = (-2 : Int32) := by simp only [va_145, va_121, vn_121, zl_ne, if_true, if_false, if_pos g1]
    have en : vn_145 i1 i2 V = V := by simp only [vn_145, va_121, vn_121, zl_ne, if_true, if_false, if_pos g1]
    rw [ev, en]
    refine sp_208 (fun q1 q2 q3 q4 q5 => by
      simp only [zz_lt, zz_eq, zl_m2, zl_m3, zl_0, zl_1, zl_2, w2s, w4s, w1, w3, w5, w6, w7, w8, w9, w10, w11, w12] at q1 q2 q3 q4 q5
      try simp only [w1, w3, w5, w6, w7, w8, w9, w10, w11, w12]
      refine vp_of_r ?_ ?_ <;> omega) (fun q1 q2 q3 q4 q5 q6 => by
      simp only [zz_lt, zz_eq, zl_m2, zl_m3, zl_0, zl_1, zl_2, w2s, w4s, w1, w3, w5, w6, w7, w8, w9, w10, w11, w12] at q1 q2 q3 q4 q5 q6
      try simp only [w1, w3, w5, w6, w7, w8, w9, w10, w11, w12]
      refine vp_of_r ?_ ?_ <;> omega) (fun q1 q2 q3 q4 q5 q6 => by
      simp only [zz_lt, zz_eq, zl_m2, zl_m3, zl_0, zl_1, zl_2, w2s, w4s, w1, w3, w5, w6, w7, w8, w9, w10, w11, w12] at q1 q2 q3 q4 q5 q6
      try simp only [w1, w3, w5, w6, w7, w8, w9, w10, w11, w12]
      refine vp_of_r ?_ ?_ <;> omega) ?_
    dsimp only [aa_rI, aa_rL]
    have j2 : (i1 < 0) := (by simp only [zz_lt, zz_eq, zl_m2, zl_m3, zl_0, zl_1, zl_2, w2s, w4s, w1, w3, w5, w6, w7, w8, w9, w10, w11, w12] <;> omega)
    have em : va_208 i1 i2 V = (-2 : Int32) := by simp only [va_208, if_pos j2]
    have eo : vn_208 i1 i2 V = V := by simp only [vn_208, if_pos j2]
    rw [em, eo]
    refine hQ _ _ ?_
    exact hI
  · have g1k := g1
    simp only [zz_lt, zz_eq, zl_m2, zl_m3, zl_0, zl_1, zl_2, w2s, w4s] at g1k
    by_cases g3 : ((V 29 3) - (1 : Int32)) < i1
    · have g3k := g3
      simp only [zz_lt, zz_eq, zl_m2, zl_m3, zl_0, zl_1, zl_2, w2s, w4s] at g3k
      have ev : va_145 i1 i2 V = (-2 : Int32) := by simp only [va_145, va_121, vn_121, zl_ne, if_true, if_false, if_neg g1, if_pos g3]
      have en : vn_145 i1 i2 V = V := by simp only [vn_145, va_121, vn_121, zl_ne, if_true, if_false, if_neg g1, if_pos g3]
      rw [ev, en]
      refine sp_208 (fun q1 q2 q3 q4 q5 => by
        simp only [zz_lt, zz_eq, zl_m2, zl_m3, zl_0, zl_1, zl_2, w2s, w4s, w1, w3, w5, w6, w7, w8, w9, w10, w11, w12] at q1 q2 q3 q4 q5
        try simp only [w1, w3, w5, w6, w7, w8, w9, w10, w11, w12]
        refine vp_of_r ?_ ?_ <;> omega) (fun q1 q2 q3 q4 q5 q6 => by
        simp only [zz_lt, zz_eq, zl_m2, zl_m3, zl_0, zl_1, zl_2, w2s, w4s, w1, w3, w5, w6, w7, w8, w9, w10, w11, w12] at q1 q2 q3 q4 q5 q6
        try simp only [w1, w3, w5, w6, w7, w8, w9, w10, w11, w12]
        refine vp_of_r ?_ ?_ <;> omega) (fun q1 q2 q3 q4 q5 q6 => by
        simp only [zz_lt, zz_eq, zl_m2, zl_m3, zl_0, zl_1, zl_2, w2s, w4s, w1, w3, w5, w6, w7, w8, w9, w10, w11, w12] at q1 q2 q3 q4 q5 q6
        try simp only [w1, w3, w5, w6, w7, w8, w9, w10, w11, w12]
        refine vp_of_r ?_ ?_ <;> omega) ?_
      dsimp only [aa_rI, aa_rL]
      have j4 : ¬ (i1 < 0) := (by simp only [zz_lt, zz_eq, zl_m2, zl_m3, zl_0, zl_1, zl_2, w2s, w4s, w1, w3, w5, w6, w7, w8, w9, w10, w11, w12] <;> omega)
      have j5 : ¬ (i1 < (V 105 12)) := (by simp only [zz_lt, zz_eq, zl_m2, zl_m3, zl_0, zl_1, zl_2, w2s, w4s, w1, w3, w5, w6, w7, w8, w9, w10, w11, w12] <;> omega)
      have em : va_208 i1 i2 V = (-2 : Int32) := by simp only [va_208, if_neg j4, if_neg j5]
      have eo : vn_208 i1 i2 V = V := by simp only [vn_208, if_neg j4, if_neg j5]
      rw [em, eo]
      refine hQ _ _ ?_
      exact hI
    · have g3k := g3
      simp only [zz_lt, zz_eq, zl_m2, zl_m3, zl_0, zl_1, zl_2, w2s, w4s] at g3k
      by_cases g6 : i2 < (0 : Int32)
      · have g6k := g6
        simp only [zz_lt, zz_eq, zl_m2, zl_m3, zl_0, zl_1, zl_2, w2s, w4s] at g6k
        have ev : va_145 i1 i2 V = (-2 : Int32) := by simp only [va_145, va_121, vn_121, zl_ne, if_true, if_false, if_neg g1, if_neg g3, if_pos g6]
        have en : vn_145 i1 i2 V = V := by simp only [vn_145, va_121, vn_121, zl_ne, if_true, if_false, if_neg g1, if_neg g3, if_pos g6]
        rw [ev, en]
        refine sp_208 (fun q1 q2 q3 q4 q5 => by
          simp only [zz_lt, zz_eq, zl_m2, zl_m3, zl_0, zl_1, zl_2, w2s, w4s, w1, w3, w5, w6, w7, w8, w9, w10, w11, w12] at q1 q2 q3 q4 q5
          try simp only [w1, w3, w5, w6, w7, w8, w9, w10, w11, w12]
          refine vp_of_r ?_ ?_ <;> omega) (fun q1 q2 q3 q4 q5 q6 => by
          simp only [zz_lt, zz_eq, zl_m2, zl_m3, zl_0, zl_1, zl_2, w2s, w4s, w1, w3, w5, w6, w7, w8, w9, w10, w11, w12] at q1 q2 q3 q4 q5 q6
          try simp only [w1, w3, w5, w6, w7, w8, w9, w10, w11, w12]
          refine vp_of_r ?_ ?_ <;> omega) (fun q1 q2 q3 q4 q5 q6 => by
          simp only [zz_lt, zz_eq, zl_m2, zl_m3, zl_0, zl_1, zl_2, w2s, w4s, w1, w3, w5, w6, w7, w8, w9, w10, w11, w12] at q1 q2 q3 q4 q5 q6
          try simp only [w1, w3, w5, w6, w7, w8, w9, w10, w11, w12]
          refine vp_of_r ?_ ?_ <;> omega) ?_
        dsimp only [aa_rI, aa_rL]
        have j7 : ¬ (i1 < 0) := (by simp only [zz_lt, zz_eq, zl_m2, zl_m3, zl_0, zl_1, zl_2, w2s, w4s, w1, w3, w5, w6, w7, w8, w9, w10, w11, w12] <;> omega)
        have j8 : (i1 < (V 105 12)) := (by simp only [zz_lt, zz_eq, zl_m2, zl_m3, zl_0, zl_1, zl_2, w2s, w4s, w1, w3, w5, w6, w7, w8, w9, w10, w11, w12] <;> omega)
        have j9 : (i2 < (0 : Int32)) := (by simp only [zz_lt, zz_eq, zl_m2, zl_m3, zl_0, zl_1, zl_2, w2s, w4s, w1, w3, w5, w6, w7, w8, w9, w10, w11, w12] <;> omega)
        have em : va_208 i1 i2 V = (-2 : Int32) := by simp only [va_208, if_neg j7, if_pos j8, if_pos j9]
        have eo : vn_208 i1 i2 V = V := by simp only [vn_208, if_neg j7, if_pos j8, if_pos j9]
        rw [em, eo]
        refine hQ _ _ ?_
        exact hI
      · have g6k := g6
        simp only [zz_lt, zz_eq, zl_m2, zl_m3, zl_0, zl_1, zl_2, w2s, w4s] at g6k
        by_cases g10 : (2 : Int32) < i2
        · have g10k := g10
          simp only [zz_lt, zz_eq, zl_m2, zl_m3, zl_0, zl_1, zl_2, w2s, w4s] at g10k
          have ev : va_145 i1 i2 V = (-2 : Int32) := by simp only [va_145, va_121, vn_121, zl_ne, if_true, if_false, if_neg g1, if_neg g3, if_neg g6, if_pos g10]
          have en : vn_145 i1 i2 V = V := by simp only [vn_145, va_121, vn_121, zl_ne, if_true, if_false, if_neg g1, if_neg g3, if_neg g6, if_pos g10]
          rw [ev, en]
          refine sp_208 (fun q1 q2 q3 q4 q5 => by
            simp only [zz_lt, zz_eq, zl_m2, zl_m3, zl_0, zl_1, zl_2, w2s, w4s, w1, w3, w5, w6, w7, w8, w9, w10, w11, w12] at q1 q2 q3 q4 q5
            try simp only [w1, w3, w5, w6, w7, w8, w9, w10, w11, w12]
            refine vp_of_r ?_ ?_ <;> omega) (fun q1 q2 q3 q4 q5 q6 => by
            simp only [zz_lt, zz_eq, zl_m2, zl_m3, zl_0, zl_1, zl_2, w2s, w4s, w1, w3, w5, w6, w7, w8, w9, w10, w11, w12] at q1 q2 q3 q4 q5 q6
            try simp only [w1, w3, w5, w6, w7, w8, w9, w10, w11, w12]
            refine vp_of_r ?_ ?_ <;> omega) (fun q1 q2 q3 q4 q5 q6 => by
            simp only [zz_lt, zz_eq, zl_m2, zl_m3, zl_0, zl_1, zl_2, w2s, w4s, w1, w3, w5, w6, w7, w8, w9, w10, w11, w12] at q1 q2 q3 q4 q5 q6
            try simp only [w1, w3, w5, w6, w7, w8, w9, w10, w11, w12]
            refine vp_of_r ?_ ?_ <;> omega) ?_
          dsimp only [aa_rI, aa_rL]
          have j11 : ¬ (i1 < 0) := (by simp only [zz_lt, zz_eq, zl_m2, zl_m3, zl_0, zl_1, zl_2, w2s, w4s, w1, w3, w5, w6, w7, w8, w9, w10, w11, w12] <;> omega)
          have j12 : (i1 < (V 105 12)) := (by simp only [zz_lt, zz_eq, zl_m2, zl_m3, zl_0, zl_1, zl_2, w2s, w4s, w1, w3, w5, w6, w7, w8, w9, w10, w11, w12] <;> omega)
          have j13 : ¬ (i2 < (0 : Int32)) := (by simp only [zz_lt, zz_eq, zl_m2, zl_m3, zl_0, zl_1, zl_2, w2s, w4s, w1, w3, w5, w6, w7, w8, w9, w10, w11, w12] <;> omega)
          have j14 : ((2 : Int32) < i2) := (by simp only [zz_lt, zz_eq, zl_m2, zl_m3, zl_0, zl_1, zl_2, w2s, w4s, w1, w3, w5, w6, w7, w8, w9, w10, w11, w12] <;> omega)
          have em : va_208 i1 i2 V = (-2 : Int32) := by simp only [va_208, if_neg j11, if_pos j12, if_neg j13, if_pos j14]
          have eo : vn_208 i1 i2 V = V := by simp only [vn_208, if_neg j11, if_pos j12, if_neg j13, if_pos j14]
          rw [em, eo]
          refine hQ _ _ ?_
          exact hI
        · have g10k := g10
          simp only [zz_lt, zz_eq, zl_m2, zl_m3, zl_0, zl_1, zl_2, w2s, w4s] at g10k
          by_cases g15 : i2 = 0
          · have g15k := g15
            simp only [zz_lt, zz_eq, zl_m2, zl_m3, zl_0, zl_1, zl_2, w2s, w4s] at g15k
            by_cases g16 : (V 36 ((i1).toNatClampNeg)) = (1 : Int32)
            · have g16k := g16
              simp only [zz_lt, zz_eq, zl_m2, zl_m3, zl_0, zl_1, zl_2, w2s, w4s] at g16k
              have ev : va_145 i1 i2 V = (1 : Int32) := by simp only [va_145, va_121, vn_121, zl_ne, if_true, if_false, if_neg g1, if_neg g3, if_neg g6, if_neg g10, if_pos g15, if_pos g16]
              have en : vn_145 i1 i2 V = (aa_up V 36 ((i1).toNatClampNeg) (0 : Int32)) := by simp only [vn_145, va_121, vn_121, zl_ne, if_true, if_false, if_neg g1, if_neg g3, if_neg g6, if_neg g10, if_pos g15, if_pos g16]
              rw [ev, en]
              obtain ⟨W, hWe⟩ : ∃ W, W = (aa_up V 36 ((i1).toNatClampNeg) (0 : Int32)) := ⟨_, rfl⟩
              have hW : ∀ c, 104 < c → W c = V c := fun c hc => by rw [hWe, aa_up_c (by omega)]
              rw [← hWe]
              refine sp_208 (fun q1 q2 q3 q4 q5 => by
                simp only [zz_lt, zz_eq, zl_m2, zl_m3, zl_0, zl_1, zl_2, w2s, w4s, hW 105 (by decide), hW 108 (by decide), hW 109 (by decide), hW 110 (by decide), hW 111 (by decide), hW 112 (by decide), hW 113 (by decide), hW 114 (by decide), hW 115 (by decide), w1, w3, w5, w6, w7, w8, w9, w10, w11, w12] at q1 q2 q3 q4 q5
                try simp only [w1, w3, w5, w6, w7, w8, w9, w10, w11, w12, hW 105 (by decide), hW 108 (by decide), hW 109 (by decide), hW 110 (by decide), hW 111 (by decide), hW 112 (by decide), hW 113 (by decide), hW 114 (by decide), hW 115 (by decide)]
                refine vp_of_r ?_ ?_ <;> omega) (fun q1 q2 q3 q4 q5 q6 => by
                simp only [zz_lt, zz_eq, zl_m2, zl_m3, zl_0, zl_1, zl_2, w2s, w4s, hW 105 (by decide), hW 108 (by decide), hW 109 (by decide), hW 110 (by decide), hW 111 (by decide), hW 112 (by decide), hW 113 (by decide), hW 114 (by decide), hW 115 (by decide), w1, w3, w5, w6, w7, w8, w9, w10, w11, w12] at q1 q2 q3 q4 q5 q6
                try simp only [w1, w3, w5, w6, w7, w8, w9, w10, w11, w12, hW 105 (by decide), hW 108 (by decide), hW 109 (by decide), hW 110 (by decide), hW 111 (by decide), hW 112 (by decide), hW 113 (by decide), hW 114 (by decide), hW 115 (by decide)]
                refine vp_of_r ?_ ?_ <;> omega) (fun q1 q2 q3 q4 q5 q6 => by
                simp only [zz_lt, zz_eq, zl_m2, zl_m3, zl_0, zl_1, zl_2, w2s, w4s, hW 105 (by decide), hW 108 (by decide), hW 109 (by decide), hW 110 (by decide), hW 111 (by decide), hW 112 (by decide), hW 113 (by decide), hW 114 (by decide), hW 115 (by decide), w1, w3, w5, w6, w7, w8, w9, w10, w11, w12] at q1 q2 q3 q4 q5 q6
                try simp only [w1, w3, w5, w6, w7, w8, w9, w10, w11, w12, hW 105 (by decide), hW 108 (by decide), hW 109 (by decide), hW 110 (by decide), hW 111 (by decide), hW 112 (by decide), hW 113 (by decide), hW 114 (by decide), hW 115 (by decide)]
                refine vp_of_r ?_ ?_ <;> omega) ?_
              dsimp only [aa_rI, aa_rL]
              have j17 : ¬ (i1 < 0) := (by simp only [zz_lt, zz_eq, zl_m2, zl_m3, zl_0, zl_1, zl_2, w2s, w4s, hW 105 (by decide), hW 108 (by decide), hW 109 (by decide), hW 110 (by decide), hW 111 (by decide), hW 112 (by decide), hW 113 (by decide), hW 114 (by decide), hW 115 (by decide), w1, w3, w5, w6, w7, w8, w9, w10, w11, w12] <;> omega)
              have j18 : (i1 < (W 105 12)) := (by simp only [zz_lt, zz_eq, zl_m2, zl_m3, zl_0, zl_1, zl_2, w2s, w4s, hW 105 (by decide), hW 108 (by decide), hW 109 (by decide), hW 110 (by decide), hW 111 (by decide), hW 112 (by decide), hW 113 (by decide), hW 114 (by decide), hW 115 (by decide), w1, w3, w5, w6, w7, w8, w9, w10, w11, w12] <;> omega)
              have j19 : ¬ (i2 < (0 : Int32)) := (by simp only [zz_lt, zz_eq, zl_m2, zl_m3, zl_0, zl_1, zl_2, w2s, w4s, hW 105 (by decide), hW 108 (by decide), hW 109 (by decide), hW 110 (by decide), hW 111 (by decide), hW 112 (by decide), hW 113 (by decide), hW 114 (by decide), hW 115 (by decide), w1, w3, w5, w6, w7, w8, w9, w10, w11, w12] <;> omega)
              have j20 : ¬ ((2 : Int32) < i2) := (by simp only [zz_lt, zz_eq, zl_m2, zl_m3, zl_0, zl_1, zl_2, w2s, w4s, hW 105 (by decide), hW 108 (by decide), hW 109 (by decide), hW 110 (by decide), hW 111 (by decide), hW 112 (by decide), hW 113 (by decide), hW 114 (by decide), hW 115 (by decide), w1, w3, w5, w6, w7, w8, w9, w10, w11, w12] <;> omega)
              have j21 : (i2 = 0) := (by simp only [zz_lt, zz_eq, zl_m2, zl_m3, zl_0, zl_1, zl_2, w2s, w4s, hW 105 (by decide), hW 108 (by decide), hW 109 (by decide), hW 110 (by decide), hW 111 (by decide), hW 112 (by decide), hW 113 (by decide), hW 114 (by decide), hW 115 (by decide), w1, w3, w5, w6, w7, w8, w9, w10, w11, w12] <;> omega)
              have j22 : ((W 114 ((i1).toNatClampNeg)) = (1 : Int32)) := (by simp only [zz_lt, zz_eq, zl_m2, zl_m3, zl_0, zl_1, zl_2, w2s, w4s, hW 105 (by decide), hW 108 (by decide), hW 109 (by decide), hW 110 (by decide), hW 111 (by decide), hW 112 (by decide), hW 113 (by decide), hW 114 (by decide), hW 115 (by decide), w1, w3, w5, w6, w7, w8, w9, w10, w11, w12] <;> omega)
              have j23 : ¬ (i2 = (2 : Int32)) := (by simp only [zz_lt, zz_eq, zl_m2, zl_m3, zl_0, zl_1, zl_2, w2s, w4s, hW 105 (by decide), hW 108 (by decide), hW 109 (by decide), hW 110 (by decide), hW 111 (by decide), hW 112 (by decide), hW 113 (by decide), hW 114 (by decide), hW 115 (by decide), w1, w3, w5, w6, w7, w8, w9, w10, w11, w12] <;> omega)
              have em : va_208 i1 i2 W = (1 : Int32) := by simp only [va_208, if_neg j17, if_pos j18, if_neg j19, if_neg j20, if_pos j21, if_pos j22, if_neg j23]
              have eo : vn_208 i1 i2 W = (aa_up W 114 ((i1).toNatClampNeg) (0 : Int32)) := by simp only [vn_208, if_neg j17, if_pos j18, if_neg j19, if_neg j20, if_pos j21, if_pos j22, if_neg j23]
              rw [em, eo]
              refine hQ _ _ ?_
              try simp only [hW 105 (by decide), hW 108 (by decide), hW 109 (by decide), hW 110 (by decide), hW 111 (by decide), hW 112 (by decide), hW 113 (by decide), hW 114 (by decide), hW 115 (by decide), w1, w3, w5, w6, w7, w8, w9, w10, w11, w12]
              rw [hWe]
              refine ⟨hn, nv_rc (V := V) (fun c _ _ => by rw [aa_up_c (by omega), aa_up_c (by omega)]) rfl hr, ?_, ha, hp, ho, hb, nv_kc (V := V) (fun c _ _ => by rw [aa_up_c (by omega), aa_up_c (by omega)]) rfl rfl rfl hk, nv_sc (V := V) (fun c _ _ => by rw [aa_up_c (by omega), aa_up_c (by omega)]) rfl rfl rfl rfl rfl hs, hf, nv_tx (V := V) (fun c _ _ => by rw [aa_up_c (by omega), aa_up_c (by omega)]) rfl rfl rfl rfl rfl rfl rfl rfl rfl ht⟩
              first | exact ⟨⟨w1, w2, w3, w4⟩, ⟨w5, w6, w7, w8, w9, w10, (show upd (V 114) i1.toNatClampNeg 0 = upd (V 36) i1.toNatClampNeg 0 from upd_eq w11), w12⟩, s1, s2, s3, s4, s5, s6, (show ∀ i, zb (upd (V 36) i1.toNatClampNeg 0 i) 2 from zb_upd s7 (zb_n (n := 0) (by decide) (by decide))), s8⟩ | exact ⟨⟨w1, w2, w3, w4⟩, ⟨w5, w6, w7, w8, w9, w10, (show upd (V 114) i1.toNatClampNeg 2 = upd (V 36) i1.toNatClampNeg 2 from upd_eq w11), w12⟩, s1, s2, s3, s4, s5, s6, (show ∀ i, zb (upd (V 36) i1.toNatClampNeg 2 i) 2 from zb_upd s7 (zb_n (n := 2) (by decide) (by decide))), s8⟩
            · have g16k := g16
              simp only [zz_lt, zz_eq, zl_m2, zl_m3, zl_0, zl_1, zl_2, w2s, w4s] at g16k
              have ev : va_145 i1 i2 V = (-3 : Int32) := by simp only [va_145, va_121, vn_121, zl_ne, if_true, if_false, if_neg g1, if_neg g3, if_neg g6, if_neg g10, if_pos g15, if_neg g16]
              have en : vn_145 i1 i2 V = V := by simp only [vn_145, va_121, vn_121, zl_ne, if_true, if_false, if_neg g1, if_neg g3, if_neg g6, if_neg g10, if_pos g15, if_neg g16]
              rw [ev, en]
              refine sp_208 (fun q1 q2 q3 q4 q5 => by
                simp only [zz_lt, zz_eq, zl_m2, zl_m3, zl_0, zl_1, zl_2, w2s, w4s, w1, w3, w5, w6, w7, w8, w9, w10, w11, w12] at q1 q2 q3 q4 q5
                try simp only [w1, w3, w5, w6, w7, w8, w9, w10, w11, w12]
                refine vp_of_r ?_ ?_ <;> omega) (fun q1 q2 q3 q4 q5 q6 => by
                simp only [zz_lt, zz_eq, zl_m2, zl_m3, zl_0, zl_1, zl_2, w2s, w4s, w1, w3, w5, w6, w7, w8, w9, w10, w11, w12] at q1 q2 q3 q4 q5 q6
                try simp only [w1, w3, w5, w6, w7, w8, w9, w10, w11, w12]
                refine vp_of_r ?_ ?_ <;> omega) (fun q1 q2 q3 q4 q5 q6 => by
                simp only [zz_lt, zz_eq, zl_m2, zl_m3, zl_0, zl_1, zl_2, w2s, w4s, w1, w3, w5, w6, w7, w8, w9, w10, w11, w12] at q1 q2 q3 q4 q5 q6
                try simp only [w1, w3, w5, w6, w7, w8, w9, w10, w11, w12]
                refine vp_of_r ?_ ?_ <;> omega) ?_
              dsimp only [aa_rI, aa_rL]
              have j24 : ¬ (i1 < 0) := (by simp only [zz_lt, zz_eq, zl_m2, zl_m3, zl_0, zl_1, zl_2, w2s, w4s, w1, w3, w5, w6, w7, w8, w9, w10, w11, w12] <;> omega)
              have j25 : (i1 < (V 105 12)) := (by simp only [zz_lt, zz_eq, zl_m2, zl_m3, zl_0, zl_1, zl_2, w2s, w4s, w1, w3, w5, w6, w7, w8, w9, w10, w11, w12] <;> omega)
              have j26 : ¬ (i2 < (0 : Int32)) := (by simp only [zz_lt, zz_eq, zl_m2, zl_m3, zl_0, zl_1, zl_2, w2s, w4s, w1, w3, w5, w6, w7, w8, w9, w10, w11, w12] <;> omega)
              have j27 : ¬ ((2 : Int32) < i2) := (by simp only [zz_lt, zz_eq, zl_m2, zl_m3, zl_0, zl_1, zl_2, w2s, w4s, w1, w3, w5, w6, w7, w8, w9, w10, w11, w12] <;> omega)
              have j28 : (i2 = 0) := (by simp only [zz_lt, zz_eq, zl_m2, zl_m3, zl_0, zl_1, zl_2, w2s, w4s, w1, w3, w5, w6, w7, w8, w9, w10, w11, w12] <;> omega)
              have j29 : ¬ ((V 114 ((i1).toNatClampNeg)) = (1 : Int32)) := (by simp only [zz_lt, zz_eq, zl_m2, zl_m3, zl_0, zl_1, zl_2, w2s, w4s, w1, w3, w5, w6, w7, w8, w9, w10, w11, w12] <;> omega)
              have em : va_208 i1 i2 V = (-3 : Int32) := by simp only [va_208, if_neg j24, if_pos j25, if_neg j26, if_neg j27, if_pos j28, if_neg j29]
              have eo : vn_208 i1 i2 V = V := by simp only [vn_208, if_neg j24, if_pos j25, if_neg j26, if_neg j27, if_pos j28, if_neg j29]
              rw [em, eo]
              refine hQ _ _ ?_
              exact hI
          · have g15k := g15
            simp only [zz_lt, zz_eq, zl_m2, zl_m3, zl_0, zl_1, zl_2, w2s, w4s] at g15k
            by_cases g30 : i2 = (1 : Int32)
            · have g30k := g30
              simp only [zz_lt, zz_eq, zl_m2, zl_m3, zl_0, zl_1, zl_2, w2s, w4s] at g30k
              by_cases g31 : (V 36 ((i1).toNatClampNeg)) = (2 : Int32)
              · have g31k := g31
                simp only [zz_lt, zz_eq, zl_m2, zl_m3, zl_0, zl_1, zl_2, w2s, w4s] at g31k
                have ev : va_145 i1 i2 V = (1 : Int32) := by simp only [va_145, va_121, vn_121, zl_ne, if_true, if_false, if_neg g1, if_neg g3, if_neg g6, if_neg g10, if_neg g15, if_pos g30, if_pos g31]
                have en : vn_145 i1 i2 V = (aa_up V 36 ((i1).toNatClampNeg) (0 : Int32)) := by simp only [vn_145, va_121, vn_121, zl_ne, if_true, if_false, if_neg g1, if_neg g3, if_neg g6, if_neg g10, if_neg g15, if_pos g30, if_pos g31]
                rw [ev, en]
                obtain ⟨W, hWe⟩ : ∃ W, W = (aa_up V 36 ((i1).toNatClampNeg) (0 : Int32)) := ⟨_, rfl⟩
                have hW : ∀ c, 104 < c → W c = V c := fun c hc => by rw [hWe, aa_up_c (by omega)]
                rw [← hWe]
                refine sp_208 (fun q1 q2 q3 q4 q5 => by
                  simp only [zz_lt, zz_eq, zl_m2, zl_m3, zl_0, zl_1, zl_2, w2s, w4s, hW 105 (by decide), hW 108 (by decide), hW 109 (by decide), hW 110 (by decide), hW 111 (by decide), hW 112 (by decide), hW 113 (by decide), hW 114 (by decide), hW 115 (by decide), w1, w3, w5, w6, w7, w8, w9, w10, w11, w12] at q1 q2 q3 q4 q5
                  try simp only [w1, w3, w5, w6, w7, w8, w9, w10, w11, w12, hW 105 (by decide), hW 108 (by decide), hW 109 (by decide), hW 110 (by decide), hW 111 (by decide), hW 112 (by decide), hW 113 (by decide), hW 114 (by decide), hW 115 (by decide)]
                  refine vp_of_r ?_ ?_ <;> omega) (fun q1 q2 q3 q4 q5 q6 => by
                  simp only [zz_lt, zz_eq, zl_m2, zl_m3, zl_0, zl_1, zl_2, w2s, w4s, hW 105 (by decide), hW 108 (by decide), hW 109 (by decide), hW 110 (by decide), hW 111 (by decide), hW 112 (by decide), hW 113 (by decide), hW 114 (by decide), hW 115 (by decide), w1, w3, w5, w6, w7, w8, w9, w10, w11, w12] at q1 q2 q3 q4 q5 q6
                  try simp only [w1, w3, w5, w6, w7, w8, w9, w10, w11, w12, hW 105 (by decide), hW 108 (by decide), hW 109 (by decide), hW 110 (by decide), hW 111 (by decide), hW 112 (by decide), hW 113 (by decide), hW 114 (by decide), hW 115 (by decide)]
                  refine vp_of_r ?_ ?_ <;> omega) (fun q1 q2 q3 q4 q5 q6 => by
                  simp only [zz_lt, zz_eq, zl_m2, zl_m3, zl_0, zl_1, zl_2, w2s, w4s, hW 105 (by decide), hW 108 (by decide), hW 109 (by decide), hW 110 (by decide), hW 111 (by decide), hW 112 (by decide), hW 113 (by decide), hW 114 (by decide), hW 115 (by decide), w1, w3, w5, w6, w7, w8, w9, w10, w11, w12] at q1 q2 q3 q4 q5 q6
                  try simp only [w1, w3, w5, w6, w7, w8, w9, w10, w11, w12, hW 105 (by decide), hW 108 (by decide), hW 109 (by decide), hW 110 (by decide), hW 111 (by decide), hW 112 (by decide), hW 113 (by decide), hW 114 (by decide), hW 115 (by decide)]
                  refine vp_of_r ?_ ?_ <;> omega) ?_
                dsimp only [aa_rI, aa_rL]
                have j32 : ¬ (i1 < 0) := (by simp only [zz_lt, zz_eq, zl_m2, zl_m3, zl_0, zl_1, zl_2, w2s, w4s, hW 105 (by decide), hW 108 (by decide), hW 109 (by decide), hW 110 (by decide), hW 111 (by decide), hW 112 (by decide), hW 113 (by decide), hW 114 (by decide), hW 115 (by decide), w1, w3, w5, w6, w7, w8, w9, w10, w11, w12] <;> omega)
                have j33 : (i1 < (W 105 12)) := (by simp only [zz_lt, zz_eq, zl_m2, zl_m3, zl_0, zl_1, zl_2, w2s, w4s, hW 105 (by decide), hW 108 (by decide), hW 109 (by decide), hW 110 (by decide), hW 111 (by decide), hW 112 (by decide), hW 113 (by decide), hW 114 (by decide), hW 115 (by decide), w1, w3, w5, w6, w7, w8, w9, w10, w11, w12] <;> omega)
                have j34 : ¬ (i2 < (0 : Int32)) := (by simp only [zz_lt, zz_eq, zl_m2, zl_m3, zl_0, zl_1, zl_2, w2s, w4s, hW 105 (by decide), hW 108 (by decide), hW 109 (by decide), hW 110 (by decide), hW 111 (by decide), hW 112 (by decide), hW 113 (by decide), hW 114 (by decide), hW 115 (by decide), w1, w3, w5, w6, w7, w8, w9, w10, w11, w12] <;> omega)
                have j35 : ¬ ((2 : Int32) < i2) := (by simp only [zz_lt, zz_eq, zl_m2, zl_m3, zl_0, zl_1, zl_2, w2s, w4s, hW 105 (by decide), hW 108 (by decide), hW 109 (by decide), hW 110 (by decide), hW 111 (by decide), hW 112 (by decide), hW 113 (by decide), hW 114 (by decide), hW 115 (by decide), w1, w3, w5, w6, w7, w8, w9, w10, w11, w12] <;> omega)
                have j36 : ¬ (i2 = 0) := (by simp only [zz_lt, zz_eq, zl_m2, zl_m3, zl_0, zl_1, zl_2, w2s, w4s, hW 105 (by decide), hW 108 (by decide), hW 109 (by decide), hW 110 (by decide), hW 111 (by decide), hW 112 (by decide), hW 113 (by decide), hW 114 (by decide), hW 115 (by decide), w1, w3, w5, w6, w7, w8, w9, w10, w11, w12] <;> omega)
                have j37 : (i2 = (1 : Int32)) := (by simp only [zz_lt, zz_eq, zl_m2, zl_m3, zl_0, zl_1, zl_2, w2s, w4s, hW 105 (by decide), hW 108 (by decide), hW 109 (by decide), hW 110 (by decide), hW 111 (by decide), hW 112 (by decide), hW 113 (by decide), hW 114 (by decide), hW 115 (by decide), w1, w3, w5, w6, w7, w8, w9, w10, w11, w12] <;> omega)
                have j38 : ((W 114 ((i1).toNatClampNeg)) = (2 : Int32)) := (by simp only [zz_lt, zz_eq, zl_m2, zl_m3, zl_0, zl_1, zl_2, w2s, w4s, hW 105 (by decide), hW 108 (by decide), hW 109 (by decide), hW 110 (by decide), hW 111 (by decide), hW 112 (by decide), hW 113 (by decide), hW 114 (by decide), hW 115 (by decide), w1, w3, w5, w6, w7, w8, w9, w10, w11, w12] <;> omega)
                have j39 : ¬ (i2 = (2 : Int32)) := (by simp only [zz_lt, zz_eq, zl_m2, zl_m3, zl_0, zl_1, zl_2, w2s, w4s, hW 105 (by decide), hW 108 (by decide), hW 109 (by decide), hW 110 (by decide), hW 111 (by decide), hW 112 (by decide), hW 113 (by decide), hW 114 (by decide), hW 115 (by decide), w1, w3, w5, w6, w7, w8, w9, w10, w11, w12] <;> omega)
                have em : va_208 i1 i2 W = (1 : Int32) := by simp only [va_208, if_neg j32, if_pos j33, if_neg j34, if_neg j35, if_neg j36, if_pos j37, if_pos j38, if_neg j39]
                have eo : vn_208 i1 i2 W = (aa_up W 114 ((i1).toNatClampNeg) (0 : Int32)) := by simp only [vn_208, if_neg j32, if_pos j33, if_neg j34, if_neg j35, if_neg j36, if_pos j37, if_pos j38, if_neg j39]
                rw [em, eo]
                refine hQ _ _ ?_
                try simp only [hW 105 (by decide), hW 108 (by decide), hW 109 (by decide), hW 110 (by decide), hW 111 (by decide), hW 112 (by decide), hW 113 (by decide), hW 114 (by decide), hW 115 (by decide), w1, w3, w5, w6, w7, w8, w9, w10, w11, w12]
                rw [hWe]
                refine ⟨hn, nv_rc (V := V) (fun c _ _ => by rw [aa_up_c (by omega), aa_up_c (by omega)]) rfl hr, ?_, ha, hp, ho, hb, nv_kc (V := V) (fun c _ _ => by rw [aa_up_c (by omega), aa_up_c (by omega)]) rfl rfl rfl hk, nv_sc (V := V) (fun c _ _ => by rw [aa_up_c (by omega), aa_up_c (by omega)]) rfl rfl rfl rfl rfl hs, hf, nv_tx (V := V) (fun c _ _ => by rw [aa_up_c (by omega), aa_up_c (by omega)]) rfl rfl rfl rfl rfl rfl rfl rfl rfl ht⟩
                first | exact ⟨⟨w1, w2, w3, w4⟩, ⟨w5, w6, w7, w8, w9, w10, (show upd (V 114) i1.toNatClampNeg 0 = upd (V 36) i1.toNatClampNeg 0 from upd_eq w11), w12⟩, s1, s2, s3, s4, s5, s6, (show ∀ i, zb (upd (V 36) i1.toNatClampNeg 0 i) 2 from zb_upd s7 (zb_n (n := 0) (by decide) (by decide))), s8⟩ | exact ⟨⟨w1, w2, w3, w4⟩, ⟨w5, w6, w7, w8, w9, w10, (show upd (V 114) i1.toNatClampNeg 2 = upd (V 36) i1.toNatClampNeg 2 from upd_eq w11), w12⟩, s1, s2, s3, s4, s5, s6, (show ∀ i, zb (upd (V 36) i1.toNatClampNeg 2 i) 2 from zb_upd s7 (zb_n (n := 2) (by decide) (by decide))), s8⟩
              · have g31k := g31
                simp only [zz_lt, zz_eq, zl_m2, zl_m3, zl_0, zl_1, zl_2, w2s, w4s] at g31k
                have ev : va_145 i1 i2 V = (-3 : Int32) := by simp only [va_145, va_121, vn_121, zl_ne, if_true, if_false, if_neg g1, if_neg g3, if_neg g6, if_neg g10, if_neg g15, if_pos g30, if_neg g31]
                have en : vn_145 i1 i2 V = V := by simp only [vn_145, va_121, vn_121, zl_ne, if_true, if_false, if_neg g1, if_neg g3, if_neg g6, if_neg g10, if_neg g15, if_pos g30, if_neg g31]
                rw [ev, en]
                refine sp_208 (fun q1 q2 q3 q4 q5 => by
                  simp only [zz_lt, zz_eq, zl_m2, zl_m3, zl_0, zl_1, zl_2, w2s, w4s, w1, w3, w5, w6, w7, w8, w9, w10, w11, w12] at q1 q2 q3 q4 q5
                  try simp only [w1, w3, w5, w6, w7, w8, w9, w10, w11, w12]
                  refine vp_of_r ?_ ?_ <;> omega) (fun q1 q2 q3 q4 q5 q6 => by
                  simp only [zz_lt, zz_eq, zl_m2, zl_m3, zl_0, zl_1, zl_2, w2s, w4s, w1, w3, w5, w6, w7, w8, w9, w10, w11, w12] at q1 q2 q3 q4 q5 q6
                  try simp only [w1, w3, w5, w6, w7, w8, w9, w10, w11, w12]
                  refine vp_of_r ?_ ?_ <;> omega) (fun q1 q2 q3 q4 q5 q6 => by
                  simp only [zz_lt, zz_eq, zl_m2, zl_m3, zl_0, zl_1, zl_2, w2s, w4s, w1, w3, w5, w6, w7, w8, w9, w10, w11, w12] at q1 q2 q3 q4 q5 q6
                  try simp only [w1, w3, w5, w6, w7, w8, w9, w10, w11, w12]
                  refine vp_of_r ?_ ?_ <;> omega) ?_
                dsimp only [aa_rI, aa_rL]
                have j40 : ¬ (i1 < 0) := (by simp only [zz_lt, zz_eq, zl_m2, zl_m3, zl_0, zl_1, zl_2, w2s, w4s, w1, w3, w5, w6, w7, w8, w9, w10, w11, w12] <;> omega)
                have j41 : (i1 < (V 105 12)) := (by simp only [zz_lt, zz_eq, zl_m2, zl_m3, zl_0, zl_1, zl_2, w2s, w4s, w1, w3, w5, w6, w7, w8, w9, w10, w11, w12] <;> omega)
                have j42 : ¬ (i2 < (0 : Int32)) := (by simp only [zz_lt, zz_eq, zl_m2, zl_m3, zl_0, zl_1, zl_2, w2s, w4s, w1, w3, w5, w6, w7, w8, w9, w10, w11, w12] <;> omega)
                have j43 : ¬ ((2 : Int32) < i2) := (by simp only [zz_lt, zz_eq, zl_m2, zl_m3, zl_0, zl_1, zl_2, w2s, w4s, w1, w3, w5, w6, w7, w8, w9, w10, w11, w12] <;> omega)
                have j44 : ¬ (i2 = 0) := (by simp only [zz_lt, zz_eq, zl_m2, zl_m3, zl_0, zl_1, zl_2, w2s, w4s, w1, w3, w5, w6, w7, w8, w9, w10, w11, w12] <;> omega)
                have j45 : (i2 = (1 : Int32)) := (by simp only [zz_lt, zz_eq, zl_m2, zl_m3, zl_0, zl_1, zl_2, w2s, w4s, w1, w3, w5, w6, w7, w8, w9, w10, w11, w12] <;> omega)
                have j46 : ¬ ((V 114 ((i1).toNatClampNeg)) = (2 : Int32)) := (by simp only [zz_lt, zz_eq, zl_m2, zl_m3, zl_0, zl_1, zl_2, w2s, w4s, w1, w3, w5, w6, w7, w8, w9, w10, w11, w12] <;> omega)
                have em : va_208 i1 i2 V = (-3 : Int32) := by simp only [va_208, if_neg j40, if_pos j41, if_neg j42, if_neg j43, if_neg j44, if_pos j45, if_neg j46]
                have eo : vn_208 i1 i2 V = V := by simp only [vn_208, if_neg j40, if_pos j41, if_neg j42, if_neg j43, if_neg j44, if_pos j45, if_neg j46]
                rw [em, eo]
                refine hQ _ _ ?_
                exact hI
            · have g30k := g30
              simp only [zz_lt, zz_eq, zl_m2, zl_m3, zl_0, zl_1, zl_2, w2s, w4s] at g30k
              by_cases g47 : (V 36 ((i1).toNatClampNeg)) = (0 : Int32)
              · have g47k := g47
                simp only [zz_lt, zz_eq, zl_m2, zl_m3, zl_0, zl_1, zl_2, w2s, w4s] at g47k
                have ev : va_145 i1 i2 V = (1 : Int32) := by simp only [va_145, va_121, vn_121, zl_ne, if_true, if_false, if_neg g1, if_neg g3, if_neg g6, if_neg g10, if_neg g15, if_neg g30, if_pos g47]
                have en : vn_145 i1 i2 V = (aa_up V 36 ((i1).toNatClampNeg) (2 : Int32)) := by simp only [vn_145, va_121, vn_121, zl_ne, if_true, if_false, if_neg g1, if_neg g3, if_neg g6, if_neg g10, if_neg g15, if_neg g30, if_pos g47]
                rw [ev, en]
                obtain ⟨W, hWe⟩ : ∃ W, W = (aa_up V 36 ((i1).toNatClampNeg) (2 : Int32)) := ⟨_, rfl⟩
                have hW : ∀ c, 104 < c → W c = V c := fun c hc => by rw [hWe, aa_up_c (by omega)]
                rw [← hWe]
                refine sp_208 (fun q1 q2 q3 q4 q5 => by
                  simp only [zz_lt, zz_eq, zl_m2, zl_m3, zl_0, zl_1, zl_2, w2s, w4s, hW 105 (by decide), hW 108 (by decide), hW 109 (by decide), hW 110 (by decide), hW 111 (by decide), hW 112 (by decide), hW 113 (by decide), hW 114 (by decide), hW 115 (by decide), w1, w3, w5, w6, w7, w8, w9, w10, w11, w12] at q1 q2 q3 q4 q5
                  try simp only [w1, w3, w5, w6, w7, w8, w9, w10, w11, w12, hW 105 (by decide), hW 108 (by decide), hW 109 (by decide), hW 110 (by decide), hW 111 (by decide), hW 112 (by decide), hW 113 (by decide), hW 114 (by decide), hW 115 (by decide)]
                  refine vp_of_r ?_ ?_ <;> omega) (fun q1 q2 q3 q4 q5 q6 => by
                  simp only [zz_lt, zz_eq, zl_m2, zl_m3, zl_0, zl_1, zl_2, w2s, w4s, hW 105 (by decide), hW 108 (by decide), hW 109 (by decide), hW 110 (by decide), hW 111 (by decide), hW 112 (by decide), hW 113 (by decide), hW 114 (by decide), hW 115 (by decide), w1, w3, w5, w6, w7, w8, w9, w10, w11, w12] at q1 q2 q3 q4 q5 q6
                  try simp only [w1, w3, w5, w6, w7, w8, w9, w10, w11, w12, hW 105 (by decide), hW 108 (by decide), hW 109 (by decide), hW 110 (by decide), hW 111 (by decide), hW 112 (by decide), hW 113 (by decide), hW 114 (by decide), hW 115 (by decide)]
                  refine vp_of_r ?_ ?_ <;> omega) (fun q1 q2 q3 q4 q5 q6 => by
                  simp only [zz_lt, zz_eq, zl_m2, zl_m3, zl_0, zl_1, zl_2, w2s, w4s, hW 105 (by decide), hW 108 (by decide), hW 109 (by decide), hW 110 (by decide), hW 111 (by decide), hW 112 (by decide), hW 113 (by decide), hW 114 (by decide), hW 115 (by decide), w1, w3, w5, w6, w7, w8, w9, w10, w11, w12] at q1 q2 q3 q4 q5 q6
                  try simp only [w1, w3, w5, w6, w7, w8, w9, w10, w11, w12, hW 105 (by decide), hW 108 (by decide), hW 109 (by decide), hW 110 (by decide), hW 111 (by decide), hW 112 (by decide), hW 113 (by decide), hW 114 (by decide), hW 115 (by decide)]
                  refine vp_of_r ?_ ?_ <;> omega) ?_
                dsimp only [aa_rI, aa_rL]
                have j48 : ¬ (i1 < 0) := (by simp only [zz_lt, zz_eq, zl_m2, zl_m3, zl_0, zl_1, zl_2, w2s, w4s, hW 105 (by decide), hW 108 (by decide), hW 109 (by decide), hW 110 (by decide), hW 111 (by decide), hW 112 (by decide), hW 113 (by decide), hW 114 (by decide), hW 115 (by decide), w1, w3, w5, w6, w7, w8, w9, w10, w11, w12] <;> omega)
                have j49 : (i1 < (W 105 12)) := (by simp only [zz_lt, zz_eq, zl_m2, zl_m3, zl_0, zl_1, zl_2, w2s, w4s, hW 105 (by decide), hW 108 (by decide), hW 109 (by decide), hW 110 (by decide), hW 111 (by decide), hW 112 (by decide), hW 113 (by decide), hW 114 (by decide), hW 115 (by decide), w1, w3, w5, w6, w7, w8, w9, w10, w11, w12] <;> omega)
                have j50 : ¬ (i2 < (0 : Int32)) := (by simp only [zz_lt, zz_eq, zl_m2, zl_m3, zl_0, zl_1, zl_2, w2s, w4s, hW 105 (by decide), hW 108 (by decide), hW 109 (by decide), hW 110 (by decide), hW 111 (by decide), hW 112 (by decide), hW 113 (by decide), hW 114 (by decide), hW 115 (by decide), w1, w3, w5, w6, w7, w8, w9, w10, w11, w12] <;> omega)
                have j51 : ¬ ((2 : Int32) < i2) := (by simp only [zz_lt, zz_eq, zl_m2, zl_m3, zl_0, zl_1, zl_2, w2s, w4s, hW 105 (by decide), hW 108 (by decide), hW 109 (by decide), hW 110 (by decide), hW 111 (by decide), hW 112 (by decide), hW 113 (by decide), hW 114 (by decide), hW 115 (by decide), w1, w3, w5, w6, w7, w8, w9, w10, w11, w12] <;> omega)
                have j52 : ¬ (i2 = 0) := (by simp only [zz_lt, zz_eq, zl_m2, zl_m3, zl_0, zl_1, zl_2, w2s, w4s, hW 105 (by decide), hW 108 (by decide), hW 109 (by decide), hW 110 (by decide), hW 111 (by decide), hW 112 (by decide), hW 113 (by decide), hW 114 (by decide), hW 115 (by decide), w1, w3, w5, w6, w7, w8, w9, w10, w11, w12] <;> omega)
                have j53 : ¬ (i2 = (1 : Int32)) := (by simp only [zz_lt, zz_eq, zl_m2, zl_m3, zl_0, zl_1, zl_2, w2s, w4s, hW 105 (by decide), hW 108 (by decide), hW 109 (by decide), hW 110 (by decide), hW 111 (by decide), hW 112 (by decide), hW 113 (by decide), hW 114 (by decide), hW 115 (by decide), w1, w3, w5, w6, w7, w8, w9, w10, w11, w12] <;> omega)
                have j54 : ((W 114 ((i1).toNatClampNeg)) = (0 : Int32)) := (by simp only [zz_lt, zz_eq, zl_m2, zl_m3, zl_0, zl_1, zl_2, w2s, w4s, hW 105 (by decide), hW 108 (by decide), hW 109 (by decide), hW 110 (by decide), hW 111 (by decide), hW 112 (by decide), hW 113 (by decide), hW 114 (by decide), hW 115 (by decide), w1, w3, w5, w6, w7, w8, w9, w10, w11, w12] <;> omega)
                have j55 : (i2 = (2 : Int32)) := (by simp only [zz_lt, zz_eq, zl_m2, zl_m3, zl_0, zl_1, zl_2, w2s, w4s, hW 105 (by decide), hW 108 (by decide), hW 109 (by decide), hW 110 (by decide), hW 111 (by decide), hW 112 (by decide), hW 113 (by decide), hW 114 (by decide), hW 115 (by decide), w1, w3, w5, w6, w7, w8, w9, w10, w11, w12] <;> omega)
                have em : va_208 i1 i2 W = (1 : Int32) := by simp only [va_208, if_neg j48, if_pos j49, if_neg j50, if_neg j51, if_neg j52, if_neg j53, if_pos j54, if_pos j55]
                have eo : vn_208 i1 i2 W = (aa_up W 114 ((i1).toNatClampNeg) (2 : Int32)) := by simp only [vn_208, if_neg j48, if_pos j49, if_neg j50, if_neg j51, if_neg j52, if_neg j53, if_pos j54, if_pos j55]
                rw [em, eo]
                refine hQ _ _ ?_
                try simp only [hW 105 (by decide), hW 108 (by decide), hW 109 (by decide), hW 110 (by decide), hW 111 (by decide), hW 112 (by decide), hW 113 (by decide), hW 114 (by decide), hW 115 (by decide), w1, w3, w5, w6, w7, w8, w9, w10, w11, w12]
                rw [hWe]
                refine ⟨hn, nv_rc (V := V) (fun c _ _ => by rw [aa_up_c (by omega), aa_up_c (by omega)]) rfl hr, ?_, ha, hp, ho, hb, nv_kc (V := V) (fun c _ _ => by rw [aa_up_c (by omega), aa_up_c (by omega)]) rfl rfl rfl hk, nv_sc (V := V) (fun c _ _ => by rw [aa_up_c (by omega), aa_up_c (by omega)]) rfl rfl rfl rfl rfl hs, hf, nv_tx (V := V) (fun c _ _ => by rw [aa_up_c (by omega), aa_up_c (by omega)]) rfl rfl rfl rfl rfl rfl rfl rfl rfl ht⟩
                first | exact ⟨⟨w1, w2, w3, w4⟩, ⟨w5, w6, w7, w8, w9, w10, (show upd (V 114) i1.toNatClampNeg 0 = upd (V 36) i1.toNatClampNeg 0 from upd_eq w11), w12⟩, s1, s2, s3, s4, s5, s6, (show ∀ i, zb (upd (V 36) i1.toNatClampNeg 0 i) 2 from zb_upd s7 (zb_n (n := 0) (by decide) (by decide))), s8⟩ | exact ⟨⟨w1, w2, w3, w4⟩, ⟨w5, w6, w7, w8, w9, w10, (show upd (V 114) i1.toNatClampNeg 2 = upd (V 36) i1.toNatClampNeg 2 from upd_eq w11), w12⟩, s1, s2, s3, s4, s5, s6, (show ∀ i, zb (upd (V 36) i1.toNatClampNeg 2 i) 2 from zb_upd s7 (zb_n (n := 2) (by decide) (by decide))), s8⟩
              · have g47k := g47
                simp only [zz_lt, zz_eq, zl_m2, zl_m3, zl_0, zl_1, zl_2, w2s, w4s] at g47k
                have ev : va_145 i1 i2 V = (-3 : Int32) := by simp only [va_145, va_121, vn_121, zl_ne, if_true, if_false, if_neg g1, if_neg g3, if_neg g6, if_neg g10, if_neg g15, if_neg g30, if_neg g47]
                have en : vn_145 i1 i2 V = V := by simp only [vn_145, va_121, vn_121, zl_ne, if_true, if_false, if_neg g1, if_neg g3, if_neg g6, if_neg g10, if_neg g15, if_neg g30, if_neg g47]
                rw [ev, en]
                refine sp_208 (fun q1 q2 q3 q4 q5 => by
                  simp only [zz_lt, zz_eq, zl_m2, zl_m3, zl_0, zl_1, zl_2, w2s, w4s, w1, w3, w5, w6, w7, w8, w9, w10, w11, w12] at q1 q2 q3 q4 q5
                  try simp only [w1, w3, w5, w6, w7, w8, w9, w10, w11, w12]
                  refine vp_of_r ?_ ?_ <;> omega) (fun q1 q2 q3 q4 q5 q6 => by
                  simp only [zz_lt, zz_eq, zl_m2, zl_m3, zl_0, zl_1, zl_2, w2s, w4s, w1, w3, w5, w6, w7, w8, w9, w10, w11, w12] at q1 q2 q3 q4 q5 q6
                  try simp only [w1, w3, w5, w6, w7, w8, w9, w10, w11, w12]
                  refine vp_of_r ?_ ?_ <;> omega) (fun q1 q2 q3 q4 q5 q6 => by
                  simp only [zz_lt, zz_eq, zl_m2, zl_m3, zl_0, zl_1, zl_2, w2s, w4s, w1, w3, w5, w6, w7, w8, w9, w10, w11, w12] at q1 q2 q3 q4 q5 q6
                  try simp only [w1, w3, w5, w6, w7, w8, w9, w10, w11, w12]
                  refine vp_of_r ?_ ?_ <;> omega) ?_
                dsimp only [aa_rI, aa_rL]
                have j56 : ¬ (i1 < 0) := (by simp only [zz_lt, zz_eq, zl_m2, zl_m3, zl_0, zl_1, zl_2, w2s, w4s, w1, w3, w5, w6, w7, w8, w9, w10, w11, w12] <;> omega)
                have j57 : (i1 < (V 105 12)) := (by simp only [zz_lt, zz_eq, zl_m2, zl_m3, zl_0, zl_1, zl_2, w2s, w4s, w1, w3, w5, w6, w7, w8, w9, w10, w11, w12] <;> omega)
                have j58 : ¬ (i2 < (0 : Int32)) := (by simp only [zz_lt, zz_eq, zl_m2, zl_m3, zl_0, zl_1, zl_2, w2s, w4s, w1, w3, w5, w6, w7, w8, w9, w10, w11, w12] <;> omega)
                have j59 : ¬ ((2 : Int32) < i2) := (by simp only [zz_lt, zz_eq, zl_m2, zl_m3, zl_0, zl_1, zl_2, w2s, w4s, w1, w3, w5, w6, w7, w8, w9, w10, w11, w12] <;> omega)
                have j60 : ¬ (i2 = 0) := (by simp only [zz_lt, zz_eq, zl_m2, zl_m3, zl_0, zl_1, zl_2, w2s, w4s, w1, w3, w5, w6, w7, w8, w9, w10, w11, w12] <;> omega)
                have j61 : ¬ (i2 = (1 : Int32)) := (by simp only [zz_lt, zz_eq, zl_m2, zl_m3, zl_0, zl_1, zl_2, w2s, w4s, w1, w3, w5, w6, w7, w8, w9, w10, w11, w12] <;> omega)
                have j62 : ¬ ((V 114 ((i1).toNatClampNeg)) = (0 : Int32)) := (by simp only [zz_lt, zz_eq, zl_m2, zl_m3, zl_0, zl_1, zl_2, w2s, w4s, w1, w3, w5, w6, w7, w8, w9, w10, w11, w12] <;> omega)
                have em : va_208 i1 i2 V = (-3 : Int32) := by simp only [va_208, if_neg j56, if_pos j57, if_neg j58, if_neg j59, if_neg j60, if_neg j61, if_neg j62]
                have eo : vn_208 i1 i2 V = V := by simp only [vn_208, if_neg j56, if_pos j57, if_neg j58, if_neg j59, if_neg j60, if_neg j61, if_neg j62]
                rw [em, eo]
                refine hQ _ _ ?_
                exact hI

set_option maxRecDepth 20000 in
/-- F_against -/
theorem cs_172 {G : ab_G} {L : Nat} {xs : Nat → Int32} {l : Launch} {d : Nat} {i1 : Int32} {i2 : Int32} {V : aa_V} {Q : Int32 → Int32 → aa_V → Prop} (hI : nv V) (hQ : ∀ x W, nv W → Q x x W) :
    ab_E G (ac_ST L xs) l (d + 3) ac_SK 172 [.ref 0, .int i1, .int i2] V (aa_rI fun x V1 => ab_E G (ac_ST L xs) l (d + 2) ac_SK 267 [.ref 105, .int i1, .int i2] V1 (aa_rI fun y W => Q x y W)) := by
  have hI' := hI
  obtain ⟨hn, hr, hw, ha, hp, ho, hb, hk, hs, hf, ht⟩ := hI'
  have hb' := hb
  obtain ⟨⟨b1, b2⟩, ⟨b3, b4, b5⟩, b6, b7⟩ := hb'
  have b2r := zb_r b2 (by decide)
  have b2s := zb_sub1 b2 (by decide)
  refine sp_172 (fun q1 q2 q3 q4 q5 => by
    simp only [zz_lt, zz_eq, zl_m2, zl_0, zl_1, b2s] at q1 q2 q3 q4 q5
    refine vp_of_r ?_ ?_ <;> omega) (fun q1 q2 q3 q4 q5 q6 => by
    simp only [zz_lt, zz_eq, zl_m2, zl_0, zl_1, b2s] at q1 q2 q3 q4 q5 q6
    refine vp_of_r ?_ ?_ <;> omega) (fun q1 q2 q3 q4 q5 q6 => by
    simp only [zz_lt, zz_eq, zl_m2, zl_0, zl_1, b2s] at q1 q2 q3 q4 q5 q6
    refine vp_of_r ?_ ?_ <;> omega) ?_
  dsimp only [aa_rI, aa_rL]
  by_cases g1 : i1 < (0 : Int32)
  · have g1k := g1
    simp only [zz_lt, zz_eq, zl_m2, zl_0, zl_1, b2s] at g1k
    have ev : va_172 i1 i2 V = (-2 : Int32) := by simp only [va_172, if_pos g1]
    have en : vn_172 i1 i2 V = V := by simp only [vn_172, if_pos g1]
    rw [ev, en]
    refine sp_267 (fun q1 q2 q3 q4 q5 => by
      simp only [zz_lt, zz_eq, zl_m2, zl_0, zl_1, b2s, b1, b3, b4, b5] at q1 q2 q3 q4 q5
      try simp only [b1, b3, b4, b5]
      refine vp_of_r ?_ ?_ <;> omega) (fun q1 q2 q3 q4 q5 q6 => by
      simp only [zz_lt, zz_eq, zl_m2, zl_0, zl_1, b2s, b1, b3, b4, b5] at q1 q2 q3 q4 q5 q6
      try simp only [b1, b3, b4, b5]
      refine vp_of_r ?_ ?_ <;> omega) (fun q1 q2 q3 q4 q5 q6 => by
      simp only [zz_lt, zz_eq, zl_m2, zl_0, zl_1, b2s, b1, b3, b4, b5] at q1 q2 q3 q4 q5 q6
      try simp only [b1, b3, b4, b5]
      refine vp_of_r ?_ ?_ <;> omega) ?_
    dsimp only [aa_rI, aa_rL]
    have j2 : (i1 < (0 : Int32)) := (by simp only [zz_lt, zz_eq, zl_m2, zl_0, zl_1, b2s, b1, b3, b4, b5] <;> omega)
    have em : va_267 i1 i2 V = (-2 : Int32) := by simp only [va_267, if_pos j2]
    have eo : vn_267 i1 i2 V = V := by simp only [vn_267, if_pos j2]
    rw [em, eo]
    refine hQ _ _ ?_
    exact hI
  · have g1k := g1
    simp only [zz_lt, zz_eq, zl_m2, zl_0, zl_1, b2s] at g1k
    by_cases g3 : ((V 60 0) - (1 : Int32)) < i1
    · have g3k := g3
      simp only [zz_lt, zz_eq, zl_m2, zl_0, zl_1, b2s] at g3k
      have ev : va_172 i1 i2 V = (-2 : Int32) := by simp only [va_172, if_neg g1, if_pos g3]
      have en : vn_172 i1 i2 V = V := by simp only [vn_172, if_neg g1, if_pos g3]
      rw [ev, en]
      refine sp_267 (fun q1 q2 q3 q4 q5 => by
        simp only [zz_lt, zz_eq, zl_m2, zl_0, zl_1, b2s, b1, b3, b4, b5] at q1 q2 q3 q4 q5
        try simp only [b1, b3, b4, b5]
        refine vp_of_r ?_ ?_ <;> omega) (fun q1 q2 q3 q4 q5 q6 => by
        simp only [zz_lt, zz_eq, zl_m2, zl_0, zl_1, b2s, b1, b3, b4, b5] at q1 q2 q3 q4 q5 q6
        try simp only [b1, b3, b4, b5]
        refine vp_of_r ?_ ?_ <;> omega) (fun q1 q2 q3 q4 q5 q6 => by
        simp only [zz_lt, zz_eq, zl_m2, zl_0, zl_1, b2s, b1, b3, b4, b5] at q1 q2 q3 q4 q5 q6
        try simp only [b1, b3, b4, b5]
        refine vp_of_r ?_ ?_ <;> omega) ?_
      dsimp only [aa_rI, aa_rL]
      have j4 : ¬ (i1 < (0 : Int32)) := (by simp only [zz_lt, zz_eq, zl_m2, zl_0, zl_1, b2s, b1, b3, b4, b5] <;> omega)
      have j5 : (((V 105 58) - (1 : Int32)) < i1) := (by simp only [zz_lt, zz_eq, zl_m2, zl_0, zl_1, b2s, b1, b3, b4, b5] <;> omega)
      have em : va_267 i1 i2 V = (-2 : Int32) := by simp only [va_267, if_neg j4, if_pos j5]
      have eo : vn_267 i1 i2 V = V := by simp only [vn_267, if_neg j4, if_pos j5]
      rw [em, eo]
      refine hQ _ _ ?_
      exact hI
    · have g3k := g3
      simp only [zz_lt, zz_eq, zl_m2, zl_0, zl_1, b2s] at g3k
      by_cases g6 : i2 < (0 : Int32)
      · have g6k := g6
        simp only [zz_lt, zz_eq, zl_m2, zl_0, zl_1, b2s] at g6k
        have ev : va_172 i1 i2 V = (-2 : Int32) := by simp only [va_172, if_neg g1, if_neg g3, if_pos g6]
        have en : vn_172 i1 i2 V = V := by simp only [vn_172, if_neg g1, if_neg g3, if_pos g6]
        rw [ev, en]
        refine sp_267 (fun q1 q2 q3 q4 q5 => by
          simp only [zz_lt, zz_eq, zl_m2, zl_0, zl_1, b2s, b1, b3, b4, b5] at q1 q2 q3 q4 q5
          try simp only [b1, b3, b4, b5]
          refine vp_of_r ?_ ?_ <;> omega) (fun q1 q2 q3 q4 q5 q6 => by
          simp only [zz_lt, zz_eq, zl_m2, zl_0, zl_1, b2s, b1, b3, b4, b5] at q1 q2 q3 q4 q5 q6
          try simp only [b1, b3, b4, b5]
          refine vp_of_r ?_ ?_ <;> omega) (fun q1 q2 q3 q4 q5 q6 => by
          simp only [zz_lt, zz_eq, zl_m2, zl_0, zl_1, b2s, b1, b3, b4, b5] at q1 q2 q3 q4 q5 q6
          try simp only [b1, b3, b4, b5]
          refine vp_of_r ?_ ?_ <;> omega) ?_
        dsimp only [aa_rI, aa_rL]
        have j7 : ¬ (i1 < (0 : Int32)) := (by simp only [zz_lt, zz_eq, zl_m2, zl_0, zl_1, b2s, b1, b3, b4, b5] <;> omega)
        have j8 : ¬ (((V 105 58) - (1 : Int32)) < i1) := (by simp only [zz_lt, zz_eq, zl_m2, zl_0, zl_1, b2s, b1, b3, b4, b5] <;> omega)
        have j9 : (i2 < (0 : Int32)) := (by simp only [zz_lt, zz_eq, zl_m2, zl_0, zl_1, b2s, b1, b3, b4, b5] <;> omega)
        have em : va_267 i1 i2 V = (-2 : Int32) := by simp only [va_267, if_neg j7, if_neg j8, if_pos j9]
        have eo : vn_267 i1 i2 V = V := by simp only [vn_267, if_neg j7, if_neg j8, if_pos j9]
        rw [em, eo]
        refine hQ _ _ ?_
        exact hI
      · have g6k := g6
        simp only [zz_lt, zz_eq, zl_m2, zl_0, zl_1, b2s] at g6k
        by_cases g10 : ((V 60 0) - (1 : Int32)) < i2
        · have g10k := g10
          simp only [zz_lt, zz_eq, zl_m2, zl_0, zl_1, b2s] at g10k
          have ev : va_172 i1 i2 V = (-2 : Int32) := by simp only [va_172, if_neg g1, if_neg g3, if_neg g6, if_pos g10]
          have en : vn_172 i1 i2 V = V := by simp only [vn_172, if_neg g1, if_neg g3, if_neg g6, if_pos g10]
          rw [ev, en]
          refine sp_267 (fun q1 q2 q3 q4 q5 => by
            simp only [zz_lt, zz_eq, zl_m2, zl_0, zl_1, b2s, b1, b3, b4, b5] at q1 q2 q3 q4 q5
            try simp only [b1, b3, b4, b5]
            refine vp_of_r ?_ ?_ <;> omega) (fun q1 q2 q3 q4 q5 q6 => by
            simp only [zz_lt, zz_eq, zl_m2, zl_0, zl_1, b2s, b1, b3, b4, b5] at q1 q2 q3 q4 q5 q6
            try simp only [b1, b3, b4, b5]
            refine vp_of_r ?_ ?_ <;> omega) (fun q1 q2 q3 q4 q5 q6 => by
            simp only [zz_lt, zz_eq, zl_m2, zl_0, zl_1, b2s, b1, b3, b4, b5] at q1 q2 q3 q4 q5 q6
            try simp only [b1, b3, b4, b5]
            refine vp_of_r ?_ ?_ <;> omega) ?_
          dsimp only [aa_rI, aa_rL]
          have j11 : ¬ (i1 < (0 : Int32)) := (by simp only [zz_lt, zz_eq, zl_m2, zl_0, zl_1, b2s, b1, b3, b4, b5] <;> omega)
          have j12 : ¬ (((V 105 58) - (1 : Int32)) < i1) := (by simp only [zz_lt, zz_eq, zl_m2, zl_0, zl_1, b2s, b1, b3, b4, b5] <;> omega)
          have j13 : ¬ (i2 < (0 : Int32)) := (by simp only [zz_lt, zz_eq, zl_m2, zl_0, zl_1, b2s, b1, b3, b4, b5] <;> omega)
          have j14 : (((V 105 58) - (1 : Int32)) < i2) := (by simp only [zz_lt, zz_eq, zl_m2, zl_0, zl_1, b2s, b1, b3, b4, b5] <;> omega)
          have em : va_267 i1 i2 V = (-2 : Int32) := by simp only [va_267, if_neg j11, if_neg j12, if_neg j13, if_pos j14]
          have eo : vn_267 i1 i2 V = V := by simp only [vn_267, if_neg j11, if_neg j12, if_neg j13, if_pos j14]
          rw [em, eo]
          refine hQ _ _ ?_
          exact hI
        · have g10k := g10
          simp only [zz_lt, zz_eq, zl_m2, zl_0, zl_1, b2s] at g10k
          by_cases g15 : i1 = i2
          · have g15k := g15
            simp only [zz_lt, zz_eq, zl_m2, zl_0, zl_1, b2s] at g15k
            have ev : va_172 i1 i2 V = (-2 : Int32) := by simp only [va_172, if_neg g1, if_neg g3, if_neg g6, if_neg g10, if_pos g15]
            have en : vn_172 i1 i2 V = V := by simp only [vn_172, if_neg g1, if_neg g3, if_neg g6, if_neg g10, if_pos g15]
            rw [ev, en]
            refine sp_267 (fun q1 q2 q3 q4 q5 => by
              simp only [zz_lt, zz_eq, zl_m2, zl_0, zl_1, b2s, b1, b3, b4, b5] at q1 q2 q3 q4 q5
              try simp only [b1, b3, b4, b5]
              refine vp_of_r ?_ ?_ <;> omega) (fun q1 q2 q3 q4 q5 q6 => by
              simp only [zz_lt, zz_eq, zl_m2, zl_0, zl_1, b2s, b1, b3, b4, b5] at q1 q2 q3 q4 q5 q6
              try simp only [b1, b3, b4, b5]
              refine vp_of_r ?_ ?_ <;> omega) (fun q1 q2 q3 q4 q5 q6 => by
              simp only [zz_lt, zz_eq, zl_m2, zl_0, zl_1, b2s, b1, b3, b4, b5] at q1 q2 q3 q4 q5 q6
              try simp only [b1, b3, b4, b5]
              refine vp_of_r ?_ ?_ <;> omega) ?_
            dsimp only [aa_rI, aa_rL]
            have j16 : ¬ (i1 < (0 : Int32)) := (by simp only [zz_lt, zz_eq, zl_m2, zl_0, zl_1, b2s, b1, b3, b4, b5] <;> omega)
            have j17 : ¬ (((V 105 58) - (1 : Int32)) < i1) := (by simp only [zz_lt, zz_eq, zl_m2, zl_0, zl_1, b2s, b1, b3, b4, b5] <;> omega)
            have j18 : ¬ (i2 < (0 : Int32)) := (by simp only [zz_lt, zz_eq, zl_m2, zl_0, zl_1, b2s, b1, b3, b4, b5] <;> omega)
            have j19 : ¬ (((V 105 58) - (1 : Int32)) < i2) := (by simp only [zz_lt, zz_eq, zl_m2, zl_0, zl_1, b2s, b1, b3, b4, b5] <;> omega)
            have j20 : (i1 = i2) := (by simp only [zz_lt, zz_eq, zl_m2, zl_0, zl_1, b2s, b1, b3, b4, b5] <;> omega)
            have em : va_267 i1 i2 V = (-2 : Int32) := by simp only [va_267, if_neg j16, if_neg j17, if_neg j18, if_neg j19, if_pos j20]
            have eo : vn_267 i1 i2 V = V := by simp only [vn_267, if_neg j16, if_neg j17, if_neg j18, if_neg j19, if_pos j20]
            rw [em, eo]
            refine hQ _ _ ?_
            exact hI
          · have g15k := g15
            simp only [zz_lt, zz_eq, zl_m2, zl_0, zl_1, b2s] at g15k
            by_cases g21 : (((V 63 ((i1).toNatClampNeg)) >>> (i2 &&& 31)) &&& (1 : Int32)) = 0
            · have g21k := g21
              simp only [zz_lt, zz_eq, zl_m2, zl_0, zl_1, b2s] at g21k
              have ev : va_172 i1 i2 V = (1 : Int32) := by simp only [va_172, if_neg g1, if_neg g3, if_neg g6, if_neg g10, if_neg g15, if_pos g21]
              have en : vn_172 i1 i2 V = (aa_up (aa_up V 63 ((i1).toNatClampNeg) ((V 63 ((i1).toNatClampNeg)) ||| ((1 : Int32) <<< (i2 &&& 31)))) 63 ((i2).toNatClampNeg) (((aa_up V 63 ((i1).toNatClampNeg) ((V 63 ((i1).toNatClampNeg)) ||| ((1 : Int32) <<< (i2 &&& 31)))) 63 ((i2).toNatClampNeg)) ||| ((1 : Int32) <<< (i1 &&& 31)))) := by simp only [vn_172, if_neg g1, if_neg g3, if_neg g6, if_neg g10, if_neg g15, if_pos g21]
              rw [ev, en]
              obtain ⟨W, hWe⟩ : ∃ W, W = (aa_up (aa_up V 63 ((i1).toNatClampNeg) ((V 63 ((i1).toNatClampNeg)) ||| ((1 : Int32) <<< (i2 &&& 31)))) 63 ((i2).toNatClampNeg) (((aa_up V 63 ((i1).toNatClampNeg) ((V 63 ((i1).toNatClampNeg)) ||| ((1 : Int32) <<< (i2 &&& 31)))) 63 ((i2).toNatClampNeg)) ||| ((1 : Int32) <<< (i1 &&& 31)))) := ⟨_, rfl⟩
              have hW : ∀ c, 104 < c → W c = V c := fun c hc => by rw [hWe, aa_up_c (by omega), aa_up_c (by omega)]
              rw [← hWe]
              refine sp_267 (fun q1 q2 q3 q4 q5 => by
                simp only [zz_lt, zz_eq, zl_m2, zl_0, zl_1, b2s, hW 105 (by decide), hW 143 (by decide), hW 144 (by decide), hW 145 (by decide), b1, b3, b4, b5] at q1 q2 q3 q4 q5
                try simp only [b1, b3, b4, b5, hW 105 (by decide), hW 143 (by decide), hW 144 (by decide), hW 145 (by decide)]
                refine vp_of_r ?_ ?_ <;> omega) (fun q1 q2 q3 q4 q5 q6 => by
                simp only [zz_lt, zz_eq, zl_m2, zl_0, zl_1, b2s, hW 105 (by decide), hW 143 (by decide), hW 144 (by decide), hW 145 (by decide), b1, b3, b4, b5] at q1 q2 q3 q4 q5 q6
                try simp only [b1, b3, b4, b5, hW 105 (by decide), hW 143 (by decide), hW 144 (by decide), hW 145 (by decide)]
                refine vp_of_r ?_ ?_ <;> omega) (fun q1 q2 q3 q4 q5 q6 => by
                simp only [zz_lt, zz_eq, zl_m2, zl_0, zl_1, b2s, hW 105 (by decide), hW 143 (by decide), hW 144 (by decide), hW 145 (by decide), b1, b3, b4, b5] at q1 q2 q3 q4 q5 q6
                try simp only [b1, b3, b4, b5, hW 105 (by decide), hW 143 (by decide), hW 144 (by decide), hW 145 (by decide)]
                refine vp_of_r ?_ ?_ <;> omega) ?_
              dsimp only [aa_rI, aa_rL]
              have j22 : ¬ (i1 < (0 : Int32)) := (by simp only [zz_lt, zz_eq, zl_m2, zl_0, zl_1, b2s, hW 105 (by decide), hW 143 (by decide), hW 144 (by decide), hW 145 (by decide), b1, b3, b4, b5] <;> omega)
              have j23 : ¬ (((W 105 58) - (1 : Int32)) < i1) := (by simp only [zz_lt, zz_eq, zl_m2, zl_0, zl_1, b2s, hW 105 (by decide), hW 143 (by decide), hW 144 (by decide), hW 145 (by decide), b1, b3, b4, b5] <;> omega)
              have j24 : ¬ (i2 < (0 : Int32)) := (by simp only [zz_lt, zz_eq, zl_m2, zl_0, zl_1, b2s, hW 105 (by decide), hW 143 (by decide), hW 144 (by decide), hW 145 (by decide), b1, b3, b4, b5] <;> omega)
              have j25 : ¬ (((W 105 58) - (1 : Int32)) < i2) := (by simp only [zz_lt, zz_eq, zl_m2, zl_0, zl_1, b2s, hW 105 (by decide), hW 143 (by decide), hW 144 (by decide), hW 145 (by decide), b1, b3, b4, b5] <;> omega)
              have j26 : ¬ (i1 = i2) := (by simp only [zz_lt, zz_eq, zl_m2, zl_0, zl_1, b2s, hW 105 (by decide), hW 143 (by decide), hW 144 (by decide), hW 145 (by decide), b1, b3, b4, b5] <;> omega)
              have j27 : ((((W 145 ((i1).toNatClampNeg)) >>> (i2 &&& 31)) &&& (1 : Int32)) = 0) := (by simp only [zz_lt, zz_eq, zl_m2, zl_0, zl_1, b2s, hW 105 (by decide), hW 143 (by decide), hW 144 (by decide), hW 145 (by decide), b1, b3, b4, b5] <;> omega)
              have em : va_267 i1 i2 W = (1 : Int32) := by simp only [va_267, if_neg j22, if_neg j23, if_neg j24, if_neg j25, if_neg j26, if_pos j27]
              have eo : vn_267 i1 i2 W = (aa_up (aa_up W 145 ((i1).toNatClampNeg) ((W 145 ((i1).toNatClampNeg)) ||| ((1 : Int32) <<< (i2 &&& 31)))) 145 ((i2).toNatClampNeg) (((aa_up W 145 ((i1).toNatClampNeg) ((W 145 ((i1).toNatClampNeg)) ||| ((1 : Int32) <<< (i2 &&& 31)))) 145 ((i2).toNatClampNeg)) ||| ((1 : Int32) <<< (i1 &&& 31)))) := by simp only [vn_267, if_neg j22, if_neg j23, if_neg j24, if_neg j25, if_neg j26, if_pos j27]
              rw [em, eo]
              refine hQ _ _ ?_
              try simp only [hW 105 (by decide), hW 143 (by decide), hW 144 (by decide), hW 145 (by decide), b1, b3, b4, b5]
              rw [hWe]
              refine ⟨hn, nv_rc (V := V) (fun c _ _ => by rw [aa_up_c (by omega), aa_up_c (by omega), aa_up_c (by omega), aa_up_c (by omega)]) rfl hr, hw, ha, hp, ho, ?_, nv_kc (V := V) (fun c _ _ => by rw [aa_up_c (by omega), aa_up_c (by omega), aa_up_c (by omega), aa_up_c (by omega)]) rfl rfl rfl hk, nv_sc (V := V) (fun c _ _ => by rw [aa_up_c (by omega), aa_up_c (by omega), aa_up_c (by omega), aa_up_c (by omega)]) rfl rfl rfl rfl rfl hs, hf, nv_tx (V := V) (fun c _ _ => by rw [aa_up_c (by omega), aa_up_c (by omega), aa_up_c (by omega), aa_up_c (by omega)]) rfl rfl rfl rfl rfl rfl rfl rfl rfl ht⟩
              exact ⟨⟨b1, b2⟩, ⟨b3, b4, by show upd (upd (V 145) _ _) _ (upd (V 145) _ _ _ ||| _) = upd (upd (V 63) _ _) _ (upd (V 63) _ _ _ ||| _); rw [b5]⟩, b6, b7⟩
            · have g21k := g21
              simp only [zz_lt, zz_eq, zl_m2, zl_0, zl_1, b2s] at g21k
              have ev : va_172 i1 i2 V = (0 : Int32) := by simp only [va_172, if_neg g1, if_neg g3, if_neg g6, if_neg g10, if_neg g15, if_neg g21]
              have en : vn_172 i1 i2 V = (aa_up (aa_up V 63 ((i1).toNatClampNeg) ((V 63 ((i1).toNatClampNeg)) ||| ((1 : Int32) <<< (i2 &&& 31)))) 63 ((i2).toNatClampNeg) (((aa_up V 63 ((i1).toNatClampNeg) ((V 63 ((i1).toNatClampNeg)) ||| ((1 : Int32) <<< (i2 &&& 31)))) 63 ((i2).toNatClampNeg)) ||| ((1 : Int32) <<< (i1 &&& 31)))) := by simp only [vn_172, if_neg g1, if_neg g3, if_neg g6, if_neg g10, if_neg g15, if_neg g21]
              rw [ev, en]
              obtain ⟨W, hWe⟩ : ∃ W, W = (aa_up (aa_up V 63 ((i1).toNatClampNeg) ((V 63 ((i1).toNatClampNeg)) ||| ((1 : Int32) <<< (i2 &&& 31)))) 63 ((i2).toNatClampNeg) (((aa_up V 63 ((i1).toNatClampNeg) ((V 63 ((i1).toNatClampNeg)) ||| ((1 : Int32) <<< (i2 &&& 31)))) 63 ((i2).toNatClampNeg)) ||| ((1 : Int32) <<< (i1 &&& 31)))) := ⟨_, rfl⟩
              have hW : ∀ c, 104 < c → W c = V c := fun c hc => by rw [hWe, aa_up_c (by omega), aa_up_c (by omega)]
              rw [← hWe]
              refine sp_267 (fun q1 q2 q3 q4 q5 => by
                simp only [zz_lt, zz_eq, zl_m2, zl_0, zl_1, b2s, hW 105 (by decide), hW 143 (by decide), hW 144 (by decide), hW 145 (by decide), b1, b3, b4, b5] at q1 q2 q3 q4 q5
                try simp only [b1, b3, b4, b5, hW 105 (by decide), hW 143 (by decide), hW 144 (by decide), hW 145 (by decide)]
                refine vp_of_r ?_ ?_ <;> omega) (fun q1 q2 q3 q4 q5 q6 => by
                simp only [zz_lt, zz_eq, zl_m2, zl_0, zl_1, b2s, hW 105 (by decide), hW 143 (by decide), hW 144 (by decide), hW 145 (by decide), b1, b3, b4, b5] at q1 q2 q3 q4 q5 q6
                try simp only [b1, b3, b4, b5, hW 105 (by decide), hW 143 (by decide), hW 144 (by decide), hW 145 (by decide)]
                refine vp_of_r ?_ ?_ <;> omega) (fun q1 q2 q3 q4 q5 q6 => by
                simp only [zz_lt, zz_eq, zl_m2, zl_0, zl_1, b2s, hW 105 (by decide), hW 143 (by decide), hW 144 (by decide), hW 145 (by decide), b1, b3, b4, b5] at q1 q2 q3 q4 q5 q6
                try simp only [b1, b3, b4, b5, hW 105 (by decide), hW 143 (by decide), hW 144 (by decide), hW 145 (by decide)]
                refine vp_of_r ?_ ?_ <;> omega) ?_
              dsimp only [aa_rI, aa_rL]
              have j28 : ¬ (i1 < (0 : Int32)) := (by simp only [zz_lt, zz_eq, zl_m2, zl_0, zl_1, b2s, hW 105 (by decide), hW 143 (by decide), hW 144 (by decide), hW 145 (by decide), b1, b3, b4, b5] <;> omega)
              have j29 : ¬ (((W 105 58) - (1 : Int32)) < i1) := (by simp only [zz_lt, zz_eq, zl_m2, zl_0, zl_1, b2s, hW 105 (by decide), hW 143 (by decide), hW 144 (by decide), hW 145 (by decide), b1, b3, b4, b5] <;> omega)
              have j30 : ¬ (i2 < (0 : Int32)) := (by simp only [zz_lt, zz_eq, zl_m2, zl_0, zl_1, b2s, hW 105 (by decide), hW 143 (by decide), hW 144 (by decide), hW 145 (by decide), b1, b3, b4, b5] <;> omega)
              have j31 : ¬ (((W 105 58) - (1 : Int32)) < i2) := (by simp only [zz_lt, zz_eq, zl_m2, zl_0, zl_1, b2s, hW 105 (by decide), hW 143 (by decide), hW 144 (by decide), hW 145 (by decide), b1, b3, b4, b5] <;> omega)
              have j32 : ¬ (i1 = i2) := (by simp only [zz_lt, zz_eq, zl_m2, zl_0, zl_1, b2s, hW 105 (by decide), hW 143 (by decide), hW 144 (by decide), hW 145 (by decide), b1, b3, b4, b5] <;> omega)
              have j33 : ¬ ((((W 145 ((i1).toNatClampNeg)) >>> (i2 &&& 31)) &&& (1 : Int32)) = 0) := (by simp only [zz_lt, zz_eq, zl_m2, zl_0, zl_1, b2s, hW 105 (by decide), hW 143 (by decide), hW 144 (by decide), hW 145 (by decide), b1, b3, b4, b5] <;> omega)
              have em : va_267 i1 i2 W = (0 : Int32) := by simp only [va_267, if_neg j28, if_neg j29, if_neg j30, if_neg j31, if_neg j32, if_neg j33]
              have eo : vn_267 i1 i2 W = (aa_up (aa_up W 145 ((i1).toNatClampNeg) ((W 145 ((i1).toNatClampNeg)) ||| ((1 : Int32) <<< (i2 &&& 31)))) 145 ((i2).toNatClampNeg) (((aa_up W 145 ((i1).toNatClampNeg) ((W 145 ((i1).toNatClampNeg)) ||| ((1 : Int32) <<< (i2 &&& 31)))) 145 ((i2).toNatClampNeg)) ||| ((1 : Int32) <<< (i1 &&& 31)))) := by simp only [vn_267, if_neg j28, if_neg j29, if_neg j30, if_neg j31, if_neg j32, if_neg j33]
              rw [em, eo]
              refine hQ _ _ ?_
              try simp only [hW 105 (by decide), hW 143 (by decide), hW 144 (by decide), hW 145 (by decide), b1, b3, b4, b5]
              rw [hWe]
              refine ⟨hn, nv_rc (V := V) (fun c _ _ => by rw [aa_up_c (by omega), aa_up_c (by omega), aa_up_c (by omega), aa_up_c (by omega)]) rfl hr, hw, ha, hp, ho, ?_, nv_kc (V := V) (fun c _ _ => by rw [aa_up_c (by omega), aa_up_c (by omega), aa_up_c (by omega), aa_up_c (by omega)]) rfl rfl rfl hk, nv_sc (V := V) (fun c _ _ => by rw [aa_up_c (by omega), aa_up_c (by omega), aa_up_c (by omega), aa_up_c (by omega)]) rfl rfl rfl rfl rfl hs, hf, nv_tx (V := V) (fun c _ _ => by rw [aa_up_c (by omega), aa_up_c (by omega), aa_up_c (by omega), aa_up_c (by omega)]) rfl rfl rfl rfl rfl rfl rfl rfl rfl ht⟩
              exact ⟨⟨b1, b2⟩, ⟨b3, b4, by show upd (upd (V 145) _ _) _ (upd (V 145) _ _ _ ||| _) = upd (upd (V 63) _ _) _ (upd (V 63) _ _ _ ||| _); rw [b5]⟩, b6, b7⟩

set_option maxRecDepth 20000 in
/-- F_frameTold -/
theorem cs_144 {G : ab_G} {L : Nat} {xs : Nat → Int32} {l : Launch} {d : Nat} {i1 : Int32} {i2 : Int32} {V : aa_V} {Q : Int64 → Int64 → aa_V → Prop} (hI : nv V) (hQ : ∀ x W, nv W → Q x x W) :
    ab_E G (ac_ST L xs) l (d + 4) ac_SK 144 [.ref 0, .int i1, .int i2] V (aa_rL fun x V1 => ab_E G (ac_ST L xs) l (d + 3) ac_SK 207 [.ref 105, .int i1, .int i2] V1 (aa_rL fun y W => Q x y W)) := by
  have hI' := hI
  obtain ⟨hn, hr, hw, ha, hp, ho, hb, hk, hs, hf, ht⟩ := hI'
  have hw' := hw
  obtain ⟨⟨w1, w2, w3, w4⟩, ⟨w5, w6, w7, w8, w9, w10, w11, w12⟩, s1, s2, s3, s4, s5, s6, s7, s8⟩ := hw'
  have w2r := zb_r w2 (by decide)
  have w2s := zb_sub1 w2 (by decide)
  have w4r := zb_r w4 (by decide)
  have w4s := zb_sub1 w4 (by decide)
  have qa := qv_126 hw
  have qb := qv_125 hw
  refine sp_144 (fun q1 q2 q3 => by
    simp only [zz_lt, zz_eq, zl_0, zl_1, zl_2, zl_3, zl_4, zl_5, zl_6, zl_7, w2s, w4s] at q1 q2 q3
    refine vp_of_r ?_ ?_ <;> omega) (fun q1 q2 q3 q4 => by
    simp only [zz_lt, zz_eq, zl_0, zl_1, zl_2, zl_3, zl_4, zl_5, zl_6, zl_7, w2s, w4s] at q1 q2 q3 q4
    refine vp_of_r ?_ ?_ <;> omega) (fun q1 q2 q3 q4 q5 => by
    simp only [zz_lt, zz_eq, zl_0, zl_1, zl_2, zl_3, zl_4, zl_5, zl_6, zl_7, w2s, w4s] at q1 q2 q3 q4 q5
    refine vp_of_r ?_ ?_ <;> omega) (fun q1 q2 q3 q4 q5 q6 => by
    simp only [zz_lt, zz_eq, zl_0, zl_1, zl_2, zl_3, zl_4, zl_5, zl_6, zl_7, w2s, w4s] at q1 q2 q3 q4 q5 q6
    refine vp_of_r ?_ ?_ <;> omega) (fun q1 q2 q3 q4 q5 q6 q7 => by
    simp only [zz_lt, zz_eq, zl_0, zl_1, zl_2, zl_3, zl_4, zl_5, zl_6, zl_7, w2s, w4s] at q1 q2 q3 q4 q5 q6 q7
    refine vp_of_r ?_ ?_ <;> omega) (fun q1 q2 q3 q4 q5 q6 q7 q8 => by
    simp only [zz_lt, zz_eq, zl_0, zl_1, zl_2, zl_3, zl_4, zl_5, zl_6, zl_7, w2s, w4s] at q1 q2 q3 q4 q5 q6 q7 q8
    refine vp_of_r ?_ ?_ <;> omega) (fun q1 q2 q3 q4 q5 q6 q7 q8 q9 => by
    simp only [zz_lt, zz_eq, zl_0, zl_1, zl_2, zl_3, zl_4, zl_5, zl_6, zl_7, w2s, w4s] at q1 q2 q3 q4 q5 q6 q7 q8 q9
    refine vp_of_r ?_ ?_ <;> omega) (fun q1 q2 q3 q4 q5 q6 q7 q8 q9 q10 => by
    simp only [zz_lt, zz_eq, zl_0, zl_1, zl_2, zl_3, zl_4, zl_5, zl_6, zl_7, w2s, w4s] at q1 q2 q3 q4 q5 q6 q7 q8 q9 q10
    refine vp_of_r ?_ ?_ <;> omega) (fun _ _ _ _ _ _ _ _ _ _ _ => vp_of_r (zb_r (s4 _) (by decide)).1 (by have := (zb_r (s4 i1.toNatClampNeg) (by decide)).2; omega)) ?_
  dsimp only [aa_rI, aa_rL]
  by_cases g1 : i1 < (0 : Int32)
  · have g1k := g1
    simp only [zz_lt, zz_eq, zl_0, zl_1, zl_2, zl_3, zl_4, zl_5, zl_6, zl_7, w2s, w4s] at g1k
    have ev : va_144 i1 i2 V = (-4611686018427387904 : Int64) := by simp only [va_144, va_120, zl_ne, if_true, if_false, if_pos g1]
    rw [ev]
    refine sp_207 (fun q1 q2 q3 => by
      simp only [zz_lt, zz_eq, zl_0, zl_1, zl_2, zl_3, zl_4, zl_5, zl_6, zl_7, w2s, w4s, w1, w3, w5, w6, w7, w8, w9, w10, w11, w12] at q1 q2 q3
      try simp only [w1, w3, w5, w6, w7, w8, w9, w10, w11, w12]
      refine vp_of_r ?_ ?_ <;> omega) (fun q1 q2 q3 q4 => by
      simp only [zz_lt, zz_eq, zl_0, zl_1, zl_2, zl_3, zl_4, zl_5, zl_6, zl_7, w2s, w4s, w1, w3, w5, w6, w7, w8, w9, w10, w11, w12] at q1 q2 q3 q4
      try simp only [w1, w3, w5, w6, w7, w8, w9, w10, w11, w12]
      refine vp_of_r ?_ ?_ <;> omega) (fun q1 q2 q3 q4 q5 => by
      simp only [zz_lt, zz_eq, zl_0, zl_1, zl_2, zl_3, zl_4, zl_5, zl_6, zl_7, w2s, w4s, w1, w3, w5, w6, w7, w8, w9, w10, w11, w12] at q1 q2 q3 q4 q5
      try simp only [w1, w3, w5, w6, w7, w8, w9, w10, w11, w12]
      refine vp_of_r ?_ ?_ <;> omega) (fun q1 q2 q3 q4 q5 q6 => by
      simp only [zz_lt, zz_eq, zl_0, zl_1, zl_2, zl_3, zl_4, zl_5, zl_6, zl_7, w2s, w4s, w1, w3, w5, w6, w7, w8, w9, w10, w11, w12] at q1 q2 q3 q4 q5 q6
      try simp only [w1, w3, w5, w6, w7, w8, w9, w10, w11, w12]
      refine vp_of_r ?_ ?_ <;> omega) (fun q1 q2 q3 q4 q5 q6 q7 => by
      simp only [zz_lt, zz_eq, zl_0, zl_1, zl_2, zl_3, zl_4, zl_5, zl_6, zl_7, w2s, w4s, w1, w3, w5, w6, w7, w8, w9, w10, w11, w12] at q1 q2 q3 q4 q5 q6 q7
      try simp only [w1, w3, w5, w6, w7, w8, w9, w10, w11, w12]
      refine vp_of_r ?_ ?_ <;> omega) (fun q1 q2 q3 q4 q5 q6 q7 q8 => by
      simp only [zz_lt, zz_eq, zl_0, zl_1, zl_2, zl_3, zl_4, zl_5, zl_6, zl_7, w2s, w4s, w1, w3, w5, w6, w7, w8, w9, w10, w11, w12] at q1 q2 q3 q4 q5 q6 q7 q8
      try simp only [w1, w3, w5, w6, w7, w8, w9, w10, w11, w12]
      refine vp_of_r ?_ ?_ <;> omega) (fun q1 q2 q3 q4 q5 q6 q7 q8 q9 => by
      simp only [zz_lt, zz_eq, zl_0, zl_1, zl_2, zl_3, zl_4, zl_5, zl_6, zl_7, w2s, w4s, w1, w3, w5, w6, w7, w8, w9, w10, w11, w12] at q1 q2 q3 q4 q5 q6 q7 q8 q9
      try simp only [w1, w3, w5, w6, w7, w8, w9, w10, w11, w12]
      refine vp_of_r ?_ ?_ <;> omega) (fun q1 q2 q3 q4 q5 q6 q7 q8 q9 q10 => by
      simp only [zz_lt, zz_eq, zl_0, zl_1, zl_2, zl_3, zl_4, zl_5, zl_6, zl_7, w2s, w4s, w1, w3, w5, w6, w7, w8, w9, w10, w11, w12] at q1 q2 q3 q4 q5 q6 q7 q8 q9 q10
      try simp only [w1, w3, w5, w6, w7, w8, w9, w10, w11, w12]
      refine vp_of_r ?_ ?_ <;> omega) (fun _ _ _ _ _ _ _ _ _ _ _ => by rw [w8]; exact vp_of_r (zb_r (s4 _) (by decide)).1 (by have := (zb_r (s4 i1.toNatClampNeg) (by decide)).2; omega)) ?_
    dsimp only [aa_rI, aa_rL]
    have j2 : (i1 < 0) := (by simp only [zz_lt, zz_eq, zl_0, zl_1, zl_2, zl_3, zl_4, zl_5, zl_6, zl_7, w2s, w4s, w1, w3, w5, w6, w7, w8, w9, w10, w11, w12] <;> omega)
    have em : va_207 i1 i2 V = (-4611686018427387904 : Int64) := by simp only [va_207, if_pos j2]
    rw [em]
    refine hQ _ _ ?_
    exact hI
  · have g1k := g1
    simp only [zz_lt, zz_eq, zl_0, zl_1, zl_2, zl_3, zl_4, zl_5, zl_6, zl_7, w2s, w4s] at g1k
    by_cases g3 : ((V 29 3) - (1 : Int32)) < i1
    · have g3k := g3
      simp only [zz_lt, zz_eq, zl_0, zl_1, zl_2, zl_3, zl_4, zl_5, zl_6, zl_7, w2s, w4s] at g3k
      have ev : va_144 i1 i2 V = (-4611686018427387904 : Int64) := by simp only [va_144, va_120, zl_ne, if_true, if_false, if_neg g1, if_pos g3]
      rw [ev]
      refine sp_207 (fun q1 q2 q3 => by
        simp only [zz_lt, zz_eq, zl_0, zl_1, zl_2, zl_3, zl_4, zl_5, zl_6, zl_7, w2s, w4s, w1, w3, w5, w6, w7, w8, w9, w10, w11, w12] at q1 q2 q3
        try simp only [w1, w3, w5, w6, w7, w8, w9, w10, w11, w12]
        refine vp_of_r ?_ ?_ <;> omega) (fun q1 q2 q3 q4 => by
        simp only [zz_lt, zz_eq, zl_0, zl_1, zl_2, zl_3, zl_4, zl_5, zl_6, zl_7, w2s, w4s, w1, w3, w5, w6, w7, w8, w9, w10, w11, w12] at q1 q2 q3 q4
        try simp only [w1, w3, w5, w6, w7, w8, w9, w10, w11, w12]
        refine vp_of_r ?_ ?_ <;> omega) (fun q1 q2 q3 q4 q5 => by
        simp only [zz_lt, zz_eq, zl_0, zl_1, zl_2, zl_3, zl_4, zl_5, zl_6, zl_7, w2s, w4s, w1, w3, w5, w6, w7, w8, w9, w10, w11, w12] at q1 q2 q3 q4 q5
        try simp only [w1, w3, w5, w6, w7, w8, w9, w10, w11, w12]
        refine vp_of_r ?_ ?_ <;> omega) (fun q1 q2 q3 q4 q5 q6 => by
        simp only [zz_lt, zz_eq, zl_0, zl_1, zl_2, zl_3, zl_4, zl_5, zl_6, zl_7, w2s, w4s, w1, w3, w5, w6, w7, w8, w9, w10, w11, w12] at q1 q2 q3 q4 q5 q6
        try simp only [w1, w3, w5, w6, w7, w8, w9, w10, w11, w12]
        refine vp_of_r ?_ ?_ <;> omega) (fun q1 q2 q3 q4 q5 q6 q7 => by
        simp only [zz_lt, zz_eq, zl_0, zl_1, zl_2, zl_3, zl_4, zl_5, zl_6, zl_7, w2s, w4s, w1, w3, w5, w6, w7, w8, w9, w10, w11, w12] at q1 q2 q3 q4 q5 q6 q7
        try simp only [w1, w3, w5, w6, w7, w8, w9, w10, w11, w12]
        refine vp_of_r ?_ ?_ <;> omega) (fun q1 q2 q3 q4 q5 q6 q7 q8 => by
        simp only [zz_lt, zz_eq, zl_0, zl_1, zl_2, zl_3, zl_4, zl_5, zl_6, zl_7, w2s, w4s, w1, w3, w5, w6, w7, w8, w9, w10, w11, w12] at q1 q2 q3 q4 q5 q6 q7 q8
        try simp only [w1, w3, w5, w6, w7, w8, w9, w10, w11, w12]
        refine vp_of_r ?_ ?_ <;> omega) (fun q1 q2 q3 q4 q5 q6 q7 q8 q9 => by
        simp only [zz_lt, zz_eq, zl_0, zl_1, zl_2, zl_3, zl_4, zl_5, zl_6, zl_7, w2s, w4s, w1, w3, w5, w6, w7, w8, w9, w10, w11, w12] at q1 q2 q3 q4 q5 q6 q7 q8 q9
        try simp only [w1, w3, w5, w6, w7, w8, w9, w10, w11, w12]
        refine vp_of_r ?_ ?_ <;> omega) (fun q1 q2 q3 q4 q5 q6 q7 q8 q9 q10 => by
        simp only [zz_lt, zz_eq, zl_0, zl_1, zl_2, zl_3, zl_4, zl_5, zl_6, zl_7, w2s, w4s, w1, w3, w5, w6, w7, w8, w9, w10, w11, w12] at q1 q2 q3 q4 q5 q6 q7 q8 q9 q10
        try simp only [w1, w3, w5, w6, w7, w8, w9, w10, w11, w12]
        refine vp_of_r ?_ ?_ <;> omega) (fun _ _ _ _ _ _ _ _ _ _ _ => by rw [w8]; exact vp_of_r (zb_r (s4 _) (by decide)).1 (by have := (zb_r (s4 i1.toNatClampNeg) (by decide)).2; omega)) ?_
      dsimp only [aa_rI, aa_rL]
      have j4 : ¬ (i1 < 0) := (by simp only [zz_lt, zz_eq, zl_0, zl_1, zl_2, zl_3, zl_4, zl_5, zl_6, zl_7, w2s, w4s, w1, w3, w5, w6, w7, w8, w9, w10, w11, w12] <;> omega)
      have j5 : ¬ (i1 < (V 105 12)) := (by simp only [zz_lt, zz_eq, zl_0, zl_1, zl_2, zl_3, zl_4, zl_5, zl_6, zl_7, w2s, w4s, w1, w3, w5, w6, w7, w8, w9, w10, w11, w12] <;> omega)
      have em : va_207 i1 i2 V = (-4611686018427387904 : Int64) := by simp only [va_207, if_neg j4, if_neg j5]
      rw [em]
      refine hQ _ _ ?_
      exact hI
    · have g3k := g3
      simp only [zz_lt, zz_eq, zl_0, zl_1, zl_2, zl_3, zl_4, zl_5, zl_6, zl_7, w2s, w4s] at g3k
      by_cases g6 : i2 = 0
      · have g6k := g6
        simp only [zz_lt, zz_eq, zl_0, zl_1, zl_2, zl_3, zl_4, zl_5, zl_6, zl_7, w2s, w4s] at g6k
        have ev : va_144 i1 i2 V = ((V 32 ((i1).toNatClampNeg)).toInt64) := by simp only [va_144, va_120, zl_ne, if_true, if_false, if_neg g1, if_neg g3, if_pos g6]
        rw [ev]
        refine sp_207 (fun q1 q2 q3 => by
          simp only [zz_lt, zz_eq, zl_0, zl_1, zl_2, zl_3, zl_4, zl_5, zl_6, zl_7, w2s, w4s, w1, w3, w5, w6, w7, w8, w9, w10, w11, w12] at q1 q2 q3
          try simp only [w1, w3, w5, w6, w7, w8, w9, w10, w11, w12]
          refine vp_of_r ?_ ?_ <;> omega) (fun q1 q2 q3 q4 => by
          simp only [zz_lt, zz_eq, zl_0, zl_1, zl_2, zl_3, zl_4, zl_5, zl_6, zl_7, w2s, w4s, w1, w3, w5, w6, w7, w8, w9, w10, w11, w12] at q1 q2 q3 q4
          try simp only [w1, w3, w5, w6, w7, w8, w9, w10, w11, w12]
          refine vp_of_r ?_ ?_ <;> omega) (fun q1 q2 q3 q4 q5 => by
          simp only [zz_lt, zz_eq, zl_0, zl_1, zl_2, zl_3, zl_4, zl_5, zl_6, zl_7, w2s, w4s, w1, w3, w5, w6, w7, w8, w9, w10, w11, w12] at q1 q2 q3 q4 q5
          try simp only [w1, w3, w5, w6, w7, w8, w9, w10, w11, w12]
          refine vp_of_r ?_ ?_ <;> omega) (fun q1 q2 q3 q4 q5 q6 => by
          simp only [zz_lt, zz_eq, zl_0, zl_1, zl_2, zl_3, zl_4, zl_5, zl_6, zl_7, w2s, w4s, w1, w3, w5, w6, w7, w8, w9, w10, w11, w12] at q1 q2 q3 q4 q5 q6
          try simp only [w1, w3, w5, w6, w7, w8, w9, w10, w11, w12]
          refine vp_of_r ?_ ?_ <;> omega) (fun q1 q2 q3 q4 q5 q6 q7 => by
          simp only [zz_lt, zz_eq, zl_0, zl_1, zl_2, zl_3, zl_4, zl_5, zl_6, zl_7, w2s, w4s, w1, w3, w5, w6, w7, w8, w9, w10, w11, w12] at q1 q2 q3 q4 q5 q6 q7
          try simp only [w1, w3, w5, w6, w7, w8, w9, w10, w11, w12]
          refine vp_of_r ?_ ?_ <;> omega) (fun q1 q2 q3 q4 q5 q6 q7 q8 => by
          simp only [zz_lt, zz_eq, zl_0, zl_1, zl_2, zl_3, zl_4, zl_5, zl_6, zl_7, w2s, w4s, w1, w3, w5, w6, w7, w8, w9, w10, w11, w12] at q1 q2 q3 q4 q5 q6 q7 q8
          try simp only [w1, w3, w5, w6, w7, w8, w9, w10, w11, w12]
          refine vp_of_r ?_ ?_ <;> omega) (fun q1 q2 q3 q4 q5 q6 q7 q8 q9 => by
          simp only [zz_lt, zz_eq, zl_0, zl_1, zl_2, zl_3, zl_4, zl_5, zl_6, zl_7, w2s, w4s, w1, w3, w5, w6, w7, w8, w9, w10, w11, w12] at q1 q2 q3 q4 q5 q6 q7 q8 q9
          try simp only [w1, w3, w5, w6, w7, w8, w9, w10, w11, w12]
          refine vp_of_r ?_ ?_ <;> omega) (fun q1 q2 q3 q4 q5 q6 q7 q8 q9 q10 => by
          simp only [zz_lt, zz_eq, zl_0, zl_1, zl_2, zl_3, zl_4, zl_5, zl_6, zl_7, w2s, w4s, w1, w3, w5, w6, w7, w8, w9, w10, w11, w12] at q1 q2 q3 q4 q5 q6 q7 q8 q9 q10
          try simp only [w1, w3, w5, w6, w7, w8, w9, w10, w11, w12]
          refine vp_of_r ?_ ?_ <;> omega) (fun _ _ _ _ _ _ _ _ _ _ _ => by rw [w8]; exact vp_of_r (zb_r (s4 _) (by decide)).1 (by have := (zb_r (s4 i1.toNatClampNeg) (by decide)).2; omega)) ?_
        dsimp only [aa_rI, aa_rL]
        have j7 : ¬ (i1 < 0) := (by simp only [zz_lt, zz_eq, zl_0, zl_1, zl_2, zl_3, zl_4, zl_5, zl_6, zl_7, w2s, w4s, w1, w3, w5, w6, w7, w8, w9, w10, w11, w12] <;> omega)
        have j8 : (i1 < (V 105 12)) := (by simp only [zz_lt, zz_eq, zl_0, zl_1, zl_2, zl_3, zl_4, zl_5, zl_6, zl_7, w2s, w4s, w1, w3, w5, w6, w7, w8, w9, w10, w11, w12] <;> omega)
        have j9 : (i2 = 0) := (by simp only [zz_lt, zz_eq, zl_0, zl_1, zl_2, zl_3, zl_4, zl_5, zl_6, zl_7, w2s, w4s, w1, w3, w5, w6, w7, w8, w9, w10, w11, w12] <;> omega)
        have em : va_207 i1 i2 V = ((V 110 ((i1).toNatClampNeg)).toInt64) := by simp only [va_207, if_neg j7, if_pos j8, if_pos j9]
        rw [em]
        have ex : ((V 110 ((i1).toNatClampNeg)).toInt64) = ((V 32 ((i1).toNatClampNeg)).toInt64) := by simp only [w1, w3, w5, w6, w7, w8, w9, w10, w11, w12, qa, qb]
        rw [ex]
        refine hQ _ _ ?_
        exact hI
      · have g6k := g6
        simp only [zz_lt, zz_eq, zl_0, zl_1, zl_2, zl_3, zl_4, zl_5, zl_6, zl_7, w2s, w4s] at g6k
        by_cases g10 : i2 = 1
        · have g10k := g10
          simp only [zz_lt, zz_eq, zl_0, zl_1, zl_2, zl_3, zl_4, zl_5, zl_6, zl_7, w2s, w4s] at g10k
          have ev : va_144 i1 i2 V = ((V 33 ((i1).toNatClampNeg)).toInt64) := by simp only [va_144, va_120, zl_ne, if_true, if_false, if_neg g1, if_neg g3, if_neg g6, if_pos g10]
          rw [ev]
          refine sp_207 (fun q1 q2 q3 => by
            simp only [zz_lt, zz_eq, zl_0, zl_1, zl_2, zl_3, zl_4, zl_5, zl_6, zl_7, w2s, w4s, w1, w3, w5, w6, w7, w8, w9, w10, w11, w12] at q1 q2 q3
            try simp only [w1, w3, w5, w6, w7, w8, w9, w10, w11, w12]
            refine vp_of_r ?_ ?_ <;> omega) (fun q1 q2 q3 q4 => by
            simp only [zz_lt, zz_eq, zl_0, zl_1, zl_2, zl_3, zl_4, zl_5, zl_6, zl_7, w2s, w4s, w1, w3, w5, w6, w7, w8, w9, w10, w11, w12] at q1 q2 q3 q4
            try simp only [w1, w3, w5, w6, w7, w8, w9, w10, w11, w12]
            refine vp_of_r ?_ ?_ <;> omega) (fun q1 q2 q3 q4 q5 => by
            simp only [zz_lt, zz_eq, zl_0, zl_1, zl_2, zl_3, zl_4, zl_5, zl_6, zl_7, w2s, w4s, w1, w3, w5, w6, w7, w8, w9, w10, w11, w12] at q1 q2 q3 q4 q5
            try simp only [w1, w3, w5, w6, w7, w8, w9, w10, w11, w12]
            refine vp_of_r ?_ ?_ <;> omega) (fun q1 q2 q3 q4 q5 q6 => by
            simp only [zz_lt, zz_eq, zl_0, zl_1, zl_2, zl_3, zl_4, zl_5, zl_6, zl_7, w2s, w4s, w1, w3, w5, w6, w7, w8, w9, w10, w11, w12] at q1 q2 q3 q4 q5 q6
            try simp only [w1, w3, w5, w6, w7, w8, w9, w10, w11, w12]
            refine vp_of_r ?_ ?_ <;> omega) (fun q1 q2 q3 q4 q5 q6 q7 => by
            simp only [zz_lt, zz_eq, zl_0, zl_1, zl_2, zl_3, zl_4, zl_5, zl_6, zl_7, w2s, w4s, w1, w3, w5, w6, w7, w8, w9, w10, w11, w12] at q1 q2 q3 q4 q5 q6 q7
            try simp only [w1, w3, w5, w6, w7, w8, w9, w10, w11, w12]
            refine vp_of_r ?_ ?_ <;> omega) (fun q1 q2 q3 q4 q5 q6 q7 q8 => by
            simp only [zz_lt, zz_eq, zl_0, zl_1, zl_2, zl_3, zl_4, zl_5, zl_6, zl_7, w2s, w4s, w1, w3, w5, w6, w7, w8, w9, w10, w11, w12] at q1 q2 q3 q4 q5 q6 q7 q8
            try simp only [w1, w3, w5, w6, w7, w8, w9, w10, w11, w12]
            refine vp_of_r ?_ ?_ <;> omega) (fun q1 q2 q3 q4 q5 q6 q7 q8 q9 => by
            simp only [zz_lt, zz_eq, zl_0, zl_1, zl_2, zl_3, zl_4, zl_5, zl_6, zl_7, w2s, w4s, w1, w3, w5, w6, w7, w8, w9, w10, w11, w12] at q1 q2 q3 q4 q5 q6 q7 q8 q9
            try simp only [w1, w3, w5, w6, w7, w8, w9, w10, w11, w12]
            refine vp_of_r ?_ ?_ <;> omega) (fun q1 q2 q3 q4 q5 q6 q7 q8 q9 q10 => by
            simp only [zz_lt, zz_eq, zl_0, zl_1, zl_2, zl_3, zl_4, zl_5, zl_6, zl_7, w2s, w4s, w1, w3, w5, w6, w7, w8, w9, w10, w11, w12] at q1 q2 q3 q4 q5 q6 q7 q8 q9 q10
            try simp only [w1, w3, w5, w6, w7, w8, w9, w10, w11, w12]
            refine vp_of_r ?_ ?_ <;> omega) (fun _ _ _ _ _ _ _ _ _ _ _ => by rw [w8]; exact vp_of_r (zb_r (s4 _) (by decide)).1 (by have := (zb_r (s4 i1.toNatClampNeg) (by decide)).2; omega)) ?_
          dsimp only [aa_rI, aa_rL]
          have j11 : ¬ (i1 < 0) := (by simp only [zz_lt, zz_eq, zl_0, zl_1, zl_2, zl_3, zl_4, zl_5, zl_6, zl_7, w2s, w4s, w1, w3, w5, w6, w7, w8, w9, w10, w11, w12] <;> omega)
          have j12 : (i1 < (V 105 12)) := (by simp only [zz_lt, zz_eq, zl_0, zl_1, zl_2, zl_3, zl_4, zl_5, zl_6, zl_7, w2s, w4s, w1, w3, w5, w6, w7, w8, w9, w10, w11, w12] <;> omega)
          have j13 : ¬ (i2 = 0) := (by simp only [zz_lt, zz_eq, zl_0, zl_1, zl_2, zl_3, zl_4, zl_5, zl_6, zl_7, w2s, w4s, w1, w3, w5, w6, w7, w8, w9, w10, w11, w12] <;> omega)
          have j14 : (i2 = 1) := (by simp only [zz_lt, zz_eq, zl_0, zl_1, zl_2, zl_3, zl_4, zl_5, zl_6, zl_7, w2s, w4s, w1, w3, w5, w6, w7, w8, w9, w10, w11, w12] <;> omega)
          have em : va_207 i1 i2 V = ((V 111 ((i1).toNatClampNeg)).toInt64) := by simp only [va_207, if_neg j11, if_pos j12, if_neg j13, if_pos j14]
          rw [em]
          have ex : ((V 111 ((i1).toNatClampNeg)).toInt64) = ((V 33 ((i1).toNatClampNeg)).toInt64) := by simp only [w1, w3, w5, w6, w7, w8, w9, w10, w11, w12, qa, qb]
          rw [ex]
          refine hQ _ _ ?_
          exact hI
        · have g10k := g10
          simp only [zz_lt, zz_eq, zl_0, zl_1, zl_2, zl_3, zl_4, zl_5, zl_6, zl_7, w2s, w4s] at g10k
          by_cases g15 : i2 = 2
          · have g15k := g15
            simp only [zz_lt, zz_eq, zl_0, zl_1, zl_2, zl_3, zl_4, zl_5, zl_6, zl_7, w2s, w4s] at g15k
            have ev : va_144 i1 i2 V = ((V 34 ((i1).toNatClampNeg)).toInt64) := by simp only [va_144, va_120, zl_ne, if_true, if_false, if_neg g1, if_neg g3, if_neg g6, if_neg g10, if_pos g15]
            rw [ev]
            refine sp_207 (fun q1 q2 q3 => by
              simp only [zz_lt, zz_eq, zl_0, zl_1, zl_2, zl_3, zl_4, zl_5, zl_6, zl_7, w2s, w4s, w1, w3, w5, w6, w7, w8, w9, w10, w11, w12] at q1 q2 q3
              try simp only [w1, w3, w5, w6, w7, w8, w9, w10, w11, w12]
              refine vp_of_r ?_ ?_ <;> omega) (fun q1 q2 q3 q4 => by
              simp only [zz_lt, zz_eq, zl_0, zl_1, zl_2, zl_3, zl_4, zl_5, zl_6, zl_7, w2s, w4s, w1, w3, w5, w6, w7, w8, w9, w10, w11, w12] at q1 q2 q3 q4
              try simp only [w1, w3, w5, w6, w7, w8, w9, w10, w11, w12]
              refine vp_of_r ?_ ?_ <;> omega) (fun q1 q2 q3 q4 q5 => by
              simp only [zz_lt, zz_eq, zl_0, zl_1, zl_2, zl_3, zl_4, zl_5, zl_6, zl_7, w2s, w4s, w1, w3, w5, w6, w7, w8, w9, w10, w11, w12] at q1 q2 q3 q4 q5
              try simp only [w1, w3, w5, w6, w7, w8, w9, w10, w11, w12]
              refine vp_of_r ?_ ?_ <;> omega) (fun q1 q2 q3 q4 q5 q6 => by
              simp only [zz_lt, zz_eq, zl_0, zl_1, zl_2, zl_3, zl_4, zl_5, zl_6, zl_7, w2s, w4s, w1, w3, w5, w6, w7, w8, w9, w10, w11, w12] at q1 q2 q3 q4 q5 q6
              try simp only [w1, w3, w5, w6, w7, w8, w9, w10, w11, w12]
              refine vp_of_r ?_ ?_ <;> omega) (fun q1 q2 q3 q4 q5 q6 q7 => by
              simp only [zz_lt, zz_eq, zl_0, zl_1, zl_2, zl_3, zl_4, zl_5, zl_6, zl_7, w2s, w4s, w1, w3, w5, w6, w7, w8, w9, w10, w11, w12] at q1 q2 q3 q4 q5 q6 q7
              try simp only [w1, w3, w5, w6, w7, w8, w9, w10, w11, w12]
              refine vp_of_r ?_ ?_ <;> omega) (fun q1 q2 q3 q4 q5 q6 q7 q8 => by
              simp only [zz_lt, zz_eq, zl_0, zl_1, zl_2, zl_3, zl_4, zl_5, zl_6, zl_7, w2s, w4s, w1, w3, w5, w6, w7, w8, w9, w10, w11, w12] at q1 q2 q3 q4 q5 q6 q7 q8
              try simp only [w1, w3, w5, w6, w7, w8, w9, w10, w11, w12]
              refine vp_of_r ?_ ?_ <;> omega) (fun q1 q2 q3 q4 q5 q6 q7 q8 q9 => by
              simp only [zz_lt, zz_eq, zl_0, zl_1, zl_2, zl_3, zl_4, zl_5, zl_6, zl_7, w2s, w4s, w1, w3, w5, w6, w7, w8, w9, w10, w11, w12] at q1 q2 q3 q4 q5 q6 q7 q8 q9
              try simp only [w1, w3, w5, w6, w7, w8, w9, w10, w11, w12]
              refine vp_of_r ?_ ?_ <;> omega) (fun q1 q2 q3 q4 q5 q6 q7 q8 q9 q10 => by
              simp only [zz_lt, zz_eq, zl_0, zl_1, zl_2, zl_3, zl_4, zl_5, zl_6, zl_7, w2s, w4s, w1, w3, w5, w6, w7, w8, w9, w10, w11, w12] at q1 q2 q3 q4 q5 q6 q7 q8 q9 q10
              try simp only [w1, w3, w5, w6, w7, w8, w9, w10, w11, w12]
              refine vp_of_r ?_ ?_ <;> omega) (fun _ _ _ _ _ _ _ _ _ _ _ => by rw [w8]; exact vp_of_r (zb_r (s4 _) (by decide)).1 (by have := (zb_r (s4 i1.toNatClampNeg) (by decide)).2; omega)) ?_
            dsimp only [aa_rI, aa_rL]
            have j16 : ¬ (i1 < 0) := (by simp only [zz_lt, zz_eq, zl_0, zl_1, zl_2, zl_3, zl_4, zl_5, zl_6, zl_7, w2s, w4s, w1, w3, w5, w6, w7, w8, w9, w10, w11, w12] <;> omega)
            have j17 : (i1 < (V 105 12)) := (by simp only [zz_lt, zz_eq, zl_0, zl_1, zl_2, zl_3, zl_4, zl_5, zl_6, zl_7, w2s, w4s, w1, w3, w5, w6, w7, w8, w9, w10, w11, w12] <;> omega)
            have j18 : ¬ (i2 = 0) := (by simp only [zz_lt, zz_eq, zl_0, zl_1, zl_2, zl_3, zl_4, zl_5, zl_6, zl_7, w2s, w4s, w1, w3, w5, w6, w7, w8, w9, w10, w11, w12] <;> omega)
            have j19 : ¬ (i2 = 1) := (by simp only [zz_lt, zz_eq, zl_0, zl_1, zl_2, zl_3, zl_4, zl_5, zl_6, zl_7, w2s, w4s, w1, w3, w5, w6, w7, w8, w9, w10, w11, w12] <;> omega)
            have j20 : (i2 = 2) := (by simp only [zz_lt, zz_eq, zl_0, zl_1, zl_2, zl_3, zl_4, zl_5, zl_6, zl_7, w2s, w4s, w1, w3, w5, w6, w7, w8, w9, w10, w11, w12] <;> omega)
            have em : va_207 i1 i2 V = ((V 112 ((i1).toNatClampNeg)).toInt64) := by simp only [va_207, if_neg j16, if_pos j17, if_neg j18, if_neg j19, if_pos j20]
            rw [em]
            have ex : ((V 112 ((i1).toNatClampNeg)).toInt64) = ((V 34 ((i1).toNatClampNeg)).toInt64) := by simp only [w1, w3, w5, w6, w7, w8, w9, w10, w11, w12, qa, qb]
            rw [ex]
            refine hQ _ _ ?_
            exact hI
          · have g15k := g15
            simp only [zz_lt, zz_eq, zl_0, zl_1, zl_2, zl_3, zl_4, zl_5, zl_6, zl_7, w2s, w4s] at g15k
            by_cases g21 : i2 = 3
            · have g21k := g21
              simp only [zz_lt, zz_eq, zl_0, zl_1, zl_2, zl_3, zl_4, zl_5, zl_6, zl_7, w2s, w4s] at g21k
              have ev : va_144 i1 i2 V = ((V 35 ((i1).toNatClampNeg)).toInt64) := by simp only [va_144, va_120, zl_ne, if_true, if_false, if_neg g1, if_neg g3, if_neg g6, if_neg g10, if_neg g15, if_pos g21]
              rw [ev]
              refine sp_207 (fun q1 q2 q3 => by
                simp only [zz_lt, zz_eq, zl_0, zl_1, zl_2, zl_3, zl_4, zl_5, zl_6, zl_7, w2s, w4s, w1, w3, w5, w6, w7, w8, w9, w10, w11, w12] at q1 q2 q3
                try simp only [w1, w3, w5, w6, w7, w8, w9, w10, w11, w12]
                refine vp_of_r ?_ ?_ <;> omega) (fun q1 q2 q3 q4 => by
                simp only [zz_lt, zz_eq, zl_0, zl_1, zl_2, zl_3, zl_4, zl_5, zl_6, zl_7, w2s, w4s, w1, w3, w5, w6, w7, w8, w9, w10, w11, w12] at q1 q2 q3 q4
                try simp only [w1, w3, w5, w6, w7, w8, w9, w10, w11, w12]
                refine vp_of_r ?_ ?_ <;> omega) (fun q1 q2 q3 q4 q5 => by
                simp only [zz_lt, zz_eq, zl_0, zl_1, zl_2, zl_3, zl_4, zl_5, zl_6, zl_7, w2s, w4s, w1, w3, w5, w6, w7, w8, w9, w10, w11, w12] at q1 q2 q3 q4 q5
                try simp only [w1, w3, w5, w6, w7, w8, w9, w10, w11, w12]
                refine vp_of_r ?_ ?_ <;> omega) (fun q1 q2 q3 q4 q5 q6 => by
                simp only [zz_lt, zz_eq, zl_0, zl_1, zl_2, zl_3, zl_4, zl_5, zl_6, zl_7, w2s, w4s, w1, w3, w5, w6, w7, w8, w9, w10, w11, w12] at q1 q2 q3 q4 q5 q6
                try simp only [w1, w3, w5, w6, w7, w8, w9, w10, w11, w12]
                refine vp_of_r ?_ ?_ <;> omega) (fun q1 q2 q3 q4 q5 q6 q7 => by
                simp only [zz_lt, zz_eq, zl_0, zl_1, zl_2, zl_3, zl_4, zl_5, zl_6, zl_7, w2s, w4s, w1, w3, w5, w6, w7, w8, w9, w10, w11, w12] at q1 q2 q3 q4 q5 q6 q7
                try simp only [w1, w3, w5, w6, w7, w8, w9, w10, w11, w12]
                refine vp_of_r ?_ ?_ <;> omega) (fun q1 q2 q3 q4 q5 q6 q7 q8 => by
                simp only [zz_lt, zz_eq, zl_0, zl_1, zl_2, zl_3, zl_4, zl_5, zl_6, zl_7, w2s, w4s, w1, w3, w5, w6, w7, w8, w9, w10, w11, w12] at q1 q2 q3 q4 q5 q6 q7 q8
                try simp only [w1, w3, w5, w6, w7, w8, w9, w10, w11, w12]
                refine vp_of_r ?_ ?_ <;> omega) (fun q1 q2 q3 q4 q5 q6 q7 q8 q9 => by
                simp only [zz_lt, zz_eq, zl_0, zl_1, zl_2, zl_3, zl_4, zl_5, zl_6, zl_7, w2s, w4s, w1, w3, w5, w6, w7, w8, w9, w10, w11, w12] at q1 q2 q3 q4 q5 q6 q7 q8 q9
                try simp only [w1, w3, w5, w6, w7, w8, w9, w10, w11, w12]
                refine vp_of_r ?_ ?_ <;> omega) (fun q1 q2 q3 q4 q5 q6 q7 q8 q9 q10 => by
                simp only [zz_lt, zz_eq, zl_0, zl_1, zl_2, zl_3, zl_4, zl_5, zl_6, zl_7, w2s, w4s, w1, w3, w5, w6, w7, w8, w9, w10, w11, w12] at q1 q2 q3 q4 q5 q6 q7 q8 q9 q10
                try simp only [w1, w3, w5, w6, w7, w8, w9, w10, w11, w12]
                refine vp_of_r ?_ ?_ <;> omega) (fun _ _ _ _ _ _ _ _ _ _ _ => by rw [w8]; exact vp_of_r (zb_r (s4 _) (by decide)).1 (by have := (zb_r (s4 i1.toNatClampNeg) (by decide)).2; omega)) ?_
              dsimp only [aa_rI, aa_rL]
              have j22 : ¬ (i1 < 0) := (by simp only [zz_lt, zz_eq, zl_0, zl_1, zl_2, zl_3, zl_4, zl_5, zl_6, zl_7, w2s, w4s, w1, w3, w5, w6, w7, w8, w9, w10, w11, w12] <;> omega)
              have j23 : (i1 < (V 105 12)) := (by simp only [zz_lt, zz_eq, zl_0, zl_1, zl_2, zl_3, zl_4, zl_5, zl_6, zl_7, w2s, w4s, w1, w3, w5, w6, w7, w8, w9, w10, w11, w12] <;> omega)
              have j24 : ¬ (i2 = 0) := (by simp only [zz_lt, zz_eq, zl_0, zl_1, zl_2, zl_3, zl_4, zl_5, zl_6, zl_7, w2s, w4s, w1, w3, w5, w6, w7, w8, w9, w10, w11, w12] <;> omega)
              have j25 : ¬ (i2 = 1) := (by simp only [zz_lt, zz_eq, zl_0, zl_1, zl_2, zl_3, zl_4, zl_5, zl_6, zl_7, w2s, w4s, w1, w3, w5, w6, w7, w8, w9, w10, w11, w12] <;> omega)
              have j26 : ¬ (i2 = 2) := (by simp only [zz_lt, zz_eq, zl_0, zl_1, zl_2, zl_3, zl_4, zl_5, zl_6, zl_7, w2s, w4s, w1, w3, w5, w6, w7, w8, w9, w10, w11, w12] <;> omega)
              have j27 : (i2 = 3) := (by simp only [zz_lt, zz_eq, zl_0, zl_1, zl_2, zl_3, zl_4, zl_5, zl_6, zl_7, w2s, w4s, w1, w3, w5, w6, w7, w8, w9, w10, w11, w12] <;> omega)
              have em : va_207 i1 i2 V = ((V 113 ((i1).toNatClampNeg)).toInt64) := by simp only [va_207, if_neg j22, if_pos j23, if_neg j24, if_neg j25, if_neg j26, if_pos j27]
              rw [em]
              have ex : ((V 113 ((i1).toNatClampNeg)).toInt64) = ((V 35 ((i1).toNatClampNeg)).toInt64) := by simp only [w1, w3, w5, w6, w7, w8, w9, w10, w11, w12, qa, qb]
              rw [ex]
              refine hQ _ _ ?_
              exact hI
            · have g21k := g21
              simp only [zz_lt, zz_eq, zl_0, zl_1, zl_2, zl_3, zl_4, zl_5, zl_6, zl_7, w2s, w4s] at g21k
              by_cases g28 : i2 = 4
              · have g28k := g28
                simp only [zz_lt, zz_eq, zl_0, zl_1, zl_2, zl_3, zl_4, zl_5, zl_6, zl_7, w2s, w4s] at g28k
                have ev : va_144 i1 i2 V = ((V 36 ((i1).toNatClampNeg)).toInt64) := by simp only [va_144, va_120, zl_ne, if_true, if_false, if_neg g1, if_neg g3, if_neg g6, if_neg g10, if_neg g15, if_neg g21, if_pos g28]
                rw [ev]
                refine sp_207 (fun q1 q2 q3 => by
                  simp only [zz_lt, zz_eq, zl_0, zl_1, zl_2, zl_3, zl_4, zl_5, zl_6, zl_7, w2s, w4s, w1, w3, w5, w6, w7, w8, w9, w10, w11, w12] at q1 q2 q3
                  try simp only [w1, w3, w5, w6, w7, w8, w9, w10, w11, w12]
                  refine vp_of_r ?_ ?_ <;> omega) (fun q1 q2 q3 q4 => by
                  simp only [zz_lt, zz_eq, zl_0, zl_1, zl_2, zl_3, zl_4, zl_5, zl_6, zl_7, w2s, w4s, w1, w3, w5, w6, w7, w8, w9, w10, w11, w12] at q1 q2 q3 q4
                  try simp only [w1, w3, w5, w6, w7, w8, w9, w10, w11, w12]
                  refine vp_of_r ?_ ?_ <;> omega) (fun q1 q2 q3 q4 q5 => by
                  simp only [zz_lt, zz_eq, zl_0, zl_1, zl_2, zl_3, zl_4, zl_5, zl_6, zl_7, w2s, w4s, w1, w3, w5, w6, w7, w8, w9, w10, w11, w12] at q1 q2 q3 q4 q5
                  try simp only [w1, w3, w5, w6, w7, w8, w9, w10, w11, w12]
                  refine vp_of_r ?_ ?_ <;> omega) (fun q1 q2 q3 q4 q5 q6 => by
                  simp only [zz_lt, zz_eq, zl_0, zl_1, zl_2, zl_3, zl_4, zl_5, zl_6, zl_7, w2s, w4s, w1, w3, w5, w6, w7, w8, w9, w10, w11, w12] at q1 q2 q3 q4 q5 q6
                  try simp only [w1, w3, w5, w6, w7, w8, w9, w10, w11, w12]
                  refine vp_of_r ?_ ?_ <;> omega) (fun q1 q2 q3 q4 q5 q6 q7 => by
                  simp only [zz_lt, zz_eq, zl_0, zl_1, zl_2, zl_3, zl_4, zl_5, zl_6, zl_7, w2s, w4s, w1, w3, w5, w6, w7, w8, w9, w10, w11, w12] at q1 q2 q3 q4 q5 q6 q7
                  try simp only [w1, w3, w5, w6, w7, w8, w9, w10, w11, w12]
                  refine vp_of_r ?_ ?_ <;> omega) (fun q1 q2 q3 q4 q5 q6 q7 q8 => by
                  simp only [zz_lt, zz_eq, zl_0, zl_1, zl_2, zl_3, zl_4, zl_5, zl_6, zl_7, w2s, w4s, w1, w3, w5, w6, w7, w8, w9, w10, w11, w12] at q1 q2 q3 q4 q5 q6 q7 q8
                  try simp only [w1, w3, w5, w6, w7, w8, w9, w10, w11, w12]
                  refine vp_of_r ?_ ?_ <;> omega) (fun q1 q2 q3 q4 q5 q6 q7 q8 q9 => by
                  simp only [zz_lt, zz_eq, zl_0, zl_1, zl_2, zl_3, zl_4, zl_5, zl_6, zl_7, w2s, w4s, w1, w3, w5, w6, w7, w8, w9, w10, w11, w12] at q1 q2 q3 q4 q5 q6 q7 q8 q9
                  try simp only [w1, w3, w5, w6, w7, w8, w9, w10, w11, w12]
                  refine vp_of_r ?_ ?_ <;> omega) (fun q1 q2 q3 q4 q5 q6 q7 q8 q9 q10 => by
                  simp only [zz_lt, zz_eq, zl_0, zl_1, zl_2, zl_3, zl_4, zl_5, zl_6, zl_7, w2s, w4s, w1, w3, w5, w6, w7, w8, w9, w10, w11, w12] at q1 q2 q3 q4 q5 q6 q7 q8 q9 q10
                  try simp only [w1, w3, w5, w6, w7, w8, w9, w10, w11, w12]
                  refine vp_of_r ?_ ?_ <;> omega) (fun _ _ _ _ _ _ _ _ _ _ _ => by rw [w8]; exact vp_of_r (zb_r (s4 _) (by decide)).1 (by have := (zb_r (s4 i1.toNatClampNeg) (by decide)).2; omega)) ?_
                dsimp only [aa_rI, aa_rL]
                have j29 : ¬ (i1 < 0) := (by simp only [zz_lt, zz_eq, zl_0, zl_1, zl_2, zl_3, zl_4, zl_5, zl_6, zl_7, w2s, w4s, w1, w3, w5, w6, w7, w8, w9, w10, w11, w12] <;> omega)
                have j30 : (i1 < (V 105 12)) := (by simp only [zz_lt, zz_eq, zl_0, zl_1, zl_2, zl_3, zl_4, zl_5, zl_6, zl_7, w2s, w4s, w1, w3, w5, w6, w7, w8, w9, w10, w11, w12] <;> omega)
                have j31 : ¬ (i2 = 0) := (by simp only [zz_lt, zz_eq, zl_0, zl_1, zl_2, zl_3, zl_4, zl_5, zl_6, zl_7, w2s, w4s, w1, w3, w5, w6, w7, w8, w9, w10, w11, w12] <;> omega)
                have j32 : ¬ (i2 = 1) := (by simp only [zz_lt, zz_eq, zl_0, zl_1, zl_2, zl_3, zl_4, zl_5, zl_6, zl_7, w2s, w4s, w1, w3, w5, w6, w7, w8, w9, w10, w11, w12] <;> omega)
                have j33 : ¬ (i2 = 2) := (by simp only [zz_lt, zz_eq, zl_0, zl_1, zl_2, zl_3, zl_4, zl_5, zl_6, zl_7, w2s, w4s, w1, w3, w5, w6, w7, w8, w9, w10, w11, w12] <;> omega)
                have j34 : ¬ (i2 = 3) := (by simp only [zz_lt, zz_eq, zl_0, zl_1, zl_2, zl_3, zl_4, zl_5, zl_6, zl_7, w2s, w4s, w1, w3, w5, w6, w7, w8, w9, w10, w11, w12] <;> omega)
                have j35 : (i2 = 4) := (by simp only [zz_lt, zz_eq, zl_0, zl_1, zl_2, zl_3, zl_4, zl_5, zl_6, zl_7, w2s, w4s, w1, w3, w5, w6, w7, w8, w9, w10, w11, w12] <;> omega)
                have em : va_207 i1 i2 V = ((V 114 ((i1).toNatClampNeg)).toInt64) := by simp only [va_207, if_neg j29, if_pos j30, if_neg j31, if_neg j32, if_neg j33, if_neg j34, if_pos j35]
                rw [em]
                have ex : ((V 114 ((i1).toNatClampNeg)).toInt64) = ((V 36 ((i1).toNatClampNeg)).toInt64) := by simp only [w1, w3, w5, w6, w7, w8, w9, w10, w11, w12, qa, qb]
                rw [ex]
                refine hQ _ _ ?_
                exact hI
              · have g28k := g28
                simp only [zz_lt, zz_eq, zl_0, zl_1, zl_2, zl_3, zl_4, zl_5, zl_6, zl_7, w2s, w4s] at g28k
                by_cases g36 : i2 = 5
                · have g36k := g36
                  simp only [zz_lt, zz_eq, zl_0, zl_1, zl_2, zl_3, zl_4, zl_5, zl_6, zl_7, w2s, w4s] at g36k
                  have ev : va_144 i1 i2 V = ((va_126 i1 V).toInt64) := by simp only [va_144, va_120, zl_ne, if_true, if_false, if_neg g1, if_neg g3, if_neg g6, if_neg g10, if_neg g15, if_neg g21, if_neg g28, if_pos g36]
                  rw [ev]
                  refine sp_207 (fun q1 q2 q3 => by
                    simp only [zz_lt, zz_eq, zl_0, zl_1, zl_2, zl_3, zl_4, zl_5, zl_6, zl_7, w2s, w4s, w1, w3, w5, w6, w7, w8, w9, w10, w11, w12] at q1 q2 q3
                    try simp only [w1, w3, w5, w6, w7, w8, w9, w10, w11, w12]
                    refine vp_of_r ?_ ?_ <;> omega) (fun q1 q2 q3 q4 => by
                    simp only [zz_lt, zz_eq, zl_0, zl_1, zl_2, zl_3, zl_4, zl_5, zl_6, zl_7, w2s, w4s, w1, w3, w5, w6, w7, w8, w9, w10, w11, w12] at q1 q2 q3 q4
                    try simp only [w1, w3, w5, w6, w7, w8, w9, w10, w11, w12]
                    refine vp_of_r ?_ ?_ <;> omega) (fun q1 q2 q3 q4 q5 => by
                    simp only [zz_lt, zz_eq, zl_0, zl_1, zl_2, zl_3, zl_4, zl_5, zl_6, zl_7, w2s, w4s, w1, w3, w5, w6, w7, w8, w9, w10, w11, w12] at q1 q2 q3 q4 q5
                    try simp only [w1, w3, w5, w6, w7, w8, w9, w10, w11, w12]
                    refine vp_of_r ?_ ?_ <;> omega) (fun q1 q2 q3 q4 q5 q6 => by
                    simp only [zz_lt, zz_eq, zl_0, zl_1, zl_2, zl_3, zl_4, zl_5, zl_6, zl_7, w2s, w4s, w1, w3, w5, w6, w7, w8, w9, w10, w11, w12] at q1 q2 q3 q4 q5 q6
                    try simp only [w1, w3, w5, w6, w7, w8, w9, w10, w11, w12]
                    refine vp_of_r ?_ ?_ <;> omega) (fun q1 q2 q3 q4 q5 q6 q7 => by
                    simp only [zz_lt, zz_eq, zl_0, zl_1, zl_2, zl_3, zl_4, zl_5, zl_6, zl_7, w2s, w4s, w1, w3, w5, w6, w7, w8, w9, w10, w11, w12] at q1 q2 q3 q4 q5 q6 q7
                    try simp only [w1, w3, w5, w6, w7, w8, w9, w10, w11, w12]
                    refine vp_of_r ?_ ?_ <;> omega) (fun q1 q2 q3 q4 q5 q6 q7 q8 => by
                    simp only [zz_lt, zz_eq, zl_0, zl_1, zl_2, zl_3, zl_4, zl_5, zl_6, zl_7, w2s, w4s, w1, w3, w5, w6, w7, w8, w9, w10, w11, w12] at q1 q2 q3 q4 q5 q6 q7 q8
                    try simp only [w1, w3, w5, w6, w7, w8, w9, w10, w11, w12]
                    refine vp_of_r ?_ ?_ <;> omega) (fun q1 q2 q3 q4 q5 q6 q7 q8 q9 => by
                    simp only [zz_lt, zz_eq, zl_0, zl_1, zl_2, zl_3, zl_4, zl_5, zl_6, zl_7, w2s, w4s, w1, w3, w5, w6, w7, w8, w9, w10, w11, w12] at q1 q2 q3 q4 q5 q6 q7 q8 q9
                    try simp only [w1, w3, w5, w6, w7, w8, w9, w10, w11, w12]
                    refine vp_of_r ?_ ?_ <;> omega) (fun q1 q2 q3 q4 q5 q6 q7 q8 q9 q10 => by
                    simp only [zz_lt, zz_eq, zl_0, zl_1, zl_2, zl_3, zl_4, zl_5, zl_6, zl_7, w2s, w4s, w1, w3, w5, w6, w7, w8, w9, w10, w11, w12] at q1 q2 q3 q4 q5 q6 q7 q8 q9 q10
                    try simp only [w1, w3, w5, w6, w7, w8, w9, w10, w11, w12]
                    refine vp_of_r ?_ ?_ <;> omega) (fun _ _ _ _ _ _ _ _ _ _ _ => by rw [w8]; exact vp_of_r (zb_r (s4 _) (by decide)).1 (by have := (zb_r (s4 i1.toNatClampNeg) (by decide)).2; omega)) ?_
                  dsimp only [aa_rI, aa_rL]
                  have j37 : ¬ (i1 < 0) := (by simp only [zz_lt, zz_eq, zl_0, zl_1, zl_2, zl_3, zl_4, zl_5, zl_6, zl_7, w2s, w4s, w1, w3, w5, w6, w7, w8, w9, w10, w11, w12] <;> omega)
                  have j38 : (i1 < (V 105 12)) := (by simp only [zz_lt, zz_eq, zl_0, zl_1, zl_2, zl_3, zl_4, zl_5, zl_6, zl_7, w2s, w4s, w1, w3, w5, w6, w7, w8, w9, w10, w11, w12] <;> omega)
                  have j39 : ¬ (i2 = 0) := (by simp only [zz_lt, zz_eq, zl_0, zl_1, zl_2, zl_3, zl_4, zl_5, zl_6, zl_7, w2s, w4s, w1, w3, w5, w6, w7, w8, w9, w10, w11, w12] <;> omega)
                  have j40 : ¬ (i2 = 1) := (by simp only [zz_lt, zz_eq, zl_0, zl_1, zl_2, zl_3, zl_4, zl_5, zl_6, zl_7, w2s, w4s, w1, w3, w5, w6, w7, w8, w9, w10, w11, w12] <;> omega)
                  have j41 : ¬ (i2 = 2) := (by simp only [zz_lt, zz_eq, zl_0, zl_1, zl_2, zl_3, zl_4, zl_5, zl_6, zl_7, w2s, w4s, w1, w3, w5, w6, w7, w8, w9, w10, w11, w12] <;> omega)
                  have j42 : ¬ (i2 = 3) := (by simp only [zz_lt, zz_eq, zl_0, zl_1, zl_2, zl_3, zl_4, zl_5, zl_6, zl_7, w2s, w4s, w1, w3, w5, w6, w7, w8, w9, w10, w11, w12] <;> omega)
                  have j43 : ¬ (i2 = 4) := (by simp only [zz_lt, zz_eq, zl_0, zl_1, zl_2, zl_3, zl_4, zl_5, zl_6, zl_7, w2s, w4s, w1, w3, w5, w6, w7, w8, w9, w10, w11, w12] <;> omega)
                  have j44 : (i2 = 5) := (by simp only [zz_lt, zz_eq, zl_0, zl_1, zl_2, zl_3, zl_4, zl_5, zl_6, zl_7, w2s, w4s, w1, w3, w5, w6, w7, w8, w9, w10, w11, w12] <;> omega)
                  have em : va_207 i1 i2 V = ((va_204 i1 V).toInt64) := by simp only [va_207, if_neg j37, if_pos j38, if_neg j39, if_neg j40, if_neg j41, if_neg j42, if_neg j43, if_pos j44]
                  rw [em]
                  have ex : ((va_204 i1 V).toInt64) = ((va_126 i1 V).toInt64) := by simp only [w1, w3, w5, w6, w7, w8, w9, w10, w11, w12, qa, qb]
                  rw [ex]
                  refine hQ _ _ ?_
                  exact hI
                · have g36k := g36
                  simp only [zz_lt, zz_eq, zl_0, zl_1, zl_2, zl_3, zl_4, zl_5, zl_6, zl_7, w2s, w4s] at g36k
                  by_cases g45 : i2 = 6
                  · have g45k := g45
                    simp only [zz_lt, zz_eq, zl_0, zl_1, zl_2, zl_3, zl_4, zl_5, zl_6, zl_7, w2s, w4s] at g45k
                    have ev : va_144 i1 i2 V = ((va_125 i1 V).toInt64) := by simp only [va_144, va_120, zl_ne, if_true, if_false, if_neg g1, if_neg g3, if_neg g6, if_neg g10, if_neg g15, if_neg g21, if_neg g28, if_neg g36, if_pos g45]
                    rw [ev]
                    refine sp_207 (fun q1 q2 q3 => by
                      simp only [zz_lt, zz_eq, zl_0, zl_1, zl_2, zl_3, zl_4, zl_5, zl_6, zl_7, w2s, w4s, w1, w3, w5, w6, w7, w8, w9, w10, w11, w12] at q1 q2 q3
                      try simp only [w1, w3, w5, w6, w7, w8, w9, w10, w11, w12]
                      refine vp_of_r ?_ ?_ <;> omega) (fun q1 q2 q3 q4 => by
                      simp only [zz_lt, zz_eq, zl_0, zl_1, zl_2, zl_3, zl_4, zl_5, zl_6, zl_7, w2s, w4s, w1, w3, w5, w6, w7, w8, w9, w10, w11, w12] at q1 q2 q3 q4
                      try simp only [w1, w3, w5, w6, w7, w8, w9, w10, w11, w12]
                      refine vp_of_r ?_ ?_ <;> omega) (fun q1 q2 q3 q4 q5 => by
                      simp only [zz_lt, zz_eq, zl_0, zl_1, zl_2, zl_3, zl_4, zl_5, zl_6, zl_7, w2s, w4s, w1, w3, w5, w6, w7, w8, w9, w10, w11, w12] at q1 q2 q3 q4 q5
                      try simp only [w1, w3, w5, w6, w7, w8, w9, w10, w11, w12]
                      refine vp_of_r ?_ ?_ <;> omega) (fun q1 q2 q3 q4 q5 q6 => by
                      simp only [zz_lt, zz_eq, zl_0, zl_1, zl_2, zl_3, zl_4, zl_5, zl_6, zl_7, w2s, w4s, w1, w3, w5, w6, w7, w8, w9, w10, w11, w12] at q1 q2 q3 q4 q5 q6
                      try simp only [w1, w3, w5, w6, w7, w8, w9, w10, w11, w12]
                      refine vp_of_r ?_ ?_ <;> omega) (fun q1 q2 q3 q4 q5 q6 q7 => by
                      simp only [zz_lt, zz_eq, zl_0, zl_1, zl_2, zl_3, zl_4, zl_5, zl_6, zl_7, w2s, w4s, w1, w3, w5, w6, w7, w8, w9, w10, w11, w12] at q1 q2 q3 q4 q5 q6 q7
                      try simp only [w1, w3, w5, w6, w7, w8, w9, w10, w11, w12]
                      refine vp_of_r ?_ ?_ <;> omega) (fun q1 q2 q3 q4 q5 q6 q7 q8 => by
                      simp only [zz_lt, zz_eq, zl_0, zl_1, zl_2, zl_3, zl_4, zl_5, zl_6, zl_7, w2s, w4s, w1, w3, w5, w6, w7, w8, w9, w10, w11, w12] at q1 q2 q3 q4 q5 q6 q7 q8
                      try simp only [w1, w3, w5, w6, w7, w8, w9, w10, w11, w12]
                      refine vp_of_r ?_ ?_ <;> omega) (fun q1 q2 q3 q4 q5 q6 q7 q8 q9 => by
                      simp only [zz_lt, zz_eq, zl_0, zl_1, zl_2, zl_3, zl_4, zl_5, zl_6, zl_7, w2s, w4s, w1, w3, w5, w6, w7, w8, w9, w10, w11, w12] at q1 q2 q3 q4 q5 q6 q7 q8 q9
                      try simp only [w1, w3, w5, w6, w7, w8, w9, w10, w11, w12]
                      refine vp_of_r ?_ ?_ <;> omega) (fun q1 q2 q3 q4 q5 q6 q7 q8 q9 q10 => by
                      simp only [zz_lt, zz_eq, zl_0, zl_1, zl_2, zl_3, zl_4, zl_5, zl_6, zl_7, w2s, w4s, w1, w3, w5, w6, w7, w8, w9, w10, w11, w12] at q1 q2 q3 q4 q5 q6 q7 q8 q9 q10
                      try simp only [w1, w3, w5, w6, w7, w8, w9, w10, w11, w12]
                      refine vp_of_r ?_ ?_ <;> omega) (fun _ _ _ _ _ _ _ _ _ _ _ => by rw [w8]; exact vp_of_r (zb_r (s4 _) (by decide)).1 (by have := (zb_r (s4 i1.toNatClampNeg) (by decide)).2; omega)) ?_
                    dsimp only [aa_rI, aa_rL]
                    have j46 : ¬ (i1 < 0) := (by simp only [zz_lt, zz_eq, zl_0, zl_1, zl_2, zl_3, zl_4, zl_5, zl_6, zl_7, w2s, w4s, w1, w3, w5, w6, w7, w8, w9, w10, w11, w12] <;> omega)
                    have j47 : (i1 < (V 105 12)) := (by simp only [zz_lt, zz_eq, zl_0, zl_1, zl_2, zl_3, zl_4, zl_5, zl_6, zl_7, w2s, w4s, w1, w3, w5, w6, w7, w8, w9, w10, w11, w12] <;> omega)
                    have j48 : ¬ (i2 = 0) := (by simp only [zz_lt, zz_eq, zl_0, zl_1, zl_2, zl_3, zl_4, zl_5, zl_6, zl_7, w2s, w4s, w1, w3, w5, w6, w7, w8, w9, w10, w11, w12] <;> omega)
                    have j49 : ¬ (i2 = 1) := (by simp only [zz_lt, zz_eq, zl_0, zl_1, zl_2, zl_3, zl_4, zl_5, zl_6, zl_7, w2s, w4s, w1, w3, w5, w6, w7, w8, w9, w10, w11, w12] <;> omega)
                    have j50 : ¬ (i2 = 2) := (by simp only [zz_lt, zz_eq, zl_0, zl_1, zl_2, zl_3, zl_4, zl_5, zl_6, zl_7, w2s, w4s, w1, w3, w5, w6, w7, w8, w9, w10, w11, w12] <;> omega)
                    have j51 : ¬ (i2 = 3) := (by simp only [zz_lt, zz_eq, zl_0, zl_1, zl_2, zl_3, zl_4, zl_5, zl_6, zl_7, w2s, w4s, w1, w3, w5, w6, w7, w8, w9, w10, w11, w12] <;> omega)
                    have j52 : ¬ (i2 = 4) := (by simp only [zz_lt, zz_eq, zl_0, zl_1, zl_2, zl_3, zl_4, zl_5, zl_6, zl_7, w2s, w4s, w1, w3, w5, w6, w7, w8, w9, w10, w11, w12] <;> omega)
                    have j53 : ¬ (i2 = 5) := (by simp only [zz_lt, zz_eq, zl_0, zl_1, zl_2, zl_3, zl_4, zl_5, zl_6, zl_7, w2s, w4s, w1, w3, w5, w6, w7, w8, w9, w10, w11, w12] <;> omega)
                    have j54 : (i2 = 6) := (by simp only [zz_lt, zz_eq, zl_0, zl_1, zl_2, zl_3, zl_4, zl_5, zl_6, zl_7, w2s, w4s, w1, w3, w5, w6, w7, w8, w9, w10, w11, w12] <;> omega)
                    have em : va_207 i1 i2 V = ((va_205 i1 V).toInt64) := by simp only [va_207, if_neg j46, if_pos j47, if_neg j48, if_neg j49, if_neg j50, if_neg j51, if_neg j52, if_neg j53, if_pos j54]
                    rw [em]
                    have ex : ((va_205 i1 V).toInt64) = ((va_125 i1 V).toInt64) := by simp only [w1, w3, w5, w6, w7, w8, w9, w10, w11, w12, qa, qb]
                    rw [ex]
                    refine hQ _ _ ?_
                    exact hI
                  · have g45k := g45
                    simp only [zz_lt, zz_eq, zl_0, zl_1, zl_2, zl_3, zl_4, zl_5, zl_6, zl_7, w2s, w4s] at g45k
                    by_cases g55 : i2 = 7
                    · have g55k := g55
                      simp only [zz_lt, zz_eq, zl_0, zl_1, zl_2, zl_3, zl_4, zl_5, zl_6, zl_7, w2s, w4s] at g55k
                      by_cases g56 : (V 36 ((i1).toNatClampNeg)) = 0
                      · have g56k := g56
                        simp only [zz_lt, zz_eq, zl_0, zl_1, zl_2, zl_3, zl_4, zl_5, zl_6, zl_7, w2s, w4s] at g56k
                        have ev : va_144 i1 i2 V = ((((va_126 i1 V) * (V 31 (((V 33 ((i1).toNatClampNeg))).toNatClampNeg))) - (va_125 i1 V)).toInt64) := by simp only [va_144, va_120, zl_ne, if_true, if_false, if_neg g1, if_neg g3, if_neg g6, if_neg g10, if_neg g15, if_neg g21, if_neg g28, if_neg g36, if_neg g45, if_pos g55, if_pos g56]
                        rw [ev]
                        refine sp_207 (fun q1 q2 q3 => by
                          simp only [zz_lt, zz_eq, zl_0, zl_1, zl_2, zl_3, zl_4, zl_5, zl_6, zl_7, w2s, w4s, w1, w3, w5, w6, w7, w8, w9, w10, w11, w12] at q1 q2 q3
                          try simp only [w1, w3, w5, w6, w7, w8, w9, w10, w11, w12]
                          refine vp_of_r ?_ ?_ <;> omega) (fun q1 q2 q3 q4 => by
                          simp only [zz_lt, zz_eq, zl_0, zl_1, zl_2, zl_3, zl_4, zl_5, zl_6, zl_7, w2s, w4s, w1, w3, w5, w6, w7, w8, w9, w10, w11, w12] at q1 q2 q3 q4
                          try simp only [w1, w3, w5, w6, w7, w8, w9, w10, w11, w12]
                          refine vp_of_r ?_ ?_ <;> omega) (fun q1 q2 q3 q4 q5 => by
                          simp only [zz_lt, zz_eq, zl_0, zl_1, zl_2, zl_3, zl_4, zl_5, zl_6, zl_7, w2s, w4s, w1, w3, w5, w6, w7, w8, w9, w10, w11, w12] at q1 q2 q3 q4 q5
                          try simp only [w1, w3, w5, w6, w7, w8, w9, w10, w11, w12]
                          refine vp_of_r ?_ ?_ <;> omega) (fun q1 q2 q3 q4 q5 q6 => by
                          simp only [zz_lt, zz_eq, zl_0, zl_1, zl_2, zl_3, zl_4, zl_5, zl_6, zl_7, w2s, w4s, w1, w3, w5, w6, w7, w8, w9, w10, w11, w12] at q1 q2 q3 q4 q5 q6
                          try simp only [w1, w3, w5, w6, w7, w8, w9, w10, w11, w12]
                          refine vp_of_r ?_ ?_ <;> omega) (fun q1 q2 q3 q4 q5 q6 q7 => by
                          simp only [zz_lt, zz_eq, zl_0, zl_1, zl_2, zl_3, zl_4, zl_5, zl_6, zl_7, w2s, w4s, w1, w3, w5, w6, w7, w8, w9, w10, w11, w12] at q1 q2 q3 q4 q5 q6 q7
                          try simp only [w1, w3, w5, w6, w7, w8, w9, w10, w11, w12]
                          refine vp_of_r ?_ ?_ <;> omega) (fun q1 q2 q3 q4 q5 q6 q7 q8 => by
                          simp only [zz_lt, zz_eq, zl_0, zl_1, zl_2, zl_3, zl_4, zl_5, zl_6, zl_7, w2s, w4s, w1, w3, w5, w6, w7, w8, w9, w10, w11, w12] at q1 q2 q3 q4 q5 q6 q7 q8
                          try simp only [w1, w3, w5, w6, w7, w8, w9, w10, w11, w12]
                          refine vp_of_r ?_ ?_ <;> omega) (fun q1 q2 q3 q4 q5 q6 q7 q8 q9 => by
                          simp only [zz_lt, zz_eq, zl_0, zl_1, zl_2, zl_3, zl_4, zl_5, zl_6, zl_7, w2s, w4s, w1, w3, w5, w6, w7, w8, w9, w10, w11, w12] at q1 q2 q3 q4 q5 q6 q7 q8 q9
                          try simp only [w1, w3, w5, w6, w7, w8, w9, w10, w11, w12]
                          refine vp_of_r ?_ ?_ <;> omega) (fun q1 q2 q3 q4 q5 q6 q7 q8 q9 q10 => by
                          simp only [zz_lt, zz_eq, zl_0, zl_1, zl_2, zl_3, zl_4, zl_5, zl_6, zl_7, w2s, w4s, w1, w3, w5, w6, w7, w8, w9, w10, w11, w12] at q1 q2 q3 q4 q5 q6 q7 q8 q9 q10
                          try simp only [w1, w3, w5, w6, w7, w8, w9, w10, w11, w12]
                          refine vp_of_r ?_ ?_ <;> omega) (fun _ _ _ _ _ _ _ _ _ _ _ => by rw [w8]; exact vp_of_r (zb_r (s4 _) (by decide)).1 (by have := (zb_r (s4 i1.toNatClampNeg) (by decide)).2; omega)) ?_
                        dsimp only [aa_rI, aa_rL]
                        have j57 : ¬ (i1 < 0) := (by simp only [zz_lt, zz_eq, zl_0, zl_1, zl_2, zl_3, zl_4, zl_5, zl_6, zl_7, w2s, w4s, w1, w3, w5, w6, w7, w8, w9, w10, w11, w12] <;> omega)
                        have j58 : (i1 < (V 105 12)) := (by simp only [zz_lt, zz_eq, zl_0, zl_1, zl_2, zl_3, zl_4, zl_5, zl_6, zl_7, w2s, w4s, w1, w3, w5, w6, w7, w8, w9, w10, w11, w12] <;> omega)
                        have j59 : ¬ (i2 = 0) := (by simp only [zz_lt, zz_eq, zl_0, zl_1, zl_2, zl_3, zl_4, zl_5, zl_6, zl_7, w2s, w4s, w1, w3, w5, w6, w7, w8, w9, w10, w11, w12] <;> omega)
                        have j60 : ¬ (i2 = 1) := (by simp only [zz_lt, zz_eq, zl_0, zl_1, zl_2, zl_3, zl_4, zl_5, zl_6, zl_7, w2s, w4s, w1, w3, w5, w6, w7, w8, w9, w10, w11, w12] <;> omega)
                        have j61 : ¬ (i2 = 2) := (by simp only [zz_lt, zz_eq, zl_0, zl_1, zl_2, zl_3, zl_4, zl_5, zl_6, zl_7, w2s, w4s, w1, w3, w5, w6, w7, w8, w9, w10, w11, w12] <;> omega)
                        have j62 : ¬ (i2 = 3) := (by simp only [zz_lt, zz_eq, zl_0, zl_1, zl_2, zl_3, zl_4, zl_5, zl_6, zl_7, w2s, w4s, w1, w3, w5, w6, w7, w8, w9, w10, w11, w12] <;> omega)
                        have j63 : ¬ (i2 = 4) := (by simp only [zz_lt, zz_eq, zl_0, zl_1, zl_2, zl_3, zl_4, zl_5, zl_6, zl_7, w2s, w4s, w1, w3, w5, w6, w7, w8, w9, w10, w11, w12] <;> omega)
                        have j64 : ¬ (i2 = 5) := (by simp only [zz_lt, zz_eq, zl_0, zl_1, zl_2, zl_3, zl_4, zl_5, zl_6, zl_7, w2s, w4s, w1, w3, w5, w6, w7, w8, w9, w10, w11, w12] <;> omega)
                        have j65 : ¬ (i2 = 6) := (by simp only [zz_lt, zz_eq, zl_0, zl_1, zl_2, zl_3, zl_4, zl_5, zl_6, zl_7, w2s, w4s, w1, w3, w5, w6, w7, w8, w9, w10, w11, w12] <;> omega)
                        have j66 : (i2 = 7) := (by simp only [zz_lt, zz_eq, zl_0, zl_1, zl_2, zl_3, zl_4, zl_5, zl_6, zl_7, w2s, w4s, w1, w3, w5, w6, w7, w8, w9, w10, w11, w12] <;> omega)
                        have j67 : ((V 114 ((i1).toNatClampNeg)) = 0) := (by simp only [zz_lt, zz_eq, zl_0, zl_1, zl_2, zl_3, zl_4, zl_5, zl_6, zl_7, w2s, w4s, w1, w3, w5, w6, w7, w8, w9, w10, w11, w12] <;> omega)
                        have em : va_207 i1 i2 V = ((((va_204 i1 V) * (V 109 (((V 111 ((i1).toNatClampNeg))).toNatClampNeg))) - (va_205 i1 V)).toInt64) := by simp only [va_207, if_neg j57, if_pos j58, if_neg j59, if_neg j60, if_neg j61, if_neg j62, if_neg j63, if_neg j64, if_neg j65, if_pos j66, if_pos j67]
                        rw [em]
                        have ex : ((((va_204 i1 V) * (V 109 (((V 111 ((i1).toNatClampNeg))).toNatClampNeg))) - (va_205 i1 V)).toInt64) = ((((va_126 i1 V) * (V 31 (((V 33 ((i1).toNatClampNeg))).toNatClampNeg))) - (va_125 i1 V)).toInt64) := by simp only [w1, w3, w5, w6, w7, w8, w9, w10, w11, w12, qa, qb]
                        rw [ex]
                        refine hQ _ _ ?_
                        exact hI
                      · have g56k := g56
                        simp only [zz_lt, zz_eq, zl_0, zl_1, zl_2, zl_3, zl_4, zl_5, zl_6, zl_7, w2s, w4s] at g56k
                        have ev : va_144 i1 i2 V = (((0 : Int32) - (va_125 i1 V)).toInt64) := by simp only [va_144, va_120, zl_ne, if_true, if_false, if_neg g1, if_neg g3, if_neg g6, if_neg g10, if_neg g15, if_neg g21, if_neg g28, if_neg g36, if_neg g45, if_pos g55, if_neg g56]
                        rw [ev]
                        refine sp_207 (fun q1 q2 q3 => by
                          simp only [zz_lt, zz_eq, zl_0, zl_1, zl_2, zl_3, zl_4, zl_5, zl_6, zl_7, w2s, w4s, w1, w3, w5, w6, w7, w8, w9, w10, w11, w12] at q1 q2 q3
                          try simp only [w1, w3, w5, w6, w7, w8, w9, w10, w11, w12]
                          refine vp_of_r ?_ ?_ <;> omega) (fun q1 q2 q3 q4 => by
                          simp only [zz_lt, zz_eq, zl_0, zl_1, zl_2, zl_3, zl_4, zl_5, zl_6, zl_7, w2s, w4s, w1, w3, w5, w6, w7, w8, w9, w10, w11, w12] at q1 q2 q3 q4
                          try simp only [w1, w3, w5, w6, w7, w8, w9, w10, w11, w12]
                          refine vp_of_r ?_ ?_ <;> omega) (fun q1 q2 q3 q4 q5 => by
                          simp only [zz_lt, zz_eq, zl_0, zl_1, zl_2, zl_3, zl_4, zl_5, zl_6, zl_7, w2s, w4s, w1, w3, w5, w6, w7, w8, w9, w10, w11, w12] at q1 q2 q3 q4 q5
                          try simp only [w1, w3, w5, w6, w7, w8, w9, w10, w11, w12]
                          refine vp_of_r ?_ ?_ <;> omega) (fun q1 q2 q3 q4 q5 q6 => by
                          simp only [zz_lt, zz_eq, zl_0, zl_1, zl_2, zl_3, zl_4, zl_5, zl_6, zl_7, w2s, w4s, w1, w3, w5, w6, w7, w8, w9, w10, w11, w12] at q1 q2 q3 q4 q5 q6
                          try simp only [w1, w3, w5, w6, w7, w8, w9, w10, w11, w12]
                          refine vp_of_r ?_ ?_ <;> omega) (fun q1 q2 q3 q4 q5 q6 q7 => by
                          simp only [zz_lt, zz_eq, zl_0, zl_1, zl_2, zl_3, zl_4, zl_5, zl_6, zl_7, w2s, w4s, w1, w3, w5, w6, w7, w8, w9, w10, w11, w12] at q1 q2 q3 q4 q5 q6 q7
                          try simp only [w1, w3, w5, w6, w7, w8, w9, w10, w11, w12]
                          refine vp_of_r ?_ ?_ <;> omega) (fun q1 q2 q3 q4 q5 q6 q7 q8 => by
                          simp only [zz_lt, zz_eq, zl_0, zl_1, zl_2, zl_3, zl_4, zl_5, zl_6, zl_7, w2s, w4s, w1, w3, w5, w6, w7, w8, w9, w10, w11, w12] at q1 q2 q3 q4 q5 q6 q7 q8
                          try simp only [w1, w3, w5, w6, w7, w8, w9, w10, w11, w12]
                          refine vp_of_r ?_ ?_ <;> omega) (fun q1 q2 q3 q4 q5 q6 q7 q8 q9 => by
                          simp only [zz_lt, zz_eq, zl_0, zl_1, zl_2, zl_3, zl_4, zl_5, zl_6, zl_7, w2s, w4s, w1, w3, w5, w6, w7, w8, w9, w10, w11, w12] at q1 q2 q3 q4 q5 q6 q7 q8 q9
                          try simp only [w1, w3, w5, w6, w7, w8, w9, w10, w11, w12]
                          refine vp_of_r ?_ ?_ <;> omega) (fun q1 q2 q3 q4 q5 q6 q7 q8 q9 q10 => by
                          simp only [zz_lt, zz_eq, zl_0, zl_1, zl_2, zl_3, zl_4, zl_5, zl_6, zl_7, w2s, w4s, w1, w3, w5, w6, w7, w8, w9, w10, w11, w12] at q1 q2 q3 q4 q5 q6 q7 q8 q9 q10
                          try simp only [w1, w3, w5, w6, w7, w8, w9, w10, w11, w12]
                          refine vp_of_r ?_ ?_ <;> omega) (fun _ _ _ _ _ _ _ _ _ _ _ => by rw [w8]; exact vp_of_r (zb_r (s4 _) (by decide)).1 (by have := (zb_r (s4 i1.toNatClampNeg) (by decide)).2; omega)) ?_
                        dsimp only [aa_rI, aa_rL]
                        have j68 : ¬ (i1 < 0) := (by simp only [zz_lt, zz_eq, zl_0, zl_1, zl_2, zl_3, zl_4, zl_5, zl_6, zl_7, w2s, w4s, w1, w3, w5, w6, w7, w8, w9, w10, w11, w12] <;> omega)
                        have j69 : (i1 < (V 105 12)) := (by simp only [zz_lt, zz_eq, zl_0, zl_1, zl_2, zl_3, zl_4, zl_5, zl_6, zl_7, w2s, w4s, w1, w3, w5, w6, w7, w8, w9, w10, w11, w12] <;> omega)
                        have j70 : ¬ (i2 = 0) := (by simp only [zz_lt, zz_eq, zl_0, zl_1, zl_2, zl_3, zl_4, zl_5, zl_6, zl_7, w2s, w4s, w1, w3, w5, w6, w7, w8, w9, w10, w11, w12] <;> omega)
                        have j71 : ¬ (i2 = 1) := (by simp only [zz_lt, zz_eq, zl_0, zl_1, zl_2, zl_3, zl_4, zl_5, zl_6, zl_7, w2s, w4s, w1, w3, w5, w6, w7, w8, w9, w10, w11, w12] <;> omega)
                        have j72 : ¬ (i2 = 2) := (by simp only [zz_lt, zz_eq, zl_0, zl_1, zl_2, zl_3, zl_4, zl_5, zl_6, zl_7, w2s, w4s, w1, w3, w5, w6, w7, w8, w9, w10, w11, w12] <;> omega)
                        have j73 : ¬ (i2 = 3) := (by simp only [zz_lt, zz_eq, zl_0, zl_1, zl_2, zl_3, zl_4, zl_5, zl_6, zl_7, w2s, w4s, w1, w3, w5, w6, w7, w8, w9, w10, w11, w12] <;> omega)
                        have j74 : ¬ (i2 = 4) := (by simp only [zz_lt, zz_eq, zl_0, zl_1, zl_2, zl_3, zl_4, zl_5, zl_6, zl_7, w2s, w4s, w1, w3, w5, w6, w7, w8, w9, w10, w11, w12] <;> omega)
                        have j75 : ¬ (i2 = 5) := (by simp only [zz_lt, zz_eq, zl_0, zl_1, zl_2, zl_3, zl_4, zl_5, zl_6, zl_7, w2s, w4s, w1, w3, w5, w6, w7, w8, w9, w10, w11, w12] <;> omega)
                        have j76 : ¬ (i2 = 6) := (by simp only [zz_lt, zz_eq, zl_0, zl_1, zl_2, zl_3, zl_4, zl_5, zl_6, zl_7, w2s, w4s, w1, w3, w5, w6, w7, w8, w9, w10, w11, w12] <;> omega)
                        have j77 : (i2 = 7) := (by simp only [zz_lt, zz_eq, zl_0, zl_1, zl_2, zl_3, zl_4, zl_5, zl_6, zl_7, w2s, w4s, w1, w3, w5, w6, w7, w8, w9, w10, w11, w12] <;> omega)
                        have j78 : ¬ ((V 114 ((i1).toNatClampNeg)) = 0) := (by simp only [zz_lt, zz_eq, zl_0, zl_1, zl_2, zl_3, zl_4, zl_5, zl_6, zl_7, w2s, w4s, w1, w3, w5, w6, w7, w8, w9, w10, w11, w12] <;> omega)
                        have em : va_207 i1 i2 V = (((0 : Int32) - (va_205 i1 V)).toInt64) := by simp only [va_207, if_neg j68, if_pos j69, if_neg j70, if_neg j71, if_neg j72, if_neg j73, if_neg j74, if_neg j75, if_neg j76, if_pos j77, if_neg j78]
                        rw [em]
                        have ex : (((0 : Int32) - (va_205 i1 V)).toInt64) = (((0 : Int32) - (va_125 i1 V)).toInt64) := by simp only [w1, w3, w5, w6, w7, w8, w9, w10, w11, w12, qa, qb]
                        rw [ex]
                        refine hQ _ _ ?_
                        exact hI
                    · have g55k := g55
                      simp only [zz_lt, zz_eq, zl_0, zl_1, zl_2, zl_3, zl_4, zl_5, zl_6, zl_7, w2s, w4s] at g55k
                      have ev : va_144 i1 i2 V = (-4611686018427387904 : Int64) := by simp only [va_144, va_120, zl_ne, if_true, if_false, if_neg g1, if_neg g3, if_neg g6, if_neg g10, if_neg g15, if_neg g21, if_neg g28, if_neg g36, if_neg g45, if_neg g55]
                      rw [ev]
                      refine sp_207 (fun q1 q2 q3 => by
                        simp only [zz_lt, zz_eq, zl_0, zl_1, zl_2, zl_3, zl_4, zl_5, zl_6, zl_7, w2s, w4s, w1, w3, w5, w6, w7, w8, w9, w10, w11, w12] at q1 q2 q3
                        try simp only [w1, w3, w5, w6, w7, w8, w9, w10, w11, w12]
                        refine vp_of_r ?_ ?_ <;> omega) (fun q1 q2 q3 q4 => by
                        simp only [zz_lt, zz_eq, zl_0, zl_1, zl_2, zl_3, zl_4, zl_5, zl_6, zl_7, w2s, w4s, w1, w3, w5, w6, w7, w8, w9, w10, w11, w12] at q1 q2 q3 q4
                        try simp only [w1, w3, w5, w6, w7, w8, w9, w10, w11, w12]
                        refine vp_of_r ?_ ?_ <;> omega) (fun q1 q2 q3 q4 q5 => by
                        simp only [zz_lt, zz_eq, zl_0, zl_1, zl_2, zl_3, zl_4, zl_5, zl_6, zl_7, w2s, w4s, w1, w3, w5, w6, w7, w8, w9, w10, w11, w12] at q1 q2 q3 q4 q5
                        try simp only [w1, w3, w5, w6, w7, w8, w9, w10, w11, w12]
                        refine vp_of_r ?_ ?_ <;> omega) (fun q1 q2 q3 q4 q5 q6 => by
                        simp only [zz_lt, zz_eq, zl_0, zl_1, zl_2, zl_3, zl_4, zl_5, zl_6, zl_7, w2s, w4s, w1, w3, w5, w6, w7, w8, w9, w10, w11, w12] at q1 q2 q3 q4 q5 q6
                        try simp only [w1, w3, w5, w6, w7, w8, w9, w10, w11, w12]
                        refine vp_of_r ?_ ?_ <;> omega) (fun q1 q2 q3 q4 q5 q6 q7 => by
                        simp only [zz_lt, zz_eq, zl_0, zl_1, zl_2, zl_3, zl_4, zl_5, zl_6, zl_7, w2s, w4s, w1, w3, w5, w6, w7, w8, w9, w10, w11, w12] at q1 q2 q3 q4 q5 q6 q7
                        try simp only [w1, w3, w5, w6, w7, w8, w9, w10, w11, w12]
                        refine vp_of_r ?_ ?_ <;> omega) (fun q1 q2 q3 q4 q5 q6 q7 q8 => by
                        simp only [zz_lt, zz_eq, zl_0, zl_1, zl_2, zl_3, zl_4, zl_5, zl_6, zl_7, w2s, w4s, w1, w3, w5, w6, w7, w8, w9, w10, w11, w12] at q1 q2 q3 q4 q5 q6 q7 q8
                        try simp only [w1, w3, w5, w6, w7, w8, w9, w10, w11, w12]
                        refine vp_of_r ?_ ?_ <;> omega) (fun q1 q2 q3 q4 q5 q6 q7 q8 q9 => by
                        simp only [zz_lt, zz_eq, zl_0, zl_1, zl_2, zl_3, zl_4, zl_5, zl_6, zl_7, w2s, w4s, w1, w3, w5, w6, w7, w8, w9, w10, w11, w12] at q1 q2 q3 q4 q5 q6 q7 q8 q9
                        try simp only [w1, w3, w5, w6, w7, w8, w9, w10, w11, w12]
                        refine vp_of_r ?_ ?_ <;> omega) (fun q1 q2 q3 q4 q5 q6 q7 q8 q9 q10 => by
                        simp only [zz_lt, zz_eq, zl_0, zl_1, zl_2, zl_3, zl_4, zl_5, zl_6, zl_7, w2s, w4s, w1, w3, w5, w6, w7, w8, w9, w10, w11, w12] at q1 q2 q3 q4 q5 q6 q7 q8 q9 q10
                        try simp only [w1, w3, w5, w6, w7, w8, w9, w10, w11, w12]
                        refine vp_of_r ?_ ?_ <;> omega) (fun _ _ _ _ _ _ _ _ _ _ _ => by rw [w8]; exact vp_of_r (zb_r (s4 _) (by decide)).1 (by have := (zb_r (s4 i1.toNatClampNeg) (by decide)).2; omega)) ?_
                      dsimp only [aa_rI, aa_rL]
                      have j79 : ¬ (i1 < 0) := (by simp only [zz_lt, zz_eq, zl_0, zl_1, zl_2, zl_3, zl_4, zl_5, zl_6, zl_7, w2s, w4s, w1, w3, w5, w6, w7, w8, w9, w10, w11, w12] <;> omega)
                      have j80 : (i1 < (V 105 12)) := (by simp only [zz_lt, zz_eq, zl_0, zl_1, zl_2, zl_3, zl_4, zl_5, zl_6, zl_7, w2s, w4s, w1, w3, w5, w6, w7, w8, w9, w10, w11, w12] <;> omega)
                      have j81 : ¬ (i2 = 0) := (by simp only [zz_lt, zz_eq, zl_0, zl_1, zl_2, zl_3, zl_4, zl_5, zl_6, zl_7, w2s, w4s, w1, w3, w5, w6, w7, w8, w9, w10, w11, w12] <;> omega)
                      have j82 : ¬ (i2 = 1) := (by simp only [zz_lt, zz_eq, zl_0, zl_1, zl_2, zl_3, zl_4, zl_5, zl_6, zl_7, w2s, w4s, w1, w3, w5, w6, w7, w8, w9, w10, w11, w12] <;> omega)
                      have j83 : ¬ (i2 = 2) := (by simp only [zz_lt, zz_eq, zl_0, zl_1, zl_2, zl_3, zl_4, zl_5, zl_6, zl_7, w2s, w4s, w1, w3, w5, w6, w7, w8, w9, w10, w11, w12] <;> omega)
                      have j84 : ¬ (i2 = 3) := (by simp only [zz_lt, zz_eq, zl_0, zl_1, zl_2, zl_3, zl_4, zl_5, zl_6, zl_7, w2s, w4s, w1, w3, w5, w6, w7, w8, w9, w10, w11, w12] <;> omega)
                      have j85 : ¬ (i2 = 4) := (by simp only [zz_lt, zz_eq, zl_0, zl_1, zl_2, zl_3, zl_4, zl_5, zl_6, zl_7, w2s, w4s, w1, w3, w5, w6, w7, w8, w9, w10, w11, w12] <;> omega)
                      have j86 : ¬ (i2 = 5) := (by simp only [zz_lt, zz_eq, zl_0, zl_1, zl_2, zl_3, zl_4, zl_5, zl_6, zl_7, w2s, w4s, w1, w3, w5, w6, w7, w8, w9, w10, w11, w12] <;> omega)
                      have j87 : ¬ (i2 = 6) := (by simp only [zz_lt, zz_eq, zl_0, zl_1, zl_2, zl_3, zl_4, zl_5, zl_6, zl_7, w2s, w4s, w1, w3, w5, w6, w7, w8, w9, w10, w11, w12] <;> omega)
                      have j88 : ¬ (i2 = 7) := (by simp only [zz_lt, zz_eq, zl_0, zl_1, zl_2, zl_3, zl_4, zl_5, zl_6, zl_7, w2s, w4s, w1, w3, w5, w6, w7, w8, w9, w10, w11, w12] <;> omega)
                      have em : va_207 i1 i2 V = (-4611686018427387904 : Int64) := by simp only [va_207, if_neg j79, if_pos j80, if_neg j81, if_neg j82, if_neg j83, if_neg j84, if_neg j85, if_neg j86, if_neg j87, if_neg j88]
                      rw [em]
                      refine hQ _ _ ?_
                      exact hI

set_option maxRecDepth 20000 in
theorem cs_176 {G : ab_G} {L : Nat} {xs : Nat → Int32} {l : Launch} {d : Nat} {i1 : Int32} {V : aa_V} {Q : Int32 → Int32 → aa_V → Prop} (hI : nv V) (hQ : ∀ x W, nv W → Q x x W) :
    ab_E G (ac_ST L xs) l (d + 3) ac_SK 176 [.ref 0, .int i1] V (aa_rI fun x V1 => ab_E G (ac_ST L xs) l (d + 3) ac_SK 276 [.ref 105, .int i1] V1 (aa_rI fun y W => Q x y W)) := by
  have hI' := hI
  obtain ⟨hn, hr, hw, ha, hp, ho, hb, hk, hs, hf, ht⟩ := hI'
  have hq := qv_123 hw
  obtain ⟨⟨w1, w2, w3, w4⟩, ⟨w5, w6, w7, w8, w9, w10, w11, w12⟩, s1, s2, s3, s4, s5, s6, s7, s8⟩ := hw
  refine sp_176 w4 ?_
  dsimp only [aa_rI, aa_rL]
  refine sp_276 (by rw [w3]; exact w4) ?_
  dsimp only [aa_rI, aa_rL]
  have e1 : va_276 i1 V = va_176 i1 V := by
    unfold va_276 va_176
    rw [hn.1, w1, w3, ha.1.1, hp.1.1, hp.1.2.2.1, hp.1.2.2.2.2.1, ho.1.1, hb.1.1, hk.1.1, ht.1.1, hf.1.1, ht.1.2]
    iterate 13 refine ite_congr rfl (fun _ => rfl) (fun _ => ?_)
    refine ite_congr rfl (fun c => ?_) (fun _ => ite_congr rfl (fun c => ?_) (fun _ => ite_congr rfl (fun c => ?_) (fun _ => rfl)))
    · rw [c]
      exact hq 0
    · rw [c]
      exact hq 1
    · rw [c]
      exact hq 2
  rw [e1]
  exact hQ _ _ hI
