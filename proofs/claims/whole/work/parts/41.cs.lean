/-! literals -/
theorem zl_m99 : (-99 : Int32).toInt = -99 := by decide
theorem zl_m5 : (-5 : Int32).toInt = -5 := by decide
theorem zl_m4 : (-4 : Int32).toInt = -4 := by decide
theorem zl_m3 : (-3 : Int32).toInt = -3 := by decide
theorem zl_m2 : (-2 : Int32).toInt = -2 := by decide
theorem zl_m1 : (-1 : Int32).toInt = -1 := by decide
theorem zl_0 : (0 : Int32).toInt = 0 := by decide
theorem zl_1 : (1 : Int32).toInt = 1 := by decide
theorem zl_2 : (2 : Int32).toInt = 2 := by decide
theorem zl_5 : (5 : Int32).toInt = 5 := by decide
theorem zl_7 : (7 : Int32).toInt = 7 := by decide
theorem zl_8 : (8 : Int32).toInt = 8 := by decide
theorem zl_10 : (10 : Int32).toInt = 10 := by decide
theorem zl_11 : (11 : Int32).toInt = 11 := by decide
theorem zl_12 : (12 : Int32).toInt = 12 := by decide
theorem zl_13 : (13 : Int32).toInt = 13 := by decide
theorem zl_20 : (20 : Int32).toInt = 20 := by decide
theorem zl_24 : (24 : Int32).toInt = 24 := by decide
theorem zl_30 : (30 : Int32).toInt = 30 := by decide
theorem zl_40 : (40 : Int32).toInt = 40 := by decide
theorem zl_60 : (60 : Int32).toInt = 60 := by decide
theorem zl_99 : (99 : Int32).toInt = 99 := by decide
theorem zl_399 : (399 : Int32).toInt = 399 := by decide
theorem zl_400 : (400 : Int32).toInt = 400 := by decide
theorem zl_999 : (999 : Int32).toInt = 999 := by decide
/-! the simple cases: printed by cs.py -/
set_option maxRecDepth 20000 in
/-- F_pass -/
theorem cs_138 {G : ab_G} {L : Nat} {xs : Nat → Int32} {l : Launch} {d : Nat} {i1 : Int32} {V : aa_V} {Q : Int32 → Int32 → aa_V → Prop} (hI : nv V) (hQ : ∀ x W, nv W → Q x x W) :
    ab_E G (ac_ST L xs) l (d + 2) ac_SK 138 [.ref 0, .int i1] V (aa_rI fun x V1 => ab_E G (ac_ST L xs) l (d + 2) ac_SK 195 [.ref 105, .int i1] V1 (aa_rI fun y W => Q x y W)) := by
  have hI' := hI
  obtain ⟨hn, hr, hw, ha, hp, ho, hb, hk, hs, hf, ht⟩ := hI'
  have hn' := hn
  obtain ⟨n1, n2⟩ := hn'
  have n2r := zb_r n2 (by decide)
  have n2s := zb_sub1 n2 (by decide)
  have h5 : -1 < i1.toInt → i1.toInt < 61 → (V 0 13 + i1).toInt = (V 0 13).toInt + i1.toInt := by
    intro q1 q2
    rw [Int32.toInt_add]
    apply Int.bmod_eq_of_le <;> omega
  refine sp_138  ?_
  dsimp only [aa_rI, aa_rL]
  have hW : ∀ c, 104 < c → vn_138 i1 V c = V c := by
    intro c hc
    unfold vn_138
    repeat' split
    all_goals first | rfl | (simp only [aa_up_c (show c ≠ 0 by omega)])
  obtain ⟨W, hWe⟩ : ∃ W, W = vn_138 i1 V := ⟨_, rfl⟩
  rw [← hWe] at hW ⊢
  refine sp_195  ?_
  dsimp only [aa_rI, aa_rL]
  have e1 : va_195 i1 W = va_138 i1 V := by
    simp only [va_195, va_138, hW 105 (by decide), n1, zz_lt, zz_eq, zl_m2, zl_m4, zl_0, zl_1, zl_399, zl_400, zl_60, n2s]
    repeat' split
    all_goals first | rfl | (exfalso; omega)
  rw [e1]
  refine hQ _ _ ?_
  simp only [vn_195, hW 105 (by decide), n1, zz_lt, zz_eq, zl_m2, zl_m4, zl_0, zl_1, zl_399, zl_400, zl_60, n2s]
  rw [hWe]
  simp only [vn_138, zz_lt, zz_eq, zl_m2, zl_m4, zl_0, zl_1, zl_399, zl_400, zl_60, n2s]
  repeat' split
  all_goals first | exact hI | (exfalso; omega) | skip
  refine ⟨?_, nv_rc (V := V) (fun c _ _ => by rw [aa_up_c (by omega), aa_up_c (by omega)]) rfl hr, hw, ha, hp, ho, hb, nv_kc (V := V) (fun c _ _ => by rw [aa_up_c (by omega), aa_up_c (by omega)]) rfl rfl rfl hk, nv_sc (V := V) (fun c _ _ => by rw [aa_up_c (by omega), aa_up_c (by omega)]) rfl rfl rfl rfl rfl hs, hf, nv_tx (V := V) (fun c _ _ => by rw [aa_up_c (by omega), aa_up_c (by omega)]) rfl rfl rfl rfl rfl rfl rfl rfl rfl ht⟩
  have h6 : zb (V 0 13 + i1) 399 := zb_of_r (by rw [h5] <;> omega) (by rw [h5] <;> omega) (by decide)
  exact ⟨rfl, h6⟩

set_option maxRecDepth 20000 in
/-- F_shop -/
theorem cs_141 {G : ab_G} {L : Nat} {xs : Nat → Int32} {l : Launch} {d : Nat} {i1 : Int32} {i2 : Int32} {V : aa_V} {Q : Int32 → Int32 → aa_V → Prop} (hI : nv V) (hQ : ∀ x W, nv W → Q x x W) :
    ab_E G (ac_ST L xs) l (d + 3) ac_SK 141 [.ref 0, .int i1, .int i2] V (aa_rI fun x V1 => ab_E G (ac_ST L xs) l (d + 2) ac_SK 201 [.ref 105, .int i1, .int i2] V1 (aa_rI fun y W => Q x y W)) := by
  have hI' := hI
  obtain ⟨hn, hr, hw, ha, hp, ho, hb, hk, hs, hf, ht⟩ := hI'
  have hw' := hw
  obtain ⟨⟨w1, w2, w3, w4⟩, ⟨w5, w6, w7, w8, w9, w10, w11, w12⟩, s1, s2, s3, s4, s5, s6, s7, s8⟩ := hw'
  have w2r := zb_r w2 (by decide)
  have w2s := zb_sub1 w2 (by decide)
  have w4r := zb_r w4 (by decide)
  have w4s := zb_sub1 w4 (by decide)
  refine sp_141 (fun g1 g2 g3 g4 g5 => by
    simp only [zz_lt, zz_eq, zl_m2, zl_m4, zl_0, zl_1, zl_7, zl_8, zl_99, w2s, w4s] at g1 g2 g3 g4 g5
    refine vp_of_r ?_ ?_ <;> omega) ?_
  dsimp only [aa_rI, aa_rL]
  have hW : ∀ c, 104 < c → vn_141 i1 i2 V c = V c := by
    intro c hc
    unfold vn_141
    repeat' split
    all_goals first | rfl | (simp only [aa_up_c (show c ≠ 29 by omega), aa_up_c (show c ≠ 30 by omega), aa_up_c (show c ≠ 31 by omega)])
  obtain ⟨W, hWe⟩ : ∃ W, W = vn_141 i1 i2 V := ⟨_, rfl⟩
  rw [← hWe] at hW ⊢
  refine sp_201 (fun g1 g2 g3 g4 g5 => by
    try simp only [w1, w3, w5, w6, w7, w8, w9, w10, w11, w12, hW 105 (by decide), hW 108 (by decide), hW 109 (by decide), hW 110 (by decide), hW 111 (by decide), hW 112 (by decide), hW 113 (by decide), hW 114 (by decide), hW 115 (by decide)]
    simp only [zz_lt, zz_eq, zl_m2, zl_m4, zl_0, zl_1, zl_7, zl_8, zl_99, w2s, w4s, hW 105 (by decide), hW 108 (by decide), hW 109 (by decide), hW 110 (by decide), hW 111 (by decide), hW 112 (by decide), hW 113 (by decide), hW 114 (by decide), hW 115 (by decide), w1, w3, w5, w6, w7, w8, w9, w10, w11, w12] at g1 g2 g3 g4 g5
    refine vp_of_r ?_ ?_ <;> omega) ?_
  dsimp only [aa_rI, aa_rL]
  have e1 : va_201 i1 i2 W = va_141 i1 i2 V := by
    simp only [va_201, va_141, hW 105 (by decide), hW 108 (by decide), hW 109 (by decide), hW 110 (by decide), hW 111 (by decide), hW 112 (by decide), hW 113 (by decide), hW 114 (by decide), hW 115 (by decide), w1, w3, w5, w6, w7, w8, w9, w10, w11, w12, zz_lt, zz_eq, zl_m2, zl_m4, zl_0, zl_1, zl_7, zl_8, zl_99, w2s, w4s]
    repeat' split
    all_goals first | rfl | (exfalso; omega)
  rw [e1]
  refine hQ _ _ ?_
  simp only [vn_201, hW 105 (by decide), hW 108 (by decide), hW 109 (by decide), hW 110 (by decide), hW 111 (by decide), hW 112 (by decide), hW 113 (by decide), hW 114 (by decide), hW 115 (by decide), w1, w3, w5, w6, w7, w8, w9, w10, w11, w12, zz_lt, zz_eq, zl_m2, zl_m4, zl_0, zl_1, zl_7, zl_8, zl_99, w2s, w4s]
  rw [hWe]
  simp only [vn_141, zz_lt, zz_eq, zl_m2, zl_m4, zl_0, zl_1, zl_7, zl_8, zl_99, w2s, w4s]
  repeat' split
  all_goals first | exact hI | (exfalso; omega) | skip
  have z1 : zb i1 7 := zb_of_r (by omega) (by omega) (by decide)
  have z2 : zb i2 99 := zb_of_r (by omega) (by omega) (by decide)
  refine ⟨hn, nv_rc (V := V) (fun c _ _ => by rw [aa_up_c (by omega), aa_up_c (by omega), aa_up_c (by omega), aa_up_c (by omega), aa_up_c (by omega), aa_up_c (by omega)]) rfl hr, ?_, ha, hp, ho, hb, nv_kc (V := V) (fun c _ _ => by rw [aa_up_c (by omega), aa_up_c (by omega), aa_up_c (by omega), aa_up_c (by omega), aa_up_c (by omega), aa_up_c (by omega)]) rfl rfl rfl hk, nv_sc (V := V) (fun c _ _ => by rw [aa_up_c (by omega), aa_up_c (by omega), aa_up_c (by omega), aa_up_c (by omega), aa_up_c (by omega), aa_up_c (by omega)]) rfl rfl rfl rfl rfl hs, hf, nv_tx (V := V) (fun c _ _ => by rw [aa_up_c (by omega), aa_up_c (by omega), aa_up_c (by omega), aa_up_c (by omega), aa_up_c (by omega), aa_up_c (by omega)]) rfl rfl rfl rfl rfl rfl rfl rfl rfl ht⟩
  exact ⟨⟨rfl, zb_up w2 (by omega) (by decide), w3, w4⟩, ⟨(show upd (V 108) (V 29 0).toNatClampNeg i1 = upd (V 30) (V 29 0).toNatClampNeg i1 from upd_eq w5), (show upd (V 109) (V 29 0).toNatClampNeg i2 = upd (V 31) (V 29 0).toNatClampNeg i2 from upd_eq w6), w7, w8, w9, w10, w11, w12⟩, (show ∀ i, zb (upd (V 30) (V 29 0).toNatClampNeg i1 i) 7 from zb_upd s1 z1), (show ∀ i, zb (upd (V 31) (V 29 0).toNatClampNeg i2 i) 99 from zb_upd s2 z2), s3, s4, s5, s6, s7, s8⟩

set_option maxRecDepth 20000 in
/-- F_pays -/
theorem cs_142 {G : ab_G} {L : Nat} {xs : Nat → Int32} {l : Launch} {d : Nat} {i1 : Int32} {i2 : Int32} {V : aa_V} {Q : Int32 → Int32 → aa_V → Prop} (hI : nv V) (hQ : ∀ x W, nv W → Q x x W) :
    ab_E G (ac_ST L xs) l (d + 3) ac_SK 142 [.ref 0, .int i1, .int i2] V (aa_rI fun x V1 => ab_E G (ac_ST L xs) l (d + 2) ac_SK 202 [.ref 105, .int i1, .int i2] V1 (aa_rI fun y W => Q x y W)) := by
  have hI' := hI
  obtain ⟨hn, hr, hw, ha, hp, ho, hb, hk, hs, hf, ht⟩ := hI'
  have hw' := hw
  obtain ⟨⟨w1, w2, w3, w4⟩, ⟨w5, w6, w7, w8, w9, w10, w11, w12⟩, s1, s2, s3, s4, s5, s6, s7, s8⟩ := hw'
  have w2r := zb_r w2 (by decide)
  have w2s := zb_sub1 w2 (by decide)
  have w4r := zb_r w4 (by decide)
  have w4s := zb_sub1 w4 (by decide)
  refine sp_142 (fun g1 g2 g3 g4 => by
    simp only [zz_lt, zz_eq, zl_m2, zl_0, zl_1, zl_99, w2s, w4s] at g1 g2 g3 g4
    refine vp_of_r ?_ ?_ <;> omega) ?_
  dsimp only [aa_rI, aa_rL]
  have hW : ∀ c, 104 < c → vn_142 i1 i2 V c = V c := by
    intro c hc
    unfold vn_142
    repeat' split
    all_goals first | rfl | (simp only [aa_up_c (show c ≠ 31 by omega)])
  obtain ⟨W, hWe⟩ : ∃ W, W = vn_142 i1 i2 V := ⟨_, rfl⟩
  rw [← hWe] at hW ⊢
  refine sp_202 (fun g1 g2 g3 g4 => by
    try simp only [w1, w3, w5, w6, w7, w8, w9, w10, w11, w12, hW 105 (by decide), hW 108 (by decide), hW 109 (by decide), hW 110 (by decide), hW 111 (by decide), hW 112 (by decide), hW 113 (by decide), hW 114 (by decide), hW 115 (by decide)]
    simp only [zz_lt, zz_eq, zl_m2, zl_0, zl_1, zl_99, w2s, w4s, hW 105 (by decide), hW 108 (by decide), hW 109 (by decide), hW 110 (by decide), hW 111 (by decide), hW 112 (by decide), hW 113 (by decide), hW 114 (by decide), hW 115 (by decide), w1, w3, w5, w6, w7, w8, w9, w10, w11, w12] at g1 g2 g3 g4
    refine vp_of_r ?_ ?_ <;> omega) ?_
  dsimp only [aa_rI, aa_rL]
  have e1 : va_202 i1 i2 W = va_142 i1 i2 V := by
    simp only [va_202, va_142, hW 105 (by decide), hW 108 (by decide), hW 109 (by decide), hW 110 (by decide), hW 111 (by decide), hW 112 (by decide), hW 113 (by decide), hW 114 (by decide), hW 115 (by decide), w1, w3, w5, w6, w7, w8, w9, w10, w11, w12, zz_lt, zz_eq, zl_m2, zl_0, zl_1, zl_99, w2s, w4s]
    repeat' split
    all_goals first | rfl | (exfalso; omega)
  rw [e1]
  refine hQ _ _ ?_
  simp only [vn_202, hW 105 (by decide), hW 108 (by decide), hW 109 (by decide), hW 110 (by decide), hW 111 (by decide), hW 112 (by decide), hW 113 (by decide), hW 114 (by decide), hW 115 (by decide), w1, w3, w5, w6, w7, w8, w9, w10, w11, w12, zz_lt, zz_eq, zl_m2, zl_0, zl_1, zl_99, w2s, w4s]
  rw [hWe]
  simp only [vn_142, zz_lt, zz_eq, zl_m2, zl_0, zl_1, zl_99, w2s, w4s]
  repeat' split
  all_goals first | exact hI | (exfalso; omega) | skip
  have z2 : zb i2 99 := zb_of_r (by omega) (by omega) (by decide)
  refine ⟨hn, nv_rc (V := V) (fun c _ _ => by rw [aa_up_c (by omega), aa_up_c (by omega)]) rfl hr, ?_, ha, hp, ho, hb, nv_kc (V := V) (fun c _ _ => by rw [aa_up_c (by omega), aa_up_c (by omega)]) rfl rfl rfl hk, nv_sc (V := V) (fun c _ _ => by rw [aa_up_c (by omega), aa_up_c (by omega)]) rfl rfl rfl rfl rfl hs, hf, nv_tx (V := V) (fun c _ _ => by rw [aa_up_c (by omega), aa_up_c (by omega)]) rfl rfl rfl rfl rfl rfl rfl rfl rfl ht⟩
  exact ⟨⟨w1, w2, w3, w4⟩, ⟨w5, (show upd (V 109) i1.toNatClampNeg i2 = upd (V 31) i1.toNatClampNeg i2 from upd_eq w6), w7, w8, w9, w10, w11, w12⟩, s1, (show ∀ i, zb (upd (V 31) i1.toNatClampNeg i2 i) 99 from zb_upd s2 z2), s3, s4, s5, s6, s7, s8⟩

set_option maxRecDepth 20000 in
/-- F_frame -/
theorem cs_143 {G : ab_G} {L : Nat} {xs : Nat → Int32} {l : Launch} {d : Nat} {i1 : Int32} {i2 : Int32} {i3 : Int32} {i4 : Int32} {V : aa_V} {Q : Int32 → Int32 → aa_V → Prop} (hI : nv V) (hQ : ∀ x W, nv W → Q x x W) :
    ab_E G (ac_ST L xs) l (d + 3) ac_SK 143 [.ref 0, .int i1, .int i2, .int i3, .int i4] V (aa_rI fun x V1 => ab_E G (ac_ST L xs) l (d + 2) ac_SK 203 [.ref 105, .int i1, .int i2, .int i3, .int i4] V1 (aa_rI fun y W => Q x y W)) := by
  have hI' := hI
  obtain ⟨hn, hr, hw, ha, hp, ho, hb, hk, hs, hf, ht⟩ := hI'
  have hw' := hw
  obtain ⟨⟨w1, w2, w3, w4⟩, ⟨w5, w6, w7, w8, w9, w10, w11, w12⟩, s1, s2, s3, s4, s5, s6, s7, s8⟩ := hw'
  have w2r := zb_r w2 (by decide)
  have w2s := zb_sub1 w2 (by decide)
  have w4r := zb_r w4 (by decide)
  have w4s := zb_sub1 w4 (by decide)
  refine sp_143 (fun g1 g2 g3 g4 g5 g6 g7 g8 g9 => by
    simp only [zz_lt, zz_eq, zl_m2, zl_m4, zl_0, zl_1, zl_10, zl_20, zl_5, zl_60, zl_99, w2s, w4s] at g1 g2 g3 g4 g5 g6 g7 g8 g9
    refine vp_of_r ?_ ?_ <;> omega) ?_
  dsimp only [aa_rI, aa_rL]
  have hW : ∀ c, 104 < c → vn_143 i1 i2 i3 i4 V c = V c := by
    intro c hc
    unfold vn_143
    repeat' split
    all_goals first | rfl | (simp only [aa_up_c (show c ≠ 29 by omega), aa_up_c (show c ≠ 32 by omega), aa_up_c (show c ≠ 33 by omega), aa_up_c (show c ≠ 34 by omega), aa_up_c (show c ≠ 35 by omega)])
  obtain ⟨W, hWe⟩ : ∃ W, W = vn_143 i1 i2 i3 i4 V := ⟨_, rfl⟩
  rw [← hWe] at hW ⊢
  refine sp_203 (fun g1 g2 g3 g4 g5 g6 g7 g8 g9 => by
    try simp only [w1, w3, w5, w6, w7, w8, w9, w10, w11, w12, hW 105 (by decide), hW 108 (by decide), hW 109 (by decide), hW 110 (by decide), hW 111 (by decide), hW 112 (by decide), hW 113 (by decide), hW 114 (by decide), hW 115 (by decide)]
    simp only [zz_lt, zz_eq, zl_m2, zl_m4, zl_0, zl_1, zl_10, zl_20, zl_5, zl_60, zl_99, w2s, w4s, hW 105 (by decide), hW 108 (by decide), hW 109 (by decide), hW 110 (by decide), hW 111 (by decide), hW 112 (by decide), hW 113 (by decide), hW 114 (by decide), hW 115 (by decide), w1, w3, w5, w6, w7, w8, w9, w10, w11, w12] at g1 g2 g3 g4 g5 g6 g7 g8 g9
    refine vp_of_r ?_ ?_ <;> omega) ?_
  dsimp only [aa_rI, aa_rL]
  have e1 : va_203 i1 i2 i3 i4 W = va_143 i1 i2 i3 i4 V := by
    simp only [va_203, va_143, hW 105 (by decide), hW 108 (by decide), hW 109 (by decide), hW 110 (by decide), hW 111 (by decide), hW 112 (by decide), hW 113 (by decide), hW 114 (by decide), hW 115 (by decide), w1, w3, w5, w6, w7, w8, w9, w10, w11, w12, zz_lt, zz_eq, zl_m2, zl_m4, zl_0, zl_1, zl_10, zl_20, zl_5, zl_60, zl_99, w2s, w4s]
    repeat' split
    all_goals first | rfl | (exfalso; omega)
  rw [e1]
  refine hQ _ _ ?_
  simp only [vn_203, hW 105 (by decide), hW 108 (by decide), hW 109 (by decide), hW 110 (by decide), hW 111 (by decide), hW 112 (by decide), hW 113 (by decide), hW 114 (by decide), hW 115 (by decide), w1, w3, w5, w6, w7, w8, w9, w10, w11, w12, zz_lt, zz_eq, zl_m2, zl_m4, zl_0, zl_1, zl_10, zl_20, zl_5, zl_60, zl_99, w2s, w4s]
  rw [hWe]
  simp only [vn_143, zz_lt, zz_eq, zl_m2, zl_m4, zl_0, zl_1, zl_10, zl_20, zl_5, zl_60, zl_99, w2s, w4s]
  repeat' split
  all_goals first | exact hI | (exfalso; omega) | skip
  have z1 : zb i1 5 := zb_of_r (by omega) (by omega) (by decide)
  have z2 : zb i2 7 := zb_of_r (by omega) (by omega) (by decide)
  have z3 : zb i3 60 := zb_of_r (by omega) (by omega) (by decide)
  have z4 : zb i4 99 := zb_of_r (by omega) (by omega) (by decide)
  refine ⟨hn, nv_rc (V := V) (fun c _ _ => by rw [aa_up_c (by omega), aa_up_c (by omega), aa_up_c (by omega), aa_up_c (by omega), aa_up_c (by omega), aa_up_c (by omega), aa_up_c (by omega), aa_up_c (by omega), aa_up_c (by omega), aa_up_c (by omega)]) rfl hr, ?_, ha, hp, ho, hb, nv_kc (V := V) (fun c _ _ => by rw [aa_up_c (by omega), aa_up_c (by omega), aa_up_c (by omega), aa_up_c (by omega), aa_up_c (by omega), aa_up_c (by omega), aa_up_c (by omega), aa_up_c (by omega), aa_up_c (by omega), aa_up_c (by omega)]) rfl rfl rfl hk, nv_sc (V := V) (fun c _ _ => by rw [aa_up_c (by omega), aa_up_c (by omega), aa_up_c (by omega), aa_up_c (by omega), aa_up_c (by omega), aa_up_c (by omega), aa_up_c (by omega), aa_up_c (by omega), aa_up_c (by omega), aa_up_c (by omega)]) rfl rfl rfl rfl rfl hs, hf, nv_tx (V := V) (fun c _ _ => by rw [aa_up_c (by omega), aa_up_c (by omega), aa_up_c (by omega), aa_up_c (by omega), aa_up_c (by omega), aa_up_c (by omega), aa_up_c (by omega), aa_up_c (by omega), aa_up_c (by omega), aa_up_c (by omega)]) rfl rfl rfl rfl rfl rfl rfl rfl rfl ht⟩
  exact ⟨⟨w1, w2, rfl, zb_up w4 (by omega) (by decide)⟩, ⟨w5, w6, (show upd (V 110) (V 29 3).toNatClampNeg i1 = upd (V 32) (V 29 3).toNatClampNeg i1 from upd_eq w7), (show upd (V 111) (V 29 3).toNatClampNeg i2 = upd (V 33) (V 29 3).toNatClampNeg i2 from upd_eq w8), (show upd (V 112) (V 29 3).toNatClampNeg i3 = upd (V 34) (V 29 3).toNatClampNeg i3 from upd_eq w9), (show upd (V 113) (V 29 3).toNatClampNeg i4 = upd (V 35) (V 29 3).toNatClampNeg i4 from upd_eq w10), w11, w12⟩, s1, s2, (show ∀ i, zb (upd (V 32) (V 29 3).toNatClampNeg i1 i) 5 from zb_upd s3 z1), (show ∀ i, zb (upd (V 33) (V 29 3).toNatClampNeg i2 i) 7 from zb_upd s4 z2), (show ∀ i, zb (upd (V 34) (V 29 3).toNatClampNeg i3 i) 60 from zb_upd s5 z3), (show ∀ i, zb (upd (V 35) (V 29 3).toNatClampNeg i4 i) 99 from zb_upd s6 z4), s7, s8⟩

set_option maxRecDepth 20000 in
/-- F_raid -/
theorem cs_152 {G : ab_G} {L : Nat} {xs : Nat → Int32} {l : Launch} {d : Nat} {i1 : Int32} {i2 : Int32} {V : aa_V} {Q : Int32 → Int32 → aa_V → Prop} (hI : nv V) (hQ : ∀ x W, nv W → Q x x W) :
    ab_E G (ac_ST L xs) l (d + 3) ac_SK 152 [.ref 0, .int i1, .int i2] V (aa_rI fun x V1 => ab_E G (ac_ST L xs) l (d + 2) ac_SK 229 [.ref 105, .int i1, .int i2] V1 (aa_rI fun y W => Q x y W)) := by
  have hI' := hI
  obtain ⟨hn, hr, hw, ha, hp, ho, hb, hk, hs, hf, ht⟩ := hI'
  have hn' := hn
  obtain ⟨n1, n2⟩ := hn'
  have n2r := zb_r n2 (by decide)
  have n2s := zb_sub1 n2 (by decide)
  have hw' := hw
  obtain ⟨⟨w1, w2, w3, w4⟩, ⟨w5, w6, w7, w8, w9, w10, w11, w12⟩, s1, s2, s3, s4, s5, s6, s7, s8⟩ := hw'
  have w2r := zb_r w2 (by decide)
  have w2s := zb_sub1 w2 (by decide)
  have w4r := zb_r w4 (by decide)
  have w4s := zb_sub1 w4 (by decide)
  have ha' := ha
  obtain ⟨⟨a1, a2⟩, ⟨a3, a4, a5⟩, a6, a7, a8⟩ := ha'
  have a2r := zb_r a2 (by decide)
  have a2s := zb_sub1 a2 (by decide)
  refine sp_152 (fun g1 g2 g3 g4 => by
    simp only [zz_lt, zz_eq, zl_m2, zl_m3, zl_m4, zl_0, zl_1, zl_11, zl_30, n2s, w2s, w4s, a2s] at g1 g2 g3 g4
    refine vp_of_r ?_ ?_ <;> omega) (fun g1 g2 g3 g4 g5 g6 => by
    simp only [zz_lt, zz_eq, zl_m2, zl_m3, zl_m4, zl_0, zl_1, zl_11, zl_30, n2s, w2s, w4s, a2s] at g1 g2 g3 g4 g5 g6
    refine vp_of_r ?_ ?_ <;> omega) ?_
  dsimp only [aa_rI, aa_rL]
  have hW : ∀ c, 104 < c → vn_152 i1 i2 V c = V c := by
    intro c hc
    unfold vn_152
    repeat' split
    all_goals first | rfl | (simp only [aa_up_c (show c ≠ 36 by omega), aa_up_c (show c ≠ 37 by omega), aa_up_c (show c ≠ 38 by omega), aa_up_c (show c ≠ 39 by omega), aa_up_c (show c ≠ 40 by omega), aa_up_c (show c ≠ 41 by omega)])
  obtain ⟨W, hWe⟩ : ∃ W, W = vn_152 i1 i2 V := ⟨_, rfl⟩
  rw [← hWe] at hW ⊢
  refine sp_229 (fun g1 g2 g3 g4 => by
    try simp only [n1, w1, w3, w5, w6, w7, w8, w9, w10, w11, w12, a1, a3, a4, a5, hW 105 (by decide), hW 108 (by decide), hW 109 (by decide), hW 110 (by decide), hW 111 (by decide), hW 112 (by decide), hW 113 (by decide), hW 114 (by decide), hW 115 (by decide), hW 124 (by decide), hW 125 (by decide), hW 126 (by decide)]
    simp only [zz_lt, zz_eq, zl_m2, zl_m3, zl_m4, zl_0, zl_1, zl_11, zl_30, n2s, w2s, w4s, a2s, hW 105 (by decide), hW 108 (by decide), hW 109 (by decide), hW 110 (by decide), hW 111 (by decide), hW 112 (by decide), hW 113 (by decide), hW 114 (by decide), hW 115 (by decide), hW 124 (by decide), hW 125 (by decide), hW 126 (by decide), n1, w1, w3, w5, w6, w7, w8, w9, w10, w11, w12, a1, a3, a4, a5] at g1 g2 g3 g4
    refine vp_of_r ?_ ?_ <;> omega) (fun g1 g2 g3 g4 g5 g6 => by
    try simp only [n1, w1, w3, w5, w6, w7, w8, w9, w10, w11, w12, a1, a3, a4, a5, hW 105 (by decide), hW 108 (by decide), hW 109 (by decide), hW 110 (by decide), hW 111 (by decide), hW 112 (by decide), hW 113 (by decide), hW 114 (by decide), hW 115 (by decide), hW 124 (by decide), hW 125 (by decide), hW 126 (by decide)]
    simp only [zz_lt, zz_eq, zl_m2, zl_m3, zl_m4, zl_0, zl_1, zl_11, zl_30, n2s, w2s, w4s, a2s, hW 105 (by decide), hW 108 (by decide), hW 109 (by decide), hW 110 (by decide), hW 111 (by decide), hW 112 (by decide), hW 113 (by decide), hW 114 (by decide), hW 115 (by decide), hW 124 (by decide), hW 125 (by decide), hW 126 (by decide), n1, w1, w3, w5, w6, w7, w8, w9, w10, w11, w12, a1, a3, a4, a5] at g1 g2 g3 g4 g5 g6
    refine vp_of_r ?_ ?_ <;> omega) ?_
  dsimp only [aa_rI, aa_rL]
  have e1 : va_229 i1 i2 W = va_152 i1 i2 V := by
    simp only [va_229, va_152, hW 105 (by decide), hW 108 (by decide), hW 109 (by decide), hW 110 (by decide), hW 111 (by decide), hW 112 (by decide), hW 113 (by decide), hW 114 (by decide), hW 115 (by decide), hW 124 (by decide), hW 125 (by decide), hW 126 (by decide), n1, w1, w3, w5, w6, w7, w8, w9, w10, w11, w12, a1, a3, a4, a5, zz_lt, zz_eq, zl_m2, zl_m3, zl_m4, zl_0, zl_1, zl_11, zl_30, n2s, w2s, w4s, a2s]
    repeat' split
    all_goals first | rfl | (exfalso; omega)
  rw [e1]
  refine hQ _ _ ?_
  simp only [vn_229, hW 105 (by decide), hW 108 (by decide), hW 109 (by decide), hW 110 (by decide), hW 111 (by decide), hW 112 (by decide), hW 113 (by decide), hW 114 (by decide), hW 115 (by decide), hW 124 (by decide), hW 125 (by decide), hW 126 (by decide), n1, w1, w3, w5, w6, w7, w8, w9, w10, w11, w12, a1, a3, a4, a5, zz_lt, zz_eq, zl_m2, zl_m3, zl_m4, zl_0, zl_1, zl_11, zl_30, n2s, w2s, w4s, a2s]
  rw [hWe]
  simp only [vn_152, zz_lt, zz_eq, zl_m2, zl_m3, zl_m4, zl_0, zl_1, zl_11, zl_30, n2s, w2s, w4s, a2s]
  repeat' split
  all_goals first | exact hI | (exfalso; omega) | skip
  have z1 : zb i1 19 := zb_of_r (by omega) (by omega) (by decide)
  have z2 : zb i2 11 := zb_of_r (by omega) (by omega) (by decide)
  refine ⟨hn, nv_rc (V := V) (fun c _ _ => by rw [aa_up_c (by omega), aa_up_c (by omega), aa_up_c (by omega), aa_up_c (by omega), aa_up_c (by omega), aa_up_c (by omega), aa_up_c (by omega), aa_up_c (by omega), aa_up_c (by omega), aa_up_c (by omega), aa_up_c (by omega), aa_up_c (by omega)]) rfl hr, ?_, ?_, hp, ho, hb, nv_kc (V := V) (fun c _ _ => by rw [aa_up_c (by omega), aa_up_c (by omega), aa_up_c (by omega), aa_up_c (by omega), aa_up_c (by omega), aa_up_c (by omega), aa_up_c (by omega), aa_up_c (by omega), aa_up_c (by omega), aa_up_c (by omega), aa_up_c (by omega), aa_up_c (by omega)]) rfl rfl rfl hk, nv_sc (V := V) (fun c _ _ => by rw [aa_up_c (by omega), aa_up_c (by omega), aa_up_c (by omega), aa_up_c (by omega), aa_up_c (by omega), aa_up_c (by omega), aa_up_c (by omega), aa_up_c (by omega), aa_up_c (by omega), aa_up_c (by omega), aa_up_c (by omega), aa_up_c (by omega)]) rfl rfl rfl rfl rfl hs, hf, nv_tx (V := V) (fun c _ _ => by rw [aa_up_c (by omega), aa_up_c (by omega), aa_up_c (by omega), aa_up_c (by omega), aa_up_c (by omega), aa_up_c (by omega), aa_up_c (by omega), aa_up_c (by omega), aa_up_c (by omega), aa_up_c (by omega), aa_up_c (by omega), aa_up_c (by omega)]) rfl rfl rfl rfl rfl rfl rfl rfl rfl ht⟩
  · exact ⟨⟨w1, w2, w3, w4⟩, ⟨w5, w6, w7, w8, w9, w10, (show upd (V 114) i1.toNatClampNeg 1 = upd (V 36) i1.toNatClampNeg 1 from upd_eq w11), (show upd (V 115) i1.toNatClampNeg (V 0 13) = upd (V 37) i1.toNatClampNeg (V 0 13) from upd_eq w12)⟩, s1, s2, s3, s4, s5, s6, (show ∀ i, zb (upd (V 36) i1.toNatClampNeg 1 i) 2 from zb_upd s7 (zb_n (n := 1) (by decide) (by decide))), (show ∀ i, zb (upd (V 37) i1.toNatClampNeg (V 0 13) i) 399 from zb_upd s8 n2)⟩
  · exact ⟨⟨rfl, zb_up a2 (by omega) (by decide)⟩, ⟨(show upd (V 124) (V 38 1).toNatClampNeg i1 = upd (V 39) (V 38 1).toNatClampNeg i1 from upd_eq a3), (show upd (V 125) (V 38 1).toNatClampNeg (V 0 13) = upd (V 40) (V 38 1).toNatClampNeg (V 0 13) from upd_eq a4), (show upd (V 126) (V 38 1).toNatClampNeg i2 = upd (V 41) (V 38 1).toNatClampNeg i2 from upd_eq a5)⟩, (show ∀ i, zb (upd (V 39) (V 38 1).toNatClampNeg i1 i) 19 from zb_upd a6 z1), (show ∀ i, zb (upd (V 40) (V 38 1).toNatClampNeg (V 0 13) i) 399 from zb_upd a7 n2), (show ∀ i, zb (upd (V 41) (V 38 1).toNatClampNeg i2 i) 11 from zb_upd a8 z2)⟩

set_option maxRecDepth 20000 in
/-- F_person -/
theorem cs_157 {G : ab_G} {L : Nat} {xs : Nat → Int32} {l : Launch} {d : Nat} {i1 : Int32} {V : aa_V} {Q : Int32 → Int32 → aa_V → Prop} (hI : nv V) (hQ : ∀ x W, nv W → Q x x W) :
    ab_E G (ac_ST L xs) l (d + 3) ac_SK 157 [.ref 0, .int i1] V (aa_rI fun x V1 => ab_E G (ac_ST L xs) l (d + 2) ac_SK 241 [.ref 105, .int i1] V1 (aa_rI fun y W => Q x y W)) := by
  have hI' := hI
  obtain ⟨hn, hr, hw, ha, hp, ho, hb, hk, hs, hf, ht⟩ := hI'
  have hp' := hp
  obtain ⟨⟨p1, p2, p3, p4, p5, p6⟩, ⟨p7, p8, p9, p10, p11, p12⟩, ⟨p13, p14, p15, p16, p17⟩, ⟨q1, q2, q3, q4, q5, q6⟩, q7, q8, q9, q10, q11⟩ := hp'
  have p2r := zb_r p2 (by decide)
  have p2s := zb_sub1 p2 (by decide)
  have p4r := zb_r p4 (by decide)
  have p4s := zb_sub1 p4 (by decide)
  have p6r := zb_r p6 (by decide)
  have p6s := zb_sub1 p6 (by decide)
  refine sp_157 (fun g1 g2 g3 => by
    simp only [zz_lt, zz_eq, zl_m2, zl_m4, zl_0, zl_1, zl_12, zl_7, zl_8, p2s, p4s, p6s] at g1 g2 g3
    refine vp_of_r ?_ ?_ <;> omega) ?_
  dsimp only [aa_rI, aa_rL]
  have hW : ∀ c, 104 < c → vn_157 i1 V c = V c := by
    intro c hc
    unfold vn_157
    repeat' split
    all_goals first | rfl | (simp only [aa_up_c (show c ≠ 42 by omega), aa_up_c (show c ≠ 43 by omega)])
  obtain ⟨W, hWe⟩ : ∃ W, W = vn_157 i1 V := ⟨_, rfl⟩
  rw [← hWe] at hW ⊢
  refine sp_241 (fun g1 g2 g3 => by
    try simp only [p1, p3, p5, p7, p8, p9, p10, p11, p12, p13, p14, p15, p16, p17, hW 105 (by decide), hW 127 (by decide), hW 128 (by decide), hW 129 (by decide), hW 130 (by decide), hW 131 (by decide), hW 132 (by decide), hW 133 (by decide), hW 134 (by decide), hW 135 (by decide), hW 136 (by decide), hW 137 (by decide)]
    simp only [zz_lt, zz_eq, zl_m2, zl_m4, zl_0, zl_1, zl_12, zl_7, zl_8, p2s, p4s, p6s, hW 105 (by decide), hW 127 (by decide), hW 128 (by decide), hW 129 (by decide), hW 130 (by decide), hW 131 (by decide), hW 132 (by decide), hW 133 (by decide), hW 134 (by decide), hW 135 (by decide), hW 136 (by decide), hW 137 (by decide), p1, p3, p5, p7, p8, p9, p10, p11, p12, p13, p14, p15, p16, p17] at g1 g2 g3
    refine vp_of_r ?_ ?_ <;> omega) ?_
  dsimp only [aa_rI, aa_rL]
  have e1 : va_241 i1 W = va_157 i1 V := by
    simp only [va_241, va_157, hW 105 (by decide), hW 127 (by decide), hW 128 (by decide), hW 129 (by decide), hW 130 (by decide), hW 131 (by decide), hW 132 (by decide), hW 133 (by decide), hW 134 (by decide), hW 135 (by decide), hW 136 (by decide), hW 137 (by decide), p1, p3, p5, p7, p8, p9, p10, p11, p12, p13, p14, p15, p16, p17, zz_lt, zz_eq, zl_m2, zl_m4, zl_0, zl_1, zl_12, zl_7, zl_8, p2s, p4s, p6s]
    repeat' split
    all_goals first | rfl | (exfalso; omega)
  rw [e1]
  refine hQ _ _ ?_
  simp only [vn_241, hW 105 (by decide), hW 127 (by decide), hW 128 (by decide), hW 129 (by decide), hW 130 (by decide), hW 131 (by decide), hW 132 (by decide), hW 133 (by decide), hW 134 (by decide), hW 135 (by decide), hW 136 (by decide), hW 137 (by decide), p1, p3, p5, p7, p8, p9, p10, p11, p12, p13, p14, p15, p16, p17, zz_lt, zz_eq, zl_m2, zl_m4, zl_0, zl_1, zl_12, zl_7, zl_8, p2s, p4s, p6s]
  rw [hWe]
  simp only [vn_157, zz_lt, zz_eq, zl_m2, zl_m4, zl_0, zl_1, zl_12, zl_7, zl_8, p2s, p4s, p6s]
  repeat' split
  all_goals first | exact hI | (exfalso; omega) | skip
  have z1 : zb i1 7 := zb_of_r (by omega) (by omega) (by decide)
  refine ⟨hn, nv_rc (V := V) (fun c _ _ => by rw [aa_up_c (by omega), aa_up_c (by omega), aa_up_c (by omega), aa_up_c (by omega)]) rfl hr, hw, ha, ?_, ho, hb, nv_kc (V := V) (fun c _ _ => by rw [aa_up_c (by omega), aa_up_c (by omega), aa_up_c (by omega), aa_up_c (by omega)]) rfl rfl rfl hk, nv_sc (V := V) (fun c _ _ => by rw [aa_up_c (by omega), aa_up_c (by omega), aa_up_c (by omega), aa_up_c (by omega)]) rfl rfl rfl rfl rfl hs, hf, nv_tx (V := V) (fun c _ _ => by rw [aa_up_c (by omega), aa_up_c (by omega), aa_up_c (by omega), aa_up_c (by omega)]) rfl rfl rfl rfl rfl rfl rfl rfl rfl ht⟩
  exact ⟨⟨rfl, zb_up p2 (by omega) (by decide), p3, p4, p5, p6⟩, ⟨(show upd (V 127) (V 42 2).toNatClampNeg i1 = upd (V 43) (V 42 2).toNatClampNeg i1 from upd_eq p7), p8, p9, p10, p11, p12⟩, ⟨p13, p14, p15, p16, p17⟩, ⟨(show ∀ i, zb (upd (V 43) (V 42 2).toNatClampNeg i1 i) 7 from zb_upd q1 z1), q2, q3, q4, q5, q6⟩, q7, q8, q9, q10, q11⟩

set_option maxRecDepth 20000 in
/-- F_seen -/
theorem cs_158 {G : ab_G} {L : Nat} {xs : Nat → Int32} {l : Launch} {d : Nat} {i1 : Int32} {i2 : Int32} {i3 : Int32} {i4 : Int32} {V : aa_V} {Q : Int32 → Int32 → aa_V → Prop} (hI : nv V) (hQ : ∀ x W, nv W → Q x x W) :
    ab_E G (ac_ST L xs) l (d + 3) ac_SK 158 [.ref 0, .int i1, .int i2, .int i3, .int i4] V (aa_rI fun x V1 => ab_E G (ac_ST L xs) l (d + 2) ac_SK 242 [.ref 105, .int i1, .int i2, .int i3, .int i4] V1 (aa_rI fun y W => Q x y W)) := by
  have hI' := hI
  obtain ⟨hn, hr, hw, ha, hp, ho, hb, hk, hs, hf, ht⟩ := hI'
  have hn' := hn
  obtain ⟨n1, n2⟩ := hn'
  have n2r := zb_r n2 (by decide)
  have n2s := zb_sub1 n2 (by decide)
  have hp' := hp
  obtain ⟨⟨p1, p2, p3, p4, p5, p6⟩, ⟨p7, p8, p9, p10, p11, p12⟩, ⟨p13, p14, p15, p16, p17⟩, ⟨q1, q2, q3, q4, q5, q6⟩, q7, q8, q9, q10, q11⟩ := hp'
  have p2r := zb_r p2 (by decide)
  have p2s := zb_sub1 p2 (by decide)
  have p4r := zb_r p4 (by decide)
  have p4s := zb_sub1 p4 (by decide)
  have p6r := zb_r p6 (by decide)
  have p6s := zb_sub1 p6 (by decide)
  refine sp_158 (fun g1 g2 g3 g4 g5 g6 g7 g8 g9 => by
    simp only [zz_lt, zz_eq, zl_m2, zl_m4, zl_0, zl_1, zl_11, zl_40, zl_7, zl_8, n2s, p2s, p4s, p6s] at g1 g2 g3 g4 g5 g6 g7 g8 g9
    refine vp_of_r ?_ ?_ <;> omega) ?_
  dsimp only [aa_rI, aa_rL]
  have hW : ∀ c, 104 < c → vn_158 i1 i2 i3 i4 V c = V c := by
    intro c hc
    unfold vn_158
    repeat' split
    all_goals first | rfl | (simp only [aa_up_c (show c ≠ 42 by omega), aa_up_c (show c ≠ 44 by omega), aa_up_c (show c ≠ 45 by omega), aa_up_c (show c ≠ 46 by omega), aa_up_c (show c ≠ 47 by omega), aa_up_c (show c ≠ 48 by omega)])
  obtain ⟨W, hWe⟩ : ∃ W, W = vn_158 i1 i2 i3 i4 V := ⟨_, rfl⟩
  rw [← hWe] at hW ⊢
  refine sp_242 (fun g1 g2 g3 g4 g5 g6 g7 g8 g9 => by
    try simp only [n1, p1, p3, p5, p7, p8, p9, p10, p11, p12, p13, p14, p15, p16, p17, hW 105 (by decide), hW 127 (by decide), hW 128 (by decide), hW 129 (by decide), hW 130 (by decide), hW 131 (by decide), hW 132 (by decide), hW 133 (by decide), hW 134 (by decide), hW 135 (by decide), hW 136 (by decide), hW 137 (by decide)]
    simp only [zz_lt, zz_eq, zl_m2, zl_m4, zl_0, zl_1, zl_11, zl_40, zl_7, zl_8, n2s, p2s, p4s, p6s, hW 105 (by decide), hW 127 (by decide), hW 128 (by decide), hW 129 (by decide), hW 130 (by decide), hW 131 (by decide), hW 132 (by decide), hW 133 (by decide), hW 134 (by decide), hW 135 (by decide), hW 136 (by decide), hW 137 (by decide), n1, p1, p3, p5, p7, p8, p9, p10, p11, p12, p13, p14, p15, p16, p17] at g1 g2 g3 g4 g5 g6 g7 g8 g9
    refine vp_of_r ?_ ?_ <;> omega) ?_
  dsimp only [aa_rI, aa_rL]
  have e1 : va_242 i1 i2 i3 i4 W = va_158 i1 i2 i3 i4 V := by
    simp only [va_242, va_158, hW 105 (by decide), hW 127 (by decide), hW 128 (by decide), hW 129 (by decide), hW 130 (by decide), hW 131 (by decide), hW 132 (by decide), hW 133 (by decide), hW 134 (by decide), hW 135 (by decide), hW 136 (by decide), hW 137 (by decide), n1, p1, p3, p5, p7, p8, p9, p10, p11, p12, p13, p14, p15, p16, p17, zz_lt, zz_eq, zl_m2, zl_m4, zl_0, zl_1, zl_11, zl_40, zl_7, zl_8, n2s, p2s, p4s, p6s]
    repeat' split
    all_goals first | rfl | (exfalso; omega)
  rw [e1]
  refine hQ _ _ ?_
  simp only [vn_242, hW 105 (by decide), hW 127 (by decide), hW 128 (by decide), hW 129 (by decide), hW 130 (by decide), hW 131 (by decide), hW 132 (by decide), hW 133 (by decide), hW 134 (by decide), hW 135 (by decide), hW 136 (by decide), hW 137 (by decide), n1, p1, p3, p5, p7, p8, p9, p10, p11, p12, p13, p14, p15, p16, p17, zz_lt, zz_eq, zl_m2, zl_m4, zl_0, zl_1, zl_11, zl_40, zl_7, zl_8, n2s, p2s, p4s, p6s]
  rw [hWe]
  simp only [vn_158, zz_lt, zz_eq, zl_m2, zl_m4, zl_0, zl_1, zl_11, zl_40, zl_7, zl_8, n2s, p2s, p4s, p6s]
  repeat' split
  all_goals first | exact hI | (exfalso; omega) | skip
  have z1 : zb i1 11 := zb_of_r (by omega) (by omega) (by decide)
  have z2 : zb i2 7 := zb_of_r (by omega) (by omega) (by decide)
  have z3 : zb i3 399 := zb_of_r (by omega) (by omega) (by decide)
  have z4 : zb i4 11 := zb_of_r (by omega) (by omega) (by decide)
  refine ⟨hn, nv_rc (V := V) (fun c _ _ => by rw [aa_up_c (by omega), aa_up_c (by omega), aa_up_c (by omega), aa_up_c (by omega), aa_up_c (by omega), aa_up_c (by omega), aa_up_c (by omega), aa_up_c (by omega), aa_up_c (by omega), aa_up_c (by omega), aa_up_c (by omega), aa_up_c (by omega)]) rfl hr, hw, ha, ?_, ho, hb, nv_kc (V := V) (fun c _ _ => by rw [aa_up_c (by omega), aa_up_c (by omega), aa_up_c (by omega), aa_up_c (by omega), aa_up_c (by omega), aa_up_c (by omega), aa_up_c (by omega), aa_up_c (by omega), aa_up_c (by omega), aa_up_c (by omega), aa_up_c (by omega), aa_up_c (by omega)]) rfl rfl rfl hk, nv_sc (V := V) (fun c _ _ => by rw [aa_up_c (by omega), aa_up_c (by omega), aa_up_c (by omega), aa_up_c (by omega), aa_up_c (by omega), aa_up_c (by omega), aa_up_c (by omega), aa_up_c (by omega), aa_up_c (by omega), aa_up_c (by omega), aa_up_c (by omega), aa_up_c (by omega)]) rfl rfl rfl rfl rfl hs, hf, nv_tx (V := V) (fun c _ _ => by rw [aa_up_c (by omega), aa_up_c (by omega), aa_up_c (by omega), aa_up_c (by omega), aa_up_c (by omega), aa_up_c (by omega), aa_up_c (by omega), aa_up_c (by omega), aa_up_c (by omega), aa_up_c (by omega), aa_up_c (by omega), aa_up_c (by omega)]) rfl rfl rfl rfl rfl rfl rfl rfl rfl ht⟩
  exact ⟨⟨p1, p2, rfl, zb_up p4 (by omega) (by decide), p5, p6⟩, ⟨p7, (show upd (V 128) (V 42 4).toNatClampNeg i1 = upd (V 44) (V 42 4).toNatClampNeg i1 from upd_eq p8), (show upd (V 129) (V 42 4).toNatClampNeg i2 = upd (V 45) (V 42 4).toNatClampNeg i2 from upd_eq p9), (show upd (V 130) (V 42 4).toNatClampNeg i3 = upd (V 46) (V 42 4).toNatClampNeg i3 from upd_eq p10), (show upd (V 131) (V 42 4).toNatClampNeg i4 = upd (V 47) (V 42 4).toNatClampNeg i4 from upd_eq p11), (show upd (V 132) (V 42 4).toNatClampNeg (V 0 13) = upd (V 48) (V 42 4).toNatClampNeg (V 0 13) from upd_eq p12)⟩, ⟨p13, p14, p15, p16, p17⟩, ⟨q1, (show ∀ i, zb (upd (V 44) (V 42 4).toNatClampNeg i1 i) 11 from zb_upd q2 z1), (show ∀ i, zb (upd (V 45) (V 42 4).toNatClampNeg i2 i) 7 from zb_upd q3 z2), (show ∀ i, zb (upd (V 46) (V 42 4).toNatClampNeg i3 i) 399 from zb_upd q4 z3), (show ∀ i, zb (upd (V 47) (V 42 4).toNatClampNeg i4 i) 11 from zb_upd q5 z4), (show ∀ i, zb (upd (V 48) (V 42 4).toNatClampNeg (V 0 13) i) 399 from zb_upd q6 n2)⟩, q7, q8, q9, q10, q11⟩

set_option maxRecDepth 20000 in
/-- F_word -/
theorem cs_161 {G : ab_G} {L : Nat} {xs : Nat → Int32} {l : Launch} {d : Nat} {i1 : Int32} {i2 : Int32} {i3 : Int32} {i4 : Int32} {V : aa_V} {Q : Int32 → Int32 → aa_V → Prop} (hI : nv V) (hQ : ∀ x W, nv W → Q x x W) :
    ab_E G (ac_ST L xs) l (d + 3) ac_SK 161 [.ref 0, .int i1, .int i2, .int i3, .int i4] V (aa_rI fun x V1 => ab_E G (ac_ST L xs) l (d + 2) ac_SK 249 [.ref 105, .int i1, .int i2, .int i3, .int i4] V1 (aa_rI fun y W => Q x y W)) := by
  have hI' := hI
  obtain ⟨hn, hr, hw, ha, hp, ho, hb, hk, hs, hf, ht⟩ := hI'
  have hn' := hn
  obtain ⟨n1, n2⟩ := hn'
  have n2r := zb_r n2 (by decide)
  have n2s := zb_sub1 n2 (by decide)
  have ha' := ha
  obtain ⟨⟨a1, a2⟩, ⟨a3, a4, a5⟩, a6, a7, a8⟩ := ha'
  have a2r := zb_r a2 (by decide)
  have a2s := zb_sub1 a2 (by decide)
  have hp' := hp
  obtain ⟨⟨p1, p2, p3, p4, p5, p6⟩, ⟨p7, p8, p9, p10, p11, p12⟩, ⟨p13, p14, p15, p16, p17⟩, ⟨q1, q2, q3, q4, q5, q6⟩, q7, q8, q9, q10, q11⟩ := hp'
  have p2r := zb_r p2 (by decide)
  have p2s := zb_sub1 p2 (by decide)
  have p4r := zb_r p4 (by decide)
  have p4s := zb_sub1 p4 (by decide)
  have p6r := zb_r p6 (by decide)
  have p6s := zb_sub1 p6 (by decide)
  refine sp_161 (fun g1 g2 g3 g4 g5 g6 g7 g8 g9 => by
    simp only [zz_lt, zz_eq, zl_m2, zl_m4, zl_0, zl_1, zl_24, zl_5, zl_999, n2s, a2s, p2s, p4s, p6s] at g1 g2 g3 g4 g5 g6 g7 g8 g9
    refine vp_of_r ?_ ?_ <;> omega) ?_
  dsimp only [aa_rI, aa_rL]
  have hW : ∀ c, 104 < c → vn_161 i1 i2 i3 i4 V c = V c := by
    intro c hc
    unfold vn_161
    repeat' split
    all_goals first | rfl | (simp only [aa_up_c (show c ≠ 42 by omega), aa_up_c (show c ≠ 49 by omega), aa_up_c (show c ≠ 50 by omega), aa_up_c (show c ≠ 51 by omega), aa_up_c (show c ≠ 52 by omega), aa_up_c (show c ≠ 53 by omega)])
  obtain ⟨W, hWe⟩ : ∃ W, W = vn_161 i1 i2 i3 i4 V := ⟨_, rfl⟩
  rw [← hWe] at hW ⊢
  refine sp_249 (fun g1 g2 g3 g4 g5 g6 g7 g8 g9 => by
    try simp only [n1, a1, a3, a4, a5, p1, p3, p5, p7, p8, p9, p10, p11, p12, p13, p14, p15, p16, p17, hW 105 (by decide), hW 124 (by decide), hW 125 (by decide), hW 126 (by decide), hW 127 (by decide), hW 128 (by decide), hW 129 (by decide), hW 130 (by decide), hW 131 (by decide), hW 132 (by decide), hW 133 (by decide), hW 134 (by decide), hW 135 (by decide), hW 136 (by decide), hW 137 (by decide)]
    simp only [zz_lt, zz_eq, zl_m2, zl_m4, zl_0, zl_1, zl_24, zl_5, zl_999, n2s, a2s, p2s, p4s, p6s, hW 105 (by decide), hW 124 (by decide), hW 125 (by decide), hW 126 (by decide), hW 127 (by decide), hW 128 (by decide), hW 129 (by decide), hW 130 (by decide), hW 131 (by decide), hW 132 (by decide), hW 133 (by decide), hW 134 (by decide), hW 135 (by decide), hW 136 (by decide), hW 137 (by decide), n1, a1, a3, a4, a5, p1, p3, p5, p7, p8, p9, p10, p11, p12, p13, p14, p15, p16, p17] at g1 g2 g3 g4 g5 g6 g7 g8 g9
    refine vp_of_r ?_ ?_ <;> omega) ?_
  dsimp only [aa_rI, aa_rL]
  have e1 : va_249 i1 i2 i3 i4 W = va_161 i1 i2 i3 i4 V := by
    simp only [va_249, va_161, hW 105 (by decide), hW 124 (by decide), hW 125 (by decide), hW 126 (by decide), hW 127 (by decide), hW 128 (by decide), hW 129 (by decide), hW 130 (by decide), hW 131 (by decide), hW 132 (by decide), hW 133 (by decide), hW 134 (by decide), hW 135 (by decide), hW 136 (by decide), hW 137 (by decide), n1, a1, a3, a4, a5, p1, p3, p5, p7, p8, p9, p10, p11, p12, p13, p14, p15, p16, p17, zz_lt, zz_eq, zl_m2, zl_m4, zl_0, zl_1, zl_24, zl_5, zl_999, n2s, a2s, p2s, p4s, p6s]
    repeat' split
    all_goals first | rfl | (exfalso; omega)
  rw [e1]
  refine hQ _ _ ?_
  simp only [vn_249, hW 105 (by decide), hW 124 (by decide), hW 125 (by decide), hW 126 (by decide), hW 127 (by decide), hW 128 (by decide), hW 129 (by decide), hW 130 (by decide), hW 131 (by decide), hW 132 (by decide), hW 133 (by decide), hW 134 (by decide), hW 135 (by decide), hW 136 (by decide), hW 137 (by decide), n1, a1, a3, a4, a5, p1, p3, p5, p7, p8, p9, p10, p11, p12, p13, p14, p15, p16, p17, zz_lt, zz_eq, zl_m2, zl_m4, zl_0, zl_1, zl_24, zl_5, zl_999, n2s, a2s, p2s, p4s, p6s]
  rw [hWe]
  simp only [vn_161, zz_lt, zz_eq, zl_m2, zl_m4, zl_0, zl_1, zl_24, zl_5, zl_999, n2s, a2s, p2s, p4s, p6s]
  repeat' split
  all_goals first | exact hI | (exfalso; omega) | skip
  have z1 : zb i1 5 := zb_of_r (by omega) (by omega) (by decide)
  have z2 : zb i2 11 := zb_of_r (by omega) (by omega) (by decide)
  have z3 : zb i3 29 := zb_of_r (by omega) (by omega) (by decide)
  have z4 : zb i4 999 := zb_of_r (by omega) (by omega) (by decide)
  refine ⟨hn, nv_rc (V := V) (fun c _ _ => by rw [aa_up_c (by omega), aa_up_c (by omega), aa_up_c (by omega), aa_up_c (by omega), aa_up_c (by omega), aa_up_c (by omega), aa_up_c (by omega), aa_up_c (by omega), aa_up_c (by omega), aa_up_c (by omega), aa_up_c (by omega), aa_up_c (by omega)]) rfl hr, hw, ha, ?_, ho, hb, nv_kc (V := V) (fun c _ _ => by rw [aa_up_c (by omega), aa_up_c (by omega), aa_up_c (by omega), aa_up_c (by omega), aa_up_c (by omega), aa_up_c (by omega), aa_up_c (by omega), aa_up_c (by omega), aa_up_c (by omega), aa_up_c (by omega), aa_up_c (by omega), aa_up_c (by omega)]) rfl rfl rfl hk, nv_sc (V := V) (fun c _ _ => by rw [aa_up_c (by omega), aa_up_c (by omega), aa_up_c (by omega), aa_up_c (by omega), aa_up_c (by omega), aa_up_c (by omega), aa_up_c (by omega), aa_up_c (by omega), aa_up_c (by omega), aa_up_c (by omega), aa_up_c (by omega), aa_up_c (by omega)]) rfl rfl rfl rfl rfl hs, hf, nv_tx (V := V) (fun c _ _ => by rw [aa_up_c (by omega), aa_up_c (by omega), aa_up_c (by omega), aa_up_c (by omega), aa_up_c (by omega), aa_up_c (by omega), aa_up_c (by omega), aa_up_c (by omega), aa_up_c (by omega), aa_up_c (by omega), aa_up_c (by omega), aa_up_c (by omega)]) rfl rfl rfl rfl rfl rfl rfl rfl rfl ht⟩
  exact ⟨⟨p1, p2, p3, p4, rfl, zb_up p6 (by omega) (by decide)⟩, ⟨p7, p8, p9, p10, p11, p12⟩, ⟨(show upd (V 133) (V 42 10).toNatClampNeg i1 = upd (V 49) (V 42 10).toNatClampNeg i1 from upd_eq p13), (show upd (V 134) (V 42 10).toNatClampNeg i2 = upd (V 50) (V 42 10).toNatClampNeg i2 from upd_eq p14), (show upd (V 135) (V 42 10).toNatClampNeg i3 = upd (V 51) (V 42 10).toNatClampNeg i3 from upd_eq p15), (show upd (V 136) (V 42 10).toNatClampNeg i4 = upd (V 52) (V 42 10).toNatClampNeg i4 from upd_eq p16), (show upd (V 137) (V 42 10).toNatClampNeg (V 0 13) = upd (V 53) (V 42 10).toNatClampNeg (V 0 13) from upd_eq p17)⟩, ⟨q1, q2, q3, q4, q5, q6⟩, (show ∀ i, zb (upd (V 49) (V 42 10).toNatClampNeg i1 i) 5 from zb_upd q7 z1), (show ∀ i, zb (upd (V 50) (V 42 10).toNatClampNeg i2 i) 11 from zb_upd q8 z2), (show ∀ i, zb (upd (V 51) (V 42 10).toNatClampNeg i3 i) 29 from zb_upd q9 z3), (show ∀ i, zb (upd (V 52) (V 42 10).toNatClampNeg i4 i) 999 from zb_upd q10 z4), (show ∀ i, zb (upd (V 53) (V 42 10).toNatClampNeg (V 0 13) i) 399 from zb_upd q11 n2)⟩

set_option maxRecDepth 20000 in
/-- F_taker -/
theorem cs_167 {G : ab_G} {L : Nat} {xs : Nat → Int32} {l : Launch} {d : Nat} {i1 : Int32} {i2 : Int32} {V : aa_V} {Q : Int32 → Int32 → aa_V → Prop} (hI : nv V) (hQ : ∀ x W, nv W → Q x x W) :
    ab_E G (ac_ST L xs) l (d + 3) ac_SK 167 [.ref 0, .int i1, .int i2] V (aa_rI fun x V1 => ab_E G (ac_ST L xs) l (d + 2) ac_SK 258 [.ref 105, .int i1, .int i2] V1 (aa_rI fun y W => Q x y W)) := by
  have hI' := hI
  obtain ⟨hn, hr, hw, ha, hp, ho, hb, hk, hs, hf, ht⟩ := hI'
  have hp' := hp
  obtain ⟨⟨p1, p2, p3, p4, p5, p6⟩, ⟨p7, p8, p9, p10, p11, p12⟩, ⟨p13, p14, p15, p16, p17⟩, ⟨q1, q2, q3, q4, q5, q6⟩, q7, q8, q9, q10, q11⟩ := hp'
  have p2r := zb_r p2 (by decide)
  have p2s := zb_sub1 p2 (by decide)
  have p4r := zb_r p4 (by decide)
  have p4s := zb_sub1 p4 (by decide)
  have p6r := zb_r p6 (by decide)
  have p6s := zb_sub1 p6 (by decide)
  have ho' := ho
  obtain ⟨⟨o1, o2, o3, o4⟩, o5, o6, o7, o8, o9⟩ := ho'
  have o2r := zb_r o2 (by decide)
  have o2s := zb_sub1 o2 (by decide)
  refine sp_167 (fun g1 g2 g3 g4 => by
    simp only [zz_lt, zz_eq, zl_m1, zl_m5, zl_0, zl_1, zl_399, p2s, p4s, p6s, o2s] at g1 g2 g3 g4
    refine vp_of_r ?_ ?_ <;> omega) ?_
  dsimp only [aa_rI, aa_rL]
  have hW : ∀ c, 104 < c → vn_167 i1 i2 V c = V c := by
    intro c hc
    unfold vn_167
    repeat' split
    all_goals first | rfl | (simp only [aa_up_c (show c ≠ 58 by omega)])
  obtain ⟨W, hWe⟩ : ∃ W, W = vn_167 i1 i2 V := ⟨_, rfl⟩
  rw [← hWe] at hW ⊢
  refine sp_258 (fun g1 g2 g3 g4 => by
    try simp only [p1, p3, p5, p7, p8, p9, p10, p11, p12, p13, p14, p15, p16, p17, o1, o3, hW 105 (by decide), hW 127 (by decide), hW 128 (by decide), hW 129 (by decide), hW 130 (by decide), hW 131 (by decide), hW 132 (by decide), hW 133 (by decide), hW 134 (by decide), hW 135 (by decide), hW 136 (by decide), hW 137 (by decide), hW 138 (by decide), hW 139 (by decide), hW 140 (by decide), hW 141 (by decide), hW 142 (by decide)]
    simp only [zz_lt, zz_eq, zl_m1, zl_m5, zl_0, zl_1, zl_399, p2s, p4s, p6s, o2s, hW 105 (by decide), hW 127 (by decide), hW 128 (by decide), hW 129 (by decide), hW 130 (by decide), hW 131 (by decide), hW 132 (by decide), hW 133 (by decide), hW 134 (by decide), hW 135 (by decide), hW 136 (by decide), hW 137 (by decide), hW 138 (by decide), hW 139 (by decide), hW 140 (by decide), hW 141 (by decide), hW 142 (by decide), p1, p3, p5, p7, p8, p9, p10, p11, p12, p13, p14, p15, p16, p17, o1, o3] at g1 g2 g3 g4
    refine vp_of_r ?_ ?_ <;> omega) ?_
  dsimp only [aa_rI, aa_rL]
  have e1 : va_258 i1 i2 W = va_167 i1 i2 V := by
    simp only [va_258, va_167, hW 105 (by decide), hW 127 (by decide), hW 128 (by decide), hW 129 (by decide), hW 130 (by decide), hW 131 (by decide), hW 132 (by decide), hW 133 (by decide), hW 134 (by decide), hW 135 (by decide), hW 136 (by decide), hW 137 (by decide), hW 138 (by decide), hW 139 (by decide), hW 140 (by decide), hW 141 (by decide), hW 142 (by decide), p1, p3, p5, p7, p8, p9, p10, p11, p12, p13, p14, p15, p16, p17, o1, o3, zz_lt, zz_eq, zl_m1, zl_m5, zl_0, zl_1, zl_399, p2s, p4s, p6s, o2s]
    repeat' split
    all_goals first | rfl | (exfalso; omega)
  rw [e1]
  refine hQ _ _ ?_
  simp only [vn_258, hW 105 (by decide), hW 127 (by decide), hW 128 (by decide), hW 129 (by decide), hW 130 (by decide), hW 131 (by decide), hW 132 (by decide), hW 133 (by decide), hW 134 (by decide), hW 135 (by decide), hW 136 (by decide), hW 137 (by decide), hW 138 (by decide), hW 139 (by decide), hW 140 (by decide), hW 141 (by decide), hW 142 (by decide), p1, p3, p5, p7, p8, p9, p10, p11, p12, p13, p14, p15, p16, p17, o1, o3, zz_lt, zz_eq, zl_m1, zl_m5, zl_0, zl_1, zl_399, p2s, p4s, p6s, o2s]
  rw [hWe]
  simp only [vn_167, zz_lt, zz_eq, zl_m1, zl_m5, zl_0, zl_1, zl_399, p2s, p4s, p6s, o2s]
  repeat' split
  all_goals first | exact hI | (exfalso; omega) | skip
  refine ⟨hn, nv_rc (V := V) (fun c _ _ => by rw [aa_up_c (by omega), aa_up_c (by omega)]) rfl hr, hw, ha, hp, ?_, hb, nv_kc (V := V) (fun c _ _ => by rw [aa_up_c (by omega), aa_up_c (by omega)]) rfl rfl rfl hk, nv_sc (V := V) (fun c _ _ => by rw [aa_up_c (by omega), aa_up_c (by omega)]) rfl rfl rfl rfl rfl hs, hf, nv_tx (V := V) (fun c _ _ => by rw [aa_up_c (by omega), aa_up_c (by omega)]) rfl rfl rfl rfl rfl rfl rfl rfl rfl ht⟩
  refine ⟨⟨o1, o2, (show upd (V 142) i1.toNatClampNeg i2 = upd (V 58) i1.toNatClampNeg i2 from upd_eq o3), fun i hi => ?_⟩, o5, o6, o7, o8, o9⟩
  show upd (V 58) i1.toNatClampNeg i2 i = -1 ∨ zb (upd (V 58) i1.toNatClampNeg i2 i) 399
  unfold upd
  by_cases e : i = i1.toNatClampNeg
  · rw [if_pos e]
    by_cases e2 : i2.toInt = -1
    · exact Or.inl (by rw [zz_eq, e2]; rfl)
    · exact Or.inr (zb_of_r (by omega) (by omega) (by decide))
  · rw [if_neg e]
    exact o4 i hi

set_option maxRecDepth 20000 in
/-- F_clause -/
theorem cs_171 {G : ab_G} {L : Nat} {xs : Nat → Int32} {l : Launch} {d : Nat} {i1 : Int32} {i2 : Int32} {V : aa_V} {Q : Int32 → Int32 → aa_V → Prop} (hI : nv V) (hQ : ∀ x W, nv W → Q x x W) :
    ab_E G (ac_ST L xs) l (d + 2) ac_SK 171 [.ref 0, .int i1, .int i2] V (aa_rI fun x V1 => ab_E G (ac_ST L xs) l (d + 2) ac_SK 266 [.ref 105, .int i1, .int i2] V1 (aa_rI fun y W => Q x y W)) := by
  have hI' := hI
  obtain ⟨hn, hr, hw, ha, hp, ho, hb, hk, hs, hf, ht⟩ := hI'
  have hb' := hb
  obtain ⟨⟨b1, b2⟩, ⟨b3, b4, b5⟩, b6, b7⟩ := hb'
  have b2r := zb_r b2 (by decide)
  have b2s := zb_sub1 b2 (by decide)
  refine sp_171 (fun g1 g2 g3 g4 g5 => by
    simp only [zz_lt, zz_eq, zl_m2, zl_m4, zl_m99, zl_0, zl_1, zl_8, zl_99, b2s] at g1 g2 g3 g4 g5
    refine vp_of_r ?_ ?_ <;> omega) ?_
  dsimp only [aa_rI, aa_rL]
  have hW : ∀ c, 104 < c → vn_171 i1 i2 V c = V c := by
    intro c hc
    unfold vn_171
    repeat' split
    all_goals first | rfl | (simp only [aa_up_c (show c ≠ 60 by omega), aa_up_c (show c ≠ 61 by omega), aa_up_c (show c ≠ 62 by omega)])
  obtain ⟨W, hWe⟩ : ∃ W, W = vn_171 i1 i2 V := ⟨_, rfl⟩
  rw [← hWe] at hW ⊢
  refine sp_266 (fun g1 g2 g3 g4 g5 => by
    try simp only [b1, b3, b4, b5, hW 105 (by decide), hW 143 (by decide), hW 144 (by decide), hW 145 (by decide)]
    simp only [zz_lt, zz_eq, zl_m2, zl_m4, zl_m99, zl_0, zl_1, zl_8, zl_99, b2s, hW 105 (by decide), hW 143 (by decide), hW 144 (by decide), hW 145 (by decide), b1, b3, b4, b5] at g1 g2 g3 g4 g5
    refine vp_of_r ?_ ?_ <;> omega) ?_
  dsimp only [aa_rI, aa_rL]
  have e1 : va_266 i1 i2 W = va_171 i1 i2 V := by
    simp only [va_266, va_171, hW 105 (by decide), hW 143 (by decide), hW 144 (by decide), hW 145 (by decide), b1, b3, b4, b5, zz_lt, zz_eq, zl_m2, zl_m4, zl_m99, zl_0, zl_1, zl_8, zl_99, b2s]
    repeat' split
    all_goals first | rfl | (exfalso; omega)
  rw [e1]
  refine hQ _ _ ?_
  simp only [vn_266, hW 105 (by decide), hW 143 (by decide), hW 144 (by decide), hW 145 (by decide), b1, b3, b4, b5, zz_lt, zz_eq, zl_m2, zl_m4, zl_m99, zl_0, zl_1, zl_8, zl_99, b2s]
  rw [hWe]
  simp only [vn_171, zz_lt, zz_eq, zl_m2, zl_m4, zl_m99, zl_0, zl_1, zl_8, zl_99, b2s]
  repeat' split
  all_goals first | exact hI | (exfalso; omega) | skip
  refine ⟨hn, nv_rc (V := V) (fun c _ _ => by rw [aa_up_c (by omega), aa_up_c (by omega), aa_up_c (by omega), aa_up_c (by omega), aa_up_c (by omega), aa_up_c (by omega)]) rfl hr, hw, ha, hp, ho, ?_, nv_kc (V := V) (fun c _ _ => by rw [aa_up_c (by omega), aa_up_c (by omega), aa_up_c (by omega), aa_up_c (by omega), aa_up_c (by omega), aa_up_c (by omega)]) rfl rfl rfl hk, nv_sc (V := V) (fun c _ _ => by rw [aa_up_c (by omega), aa_up_c (by omega), aa_up_c (by omega), aa_up_c (by omega), aa_up_c (by omega), aa_up_c (by omega)]) rfl rfl rfl rfl rfl hs, hf, nv_tx (V := V) (fun c _ _ => by rw [aa_up_c (by omega), aa_up_c (by omega), aa_up_c (by omega), aa_up_c (by omega), aa_up_c (by omega), aa_up_c (by omega)]) rfl rfl rfl rfl rfl rfl rfl rfl rfl ht⟩
  have z1 : nv_g i1 := by unfold nv_g; omega
  have z2 : nv_g i2 := by unfold nv_g; omega
  exact ⟨⟨rfl, zb_up b2 (by omega) (by decide)⟩, ⟨(show upd (V 143) (V 60 0).toNatClampNeg i1 = upd (V 61) (V 60 0).toNatClampNeg i1 from upd_eq b3), (show upd (V 144) (V 60 0).toNatClampNeg i2 = upd (V 62) (V 60 0).toNatClampNeg i2 from upd_eq b4), b5⟩, (show ∀ i, nv_g (upd (V 61) (V 60 0).toNatClampNeg i1 i) from upd_p (P := nv_g) b6 z1), (show ∀ i, nv_g (upd (V 62) (V 60 0).toNatClampNeg i2 i) from upd_p (P := nv_g) b7 z2)⟩

set_option maxRecDepth 20000 in
/-- F_mend -/
theorem cs_145 {G : ab_G} {L : Nat} {xs : Nat → Int32} {l : Launch} {d : Nat} {i1 : Int32} {i2 : Int32} {V : aa_V} {Q : Int32 → Int32 → aa_V → Prop} (hI : nv V) (hQ : ∀ x W, nv W → Q x x W) :
    ab_E G (ac_ST L xs) l (d + 3) ac_SK 145 [.ref 0, .int i1, .int i2] V (aa_rI fun x V1 => ab_E G (ac_ST L xs) l (d + 2) ac_SK 208 [.ref 105, .int i1, .int i2] V1 (aa_rI fun y W => Q x y W)) := by
  have hI' := hI
  obtain ⟨hn, hr, hw, ha, hp, ho, hb, hk, hs, hf, ht⟩ := hI'
  have hw' := hw
  obtain ⟨⟨w1, w2, w3, w4⟩, ⟨w5, w6, w7, w8, w9, w10, w11, w12⟩, s1, s2, s3, s4, s5, s6, s7, s8⟩ := hw'
  have w2r := zb_r w2 (by decide)
  have w2s := zb_sub1 w2 (by decide)
  have w4r := zb_r w4 (by decide)
  have w4s := zb_sub1 w4 (by decide)
  refine sp_145 (fun g1 g2 g3 g4 g5 => by
    simp only [zz_lt, zz_eq, zl_m2, zl_m3, zl_0, zl_1, zl_2, w2s, w4s] at g1 g2 g3 g4 g5
    refine vp_of_r ?_ ?_ <;> omega) (fun g1 g2 g3 g4 g5 g6 => by
    simp only [zz_lt, zz_eq, zl_m2, zl_m3, zl_0, zl_1, zl_2, w2s, w4s] at g1 g2 g3 g4 g5 g6
    refine vp_of_r ?_ ?_ <;> omega) (fun g1 g2 g3 g4 g5 g6 => by
    simp only [zz_lt, zz_eq, zl_m2, zl_m3, zl_0, zl_1, zl_2, w2s, w4s] at g1 g2 g3 g4 g5 g6
    refine vp_of_r ?_ ?_ <;> omega) ?_
  dsimp only [aa_rI, aa_rL]
  have hW : ∀ c, 104 < c → vn_145 i1 i2 V c = V c := by
    intro c hc
    unfold vn_145 vn_121
    repeat' split
    all_goals first | rfl | (simp only [aa_up_c (show c ≠ 36 by omega)])
  obtain ⟨W, hWe⟩ : ∃ W, W = vn_145 i1 i2 V := ⟨_, rfl⟩
  rw [← hWe] at hW ⊢
  refine sp_208 (fun g1 g2 g3 g4 g5 => by
    try simp only [w1, w3, w5, w6, w7, w8, w9, w10, w11, w12, hW 105 (by decide), hW 108 (by decide), hW 109 (by decide), hW 110 (by decide), hW 111 (by decide), hW 112 (by decide), hW 113 (by decide), hW 114 (by decide), hW 115 (by decide)]
    simp only [zz_lt, zz_eq, zl_m2, zl_m3, zl_0, zl_1, zl_2, w2s, w4s, hW 105 (by decide), hW 108 (by decide), hW 109 (by decide), hW 110 (by decide), hW 111 (by decide), hW 112 (by decide), hW 113 (by decide), hW 114 (by decide), hW 115 (by decide), w1, w3, w5, w6, w7, w8, w9, w10, w11, w12] at g1 g2 g3 g4 g5
    refine vp_of_r ?_ ?_ <;> omega) (fun g1 g2 g3 g4 g5 g6 => by
    try simp only [w1, w3, w5, w6, w7, w8, w9, w10, w11, w12, hW 105 (by decide), hW 108 (by decide), hW 109 (by decide), hW 110 (by decide), hW 111 (by decide), hW 112 (by decide), hW 113 (by decide), hW 114 (by decide), hW 115 (by decide)]
    simp only [zz_lt, zz_eq, zl_m2, zl_m3, zl_0, zl_1, zl_2, w2s, w4s, hW 105 (by decide), hW 108 (by decide), hW 109 (by decide), hW 110 (by decide), hW 111 (by decide), hW 112 (by decide), hW 113 (by decide), hW 114 (by decide), hW 115 (by decide), w1, w3, w5, w6, w7, w8, w9, w10, w11, w12] at g1 g2 g3 g4 g5 g6
    refine vp_of_r ?_ ?_ <;> omega) (fun g1 g2 g3 g4 g5 g6 => by
    try simp only [w1, w3, w5, w6, w7, w8, w9, w10, w11, w12, hW 105 (by decide), hW 108 (by decide), hW 109 (by decide), hW 110 (by decide), hW 111 (by decide), hW 112 (by decide), hW 113 (by decide), hW 114 (by decide), hW 115 (by decide)]
    simp only [zz_lt, zz_eq, zl_m2, zl_m3, zl_0, zl_1, zl_2, w2s, w4s, hW 105 (by decide), hW 108 (by decide), hW 109 (by decide), hW 110 (by decide), hW 111 (by decide), hW 112 (by decide), hW 113 (by decide), hW 114 (by decide), hW 115 (by decide), w1, w3, w5, w6, w7, w8, w9, w10, w11, w12] at g1 g2 g3 g4 g5 g6
    refine vp_of_r ?_ ?_ <;> omega) ?_
  dsimp only [aa_rI, aa_rL]
  have e1 : va_208 i1 i2 W = va_145 i1 i2 V := by
    simp only [va_208, va_145, va_121, hW 105 (by decide), hW 108 (by decide), hW 109 (by decide), hW 110 (by decide), hW 111 (by decide), hW 112 (by decide), hW 113 (by decide), hW 114 (by decide), hW 115 (by decide), w1, w3, w5, w6, w7, w8, w9, w10, w11, w12, zz_lt, zz_eq, zl_m2, zl_m3, zl_0, zl_1, zl_2, w2s, w4s]
    repeat' split
    all_goals first | rfl | (exfalso; omega)
  rw [e1]
  refine hQ _ _ ?_
  simp only [vn_208, hW 105 (by decide), hW 108 (by decide), hW 109 (by decide), hW 110 (by decide), hW 111 (by decide), hW 112 (by decide), hW 113 (by decide), hW 114 (by decide), hW 115 (by decide), w1, w3, w5, w6, w7, w8, w9, w10, w11, w12, zz_lt, zz_eq, zl_m2, zl_m3, zl_0, zl_1, zl_2, w2s, w4s]
  rw [hWe]
  simp only [vn_145, vn_121, zz_lt, zz_eq, zl_m2, zl_m3, zl_0, zl_1, zl_2, w2s, w4s]
  repeat' split
  all_goals first | exact hI | (exfalso; omega) | skip
  refine ⟨hn, nv_rc (V := V) (fun c _ _ => by rw [aa_up_c (by omega), aa_up_c (by omega)]) rfl hr, ?_, ha, hp, ho, hb, nv_kc (V := V) (fun c _ _ => by rw [aa_up_c (by omega), aa_up_c (by omega)]) rfl rfl rfl hk, nv_sc (V := V) (fun c _ _ => by rw [aa_up_c (by omega), aa_up_c (by omega)]) rfl rfl rfl rfl rfl hs, hf, nv_tx (V := V) (fun c _ _ => by rw [aa_up_c (by omega), aa_up_c (by omega)]) rfl rfl rfl rfl rfl rfl rfl rfl rfl ht⟩

set_option maxRecDepth 20000 in
/-- F_against -/
theorem cs_172 {G : ab_G} {L : Nat} {xs : Nat → Int32} {l : Launch} {d : Nat} {i1 : Int32} {i2 : Int32} {V : aa_V} {Q : Int32 → Int32 → aa_V → Prop} (hI : nv V) (hQ : ∀ x W, nv W → Q x x W) :
    ab_E G (ac_ST L xs) l (d + 3) ac_SK 172 [.ref 0, .int i1, .int i2] V (aa_rI fun x V1 => ab_E G (ac_ST L xs) l (d + 2) ac_SK 267 [.ref 105, .int i1, .int i2] V1 (aa_rI fun y W => Q x y W)) := by
  have hI' := hI
  obtain ⟨hn, hr, hw, ha, hp, ho, hb, hk, hs, hf, ht⟩ := hI'
  have hb' := hb
  obtain ⟨⟨b1, b2⟩, ⟨b3, b4, b5⟩, b6, b7⟩ := hb'
  have b2r := zb_r b2 (by decide)
  have b2s := zb_sub1 b2 (by decide)
  refine sp_172 (fun g1 g2 g3 g4 g5 => by
    simp only [zz_lt, zz_eq, zl_m2, zl_0, zl_1, b2s] at g1 g2 g3 g4 g5
    refine vp_of_r ?_ ?_ <;> omega) (fun g1 g2 g3 g4 g5 g6 => by
    simp only [zz_lt, zz_eq, zl_m2, zl_0, zl_1, b2s] at g1 g2 g3 g4 g5 g6
    refine vp_of_r ?_ ?_ <;> omega) (fun g1 g2 g3 g4 g5 g6 => by
    simp only [zz_lt, zz_eq, zl_m2, zl_0, zl_1, b2s] at g1 g2 g3 g4 g5 g6
    refine vp_of_r ?_ ?_ <;> omega) ?_
  dsimp only [aa_rI, aa_rL]
  have hW : ∀ c, 104 < c → vn_172 i1 i2 V c = V c := by
    intro c hc
    unfold vn_172
    repeat' split
    all_goals first | rfl | (simp only [aa_up_c (show c ≠ 63 by omega)])
  obtain ⟨W, hWe⟩ : ∃ W, W = vn_172 i1 i2 V := ⟨_, rfl⟩
  rw [← hWe] at hW ⊢
  refine sp_267 (fun g1 g2 g3 g4 g5 => by
    try simp only [b1, b3, b4, b5, hW 105 (by decide), hW 143 (by decide), hW 144 (by decide), hW 145 (by decide)]
    simp only [zz_lt, zz_eq, zl_m2, zl_0, zl_1, b2s, hW 105 (by decide), hW 143 (by decide), hW 144 (by decide), hW 145 (by decide), b1, b3, b4, b5] at g1 g2 g3 g4 g5
    refine vp_of_r ?_ ?_ <;> omega) (fun g1 g2 g3 g4 g5 g6 => by
    try simp only [b1, b3, b4, b5, hW 105 (by decide), hW 143 (by decide), hW 144 (by decide), hW 145 (by decide)]
    simp only [zz_lt, zz_eq, zl_m2, zl_0, zl_1, b2s, hW 105 (by decide), hW 143 (by decide), hW 144 (by decide), hW 145 (by decide), b1, b3, b4, b5] at g1 g2 g3 g4 g5 g6
    refine vp_of_r ?_ ?_ <;> omega) (fun g1 g2 g3 g4 g5 g6 => by
    try simp only [b1, b3, b4, b5, hW 105 (by decide), hW 143 (by decide), hW 144 (by decide), hW 145 (by decide)]
    simp only [zz_lt, zz_eq, zl_m2, zl_0, zl_1, b2s, hW 105 (by decide), hW 143 (by decide), hW 144 (by decide), hW 145 (by decide), b1, b3, b4, b5] at g1 g2 g3 g4 g5 g6
    refine vp_of_r ?_ ?_ <;> omega) ?_
  dsimp only [aa_rI, aa_rL]
  have e1 : va_267 i1 i2 W = va_172 i1 i2 V := by
    simp only [va_267, va_172, hW 105 (by decide), hW 143 (by decide), hW 144 (by decide), hW 145 (by decide), b1, b3, b4, b5, zz_lt, zz_eq, zl_m2, zl_0, zl_1, b2s]
    repeat' split
    all_goals first | rfl | (exfalso; omega)
  rw [e1]
  refine hQ _ _ ?_
  simp only [vn_267, hW 105 (by decide), hW 143 (by decide), hW 144 (by decide), hW 145 (by decide), b1, b3, b4, b5, zz_lt, zz_eq, zl_m2, zl_0, zl_1, b2s]
  rw [hWe]
  simp only [vn_172, zz_lt, zz_eq, zl_m2, zl_0, zl_1, b2s]
  repeat' split
  all_goals first | exact hI | (exfalso; omega) | skip
  refine ⟨hn, nv_rc (V := V) (fun c _ _ => by rw [aa_up_c (by omega), aa_up_c (by omega), aa_up_c (by omega), aa_up_c (by omega)]) rfl hr, hw, ha, hp, ho, ?_, nv_kc (V := V) (fun c _ _ => by rw [aa_up_c (by omega), aa_up_c (by omega), aa_up_c (by omega), aa_up_c (by omega)]) rfl rfl rfl hk, nv_sc (V := V) (fun c _ _ => by rw [aa_up_c (by omega), aa_up_c (by omega), aa_up_c (by omega), aa_up_c (by omega)]) rfl rfl rfl rfl rfl hs, hf, nv_tx (V := V) (fun c _ _ => by rw [aa_up_c (by omega), aa_up_c (by omega), aa_up_c (by omega), aa_up_c (by omega)]) rfl rfl rfl rfl rfl rfl rfl rfl rfl ht⟩

set_option maxRecDepth 20000 in
/-- F_frameTold -/
theorem cs_144 {G : ab_G} {L : Nat} {xs : Nat → Int32} {l : Launch} {d : Nat} {i1 : Int32} {i2 : Int32} {V : aa_V} {Q : Int64 → Int64 → aa_V → Prop} (hI : nv V) (hQ : ∀ x W, nv W → Q x x W) :
    ab_E G (ac_ST L xs) l (d + 4) ac_SK 144 [.ref 0, .int i1, .int i2] V (aa_rL fun x V1 => ab_E G (ac_ST L xs) l (d + 3) ac_SK 207 [.ref 105, .int i1, .int i2] V1 (aa_rL fun y W => Q x y W)) := by
  have hI' := hI
  obtain ⟨hn, hr, hw, ha, hp, ho, hb, hk, hs, hf, ht⟩ := hI'
  have hw' := hw
  obtain ⟨⟨w1, w2, w3, w4⟩, ⟨w5, w6, w7, w8, w9, w10, w11, w12⟩, s1, s2, s3, s4, s5, s6, s7, s8⟩ := hw'
  have w2r := zb_r w2 (by decide)
  have w2s := zb_sub1 w2 (by decide)
  have w4r := zb_r w4 (by decide)
  have w4s := zb_sub1 w4 (by decide)
  refine sp_144 (fun g1 g2 g3 => by
    simp only [zz_lt, zz_eq, zl_0, zl_1, w2s, w4s] at g1 g2 g3
    refine vp_of_r ?_ ?_ <;> omega) (fun g1 g2 g3 g4 => by
    simp only [zz_lt, zz_eq, zl_0, zl_1, w2s, w4s] at g1 g2 g3 g4
    refine vp_of_r ?_ ?_ <;> omega) (fun g1 g2 g3 g4 g5 => by
    simp only [zz_lt, zz_eq, zl_0, zl_1, w2s, w4s] at g1 g2 g3 g4 g5
    refine vp_of_r ?_ ?_ <;> omega) (fun g1 g2 g3 g4 g5 g6 => by
    simp only [zz_lt, zz_eq, zl_0, zl_1, w2s, w4s] at g1 g2 g3 g4 g5 g6
    refine vp_of_r ?_ ?_ <;> omega) (fun g1 g2 g3 g4 g5 g6 g7 => by
    simp only [zz_lt, zz_eq, zl_0, zl_1, w2s, w4s] at g1 g2 g3 g4 g5 g6 g7
    refine vp_of_r ?_ ?_ <;> omega) (fun g1 g2 g3 g4 g5 g6 g7 g8 => by
    simp only [zz_lt, zz_eq, zl_0, zl_1, w2s, w4s] at g1 g2 g3 g4 g5 g6 g7 g8
    refine vp_of_r ?_ ?_ <;> omega) (fun g1 g2 g3 g4 g5 g6 g7 g8 g9 => by
    simp only [zz_lt, zz_eq, zl_0, zl_1, w2s, w4s] at g1 g2 g3 g4 g5 g6 g7 g8 g9
    refine vp_of_r ?_ ?_ <;> omega) (fun g1 g2 g3 g4 g5 g6 g7 g8 g9 g10 => by
    simp only [zz_lt, zz_eq, zl_0, zl_1, w2s, w4s] at g1 g2 g3 g4 g5 g6 g7 g8 g9 g10
    refine vp_of_r ?_ ?_ <;> omega) (fun g1 g2 g3 g4 g5 g6 g7 g8 g9 g10 g11 => by
    simp only [zz_lt, zz_eq, zl_0, zl_1, w2s, w4s] at g1 g2 g3 g4 g5 g6 g7 g8 g9 g10 g11
    refine vp_of_r ?_ ?_ <;> omega) ?_
  dsimp only [aa_rI, aa_rL]
  refine sp_207 (fun g1 g2 g3 => by
    try simp only [w1, w3, w5, w6, w7, w8, w9, w10, w11, w12]
    simp only [zz_lt, zz_eq, zl_0, zl_1, w2s, w4s, w1, w3, w5, w6, w7, w8, w9, w10, w11, w12] at g1 g2 g3
    refine vp_of_r ?_ ?_ <;> omega) (fun g1 g2 g3 g4 => by
    try simp only [w1, w3, w5, w6, w7, w8, w9, w10, w11, w12]
    simp only [zz_lt, zz_eq, zl_0, zl_1, w2s, w4s, w1, w3, w5, w6, w7, w8, w9, w10, w11, w12] at g1 g2 g3 g4
    refine vp_of_r ?_ ?_ <;> omega) (fun g1 g2 g3 g4 g5 => by
    try simp only [w1, w3, w5, w6, w7, w8, w9, w10, w11, w12]
    simp only [zz_lt, zz_eq, zl_0, zl_1, w2s, w4s, w1, w3, w5, w6, w7, w8, w9, w10, w11, w12] at g1 g2 g3 g4 g5
    refine vp_of_r ?_ ?_ <;> omega) (fun g1 g2 g3 g4 g5 g6 => by
    try simp only [w1, w3, w5, w6, w7, w8, w9, w10, w11, w12]
    simp only [zz_lt, zz_eq, zl_0, zl_1, w2s, w4s, w1, w3, w5, w6, w7, w8, w9, w10, w11, w12] at g1 g2 g3 g4 g5 g6
    refine vp_of_r ?_ ?_ <;> omega) (fun g1 g2 g3 g4 g5 g6 g7 => by
    try simp only [w1, w3, w5, w6, w7, w8, w9, w10, w11, w12]
    simp only [zz_lt, zz_eq, zl_0, zl_1, w2s, w4s, w1, w3, w5, w6, w7, w8, w9, w10, w11, w12] at g1 g2 g3 g4 g5 g6 g7
    refine vp_of_r ?_ ?_ <;> omega) (fun g1 g2 g3 g4 g5 g6 g7 g8 => by
    try simp only [w1, w3, w5, w6, w7, w8, w9, w10, w11, w12]
    simp only [zz_lt, zz_eq, zl_0, zl_1, w2s, w4s, w1, w3, w5, w6, w7, w8, w9, w10, w11, w12] at g1 g2 g3 g4 g5 g6 g7 g8
    refine vp_of_r ?_ ?_ <;> omega) (fun g1 g2 g3 g4 g5 g6 g7 g8 g9 => by
    try simp only [w1, w3, w5, w6, w7, w8, w9, w10, w11, w12]
    simp only [zz_lt, zz_eq, zl_0, zl_1, w2s, w4s, w1, w3, w5, w6, w7, w8, w9, w10, w11, w12] at g1 g2 g3 g4 g5 g6 g7 g8 g9
    refine vp_of_r ?_ ?_ <;> omega) (fun g1 g2 g3 g4 g5 g6 g7 g8 g9 g10 => by
    try simp only [w1, w3, w5, w6, w7, w8, w9, w10, w11, w12]
    simp only [zz_lt, zz_eq, zl_0, zl_1, w2s, w4s, w1, w3, w5, w6, w7, w8, w9, w10, w11, w12] at g1 g2 g3 g4 g5 g6 g7 g8 g9 g10
    refine vp_of_r ?_ ?_ <;> omega) (fun g1 g2 g3 g4 g5 g6 g7 g8 g9 g10 g11 => by
    try simp only [w1, w3, w5, w6, w7, w8, w9, w10, w11, w12]
    simp only [zz_lt, zz_eq, zl_0, zl_1, w2s, w4s, w1, w3, w5, w6, w7, w8, w9, w10, w11, w12] at g1 g2 g3 g4 g5 g6 g7 g8 g9 g10 g11
    refine vp_of_r ?_ ?_ <;> omega) ?_
  dsimp only [aa_rI, aa_rL]
  have e1 : va_207 i1 i2 V = va_144 i1 i2 V := by
    simp only [va_207, va_144, w1, w3, w5, w6, w7, w8, w9, w10, w11, w12, zz_lt, zz_eq, zl_0, zl_1, w2s, w4s]
    repeat' split
    all_goals first | rfl | (exfalso; omega)
  rw [e1]
  refine hQ _ _ ?_
  exact hI

set_option maxRecDepth 20000 in
/-- F_count -/
theorem cs_176 {G : ab_G} {L : Nat} {xs : Nat → Int32} {l : Launch} {d : Nat} {i1 : Int32} {V : aa_V} {Q : Int32 → Int32 → aa_V → Prop} (hI : nv V) (hQ : ∀ x W, nv W → Q x x W) :
    ab_E G (ac_ST L xs) l (d + 2) ac_SK 176 [.ref 0, .int i1] V (aa_rI fun x V1 => ab_E G (ac_ST L xs) l (d + 2) ac_SK 276 [.ref 105, .int i1] V1 (aa_rI fun y W => Q x y W)) := by
  have hI' := hI
  obtain ⟨hn, hr, hw, ha, hp, ho, hb, hk, hs, hf, ht⟩ := hI'
  have hn' := hn
  obtain ⟨n1, n2⟩ := hn'
  have n2r := zb_r n2 (by decide)
  have n2s := zb_sub1 n2 (by decide)
  have hw' := hw
  obtain ⟨⟨w1, w2, w3, w4⟩, ⟨w5, w6, w7, w8, w9, w10, w11, w12⟩, s1, s2, s3, s4, s5, s6, s7, s8⟩ := hw'
  have w2r := zb_r w2 (by decide)
  have w2s := zb_sub1 w2 (by decide)
  have w4r := zb_r w4 (by decide)
  have w4s := zb_sub1 w4 (by decide)
  have ha' := ha
  obtain ⟨⟨a1, a2⟩, ⟨a3, a4, a5⟩, a6, a7, a8⟩ := ha'
  have a2r := zb_r a2 (by decide)
  have a2s := zb_sub1 a2 (by decide)
  have hp' := hp
  obtain ⟨⟨p1, p2, p3, p4, p5, p6⟩, ⟨p7, p8, p9, p10, p11, p12⟩, ⟨p13, p14, p15, p16, p17⟩, ⟨q1, q2, q3, q4, q5, q6⟩, q7, q8, q9, q10, q11⟩ := hp'
  have p2r := zb_r p2 (by decide)
  have p2s := zb_sub1 p2 (by decide)
  have p4r := zb_r p4 (by decide)
  have p4s := zb_sub1 p4 (by decide)
  have p6r := zb_r p6 (by decide)
  have p6s := zb_sub1 p6 (by decide)
  have ho' := ho
  obtain ⟨⟨o1, o2, o3, o4⟩, o5, o6, o7, o8, o9⟩ := ho'
  have o2r := zb_r o2 (by decide)
  have o2s := zb_sub1 o2 (by decide)
  have hb' := hb
  obtain ⟨⟨b1, b2⟩, ⟨b3, b4, b5⟩, b6, b7⟩ := hb'
  have b2r := zb_r b2 (by decide)
  have b2s := zb_sub1 b2 (by decide)
  have hk' := hk
  obtain ⟨⟨k1, k2⟩, k3⟩ := hk'
  have k2r := zb_r k2 (by decide)
  have k2s := zb_sub1 k2 (by decide)
  have hf' := hf
  obtain ⟨⟨f1, f2⟩, f3⟩ := hf'
  have f2r := zb_r f2 (by decide)
  have f2s := zb_sub1 f2 (by decide)
  have ht' := ht
  obtain ⟨⟨t1, t2⟩, T, M, tl, t3, t4, t5, t6, t7, t8, t9, t10⟩ := ht'
  refine sp_176 w4 ?_
  dsimp only [aa_rI, aa_rL]
  refine sp_276 (by rw [w3]; exact w4) ?_
  dsimp only [aa_rI, aa_rL]
  have e1 : va_276 i1 V = va_176 i1 V := by
    simp only [va_276, va_176, n1, w1, w3, w5, w6, w7, w8, w9, w10, w11, w12, a1, a3, a4, a5, p1, p3, p5, p7, p8, p9, p10, p11, p12, p13, p14, p15, p16, p17, o1, o3, b1, b3, b4, b5, k1, f1, t1, t2, zz_lt, zz_eq, zl_m2, zl_0, zl_1, zl_13, zl_2, n2s, w2s, w4s, a2s, p2s, p4s, p6s, o2s, b2s, k2s, f2s]
    repeat' split
    all_goals first | rfl | (exfalso; omega)
  rw [e1]
  refine hQ _ _ ?_
  exact hI
