/-! pure methods as functions, 2: printed by den.py -/

def va_171 (i1 : Int32) (i2 : Int32) (V : aa_V) : Int32 := (if i1 < (-99 : Int32) then (-2 : Int32) else (if (99 : Int32) < i1 then (-2 : Int32) else (if i2 < (-99 : Int32) then (-2 : Int32) else (if (99 : Int32) < i2 then (-2 : Int32) else (if (V 60 0) < (8 : Int32) then (((V 60 0) + (1 : Int32)) - (1 : Int32)) else (-4 : Int32))))))
def vn_171 (i1 : Int32) (i2 : Int32) (V : aa_V) : aa_V := (if i1 < (-99 : Int32) then V else (if (99 : Int32) < i1 then V else (if i2 < (-99 : Int32) then V else (if (99 : Int32) < i2 then V else (if (V 60 0) < (8 : Int32) then (aa_up (aa_up (aa_up V 61 (((V 60 0)).toNatClampNeg) i1) 62 (((V 60 0)).toNatClampNeg) i2) 60 0 ((V 60 0) + (1 : Int32))) else V)))))
set_option maxRecDepth 20000 in
/-- FrameCounty clause -/
theorem sp_171 {G : ab_G} {L : Nat} {xs : Nat → Int32} {l : Launch} {d : Nat} {i1 : Int32} {i2 : Int32} {V : aa_V} {K : aa_K} (hw1 : ¬ (i1 < (-99 : Int32)) → ¬ ((99 : Int32) < i1) → ¬ (i2 < (-99 : Int32)) → ¬ ((99 : Int32) < i2) → ((V 60 0) < (8 : Int32)) → vp_in (V 60 0) 8) (h : K (some (.int (va_171 i1 i2 V))) (vn_171 i1 i2 V)) :
    ab_E G (ac_ST L xs) l (d + 2) ac_SK 171 [.ref 0, .int i1, .int i2] V K := by
  rw [va_171, vn_171] at h
  refine iv_171_0 ?_
  refine ⟨fun g1 => ?_, fun g1 => ?_⟩
  · simp only [if_pos g1] at h
    exact h
  · refine ⟨fun g2 => ?_, fun g2 => ?_⟩
    · simp only [if_neg g1, if_pos g2] at h
      exact h
    · refine ⟨fun g3 => ?_, fun g3 => ?_⟩
      · simp only [if_neg g1, if_neg g2, if_pos g3] at h
        exact h
      · refine ⟨fun g4 => ?_, fun g4 => ?_⟩
        · simp only [if_neg g1, if_neg g2, if_neg g3, if_pos g4] at h
          exact h
        · refine ⟨fun g5 => ?_, fun g5 => ?_⟩
          · refine ⟨(hw1 g1 g2 g3 g4 g5), ?_⟩
            refine ⟨(hw1 g1 g2 g3 g4 g5), ?_⟩
            simp only [if_neg g1, if_neg g2, if_neg g3, if_neg g4, if_pos g5] at h
            exact h
          · simp only [if_neg g1, if_neg g2, if_neg g3, if_neg g4, if_neg g5] at h
            exact h

def va_176 (i1 : Int32) (V : aa_V) : Int32 := (if i1 = 0 then (V 0 13) else (if i1 = 1 then (V 29 0) else (if i1 = 2 then (V 29 3) else (if i1 = 3 then (V 38 1) else (if i1 = 4 then (V 42 2) else (if i1 = 5 then (V 42 4) else (if i1 = 6 then (V 42 10) else (if i1 = 7 then (V 54 0) else (if i1 = 8 then (V 60 0) else (if i1 = 9 then (V 64 0) else (if i1 = 10 then (V 0 11) else (if i1 = 11 then (V 80 1) else (if i1 = 12 then (V 0 12) else (if i1 = 13 then (va_123 (0 : Int32) V) else (if i1 = 14 then (va_123 (1 : Int32) V) else (if i1 = 15 then (va_123 (2 : Int32) V) else (-2 : Int32)))))))))))))))))
set_option maxRecDepth 20000 in
/-- FrameCounty count -/
theorem sp_176 {G : ab_G} {L : Nat} {xs : Nat → Int32} {l : Launch} {d : Nat} {i1 : Int32} {V : aa_V} {K : aa_K} (hw1 : zb (V 29 3) 20) (h : K (some (.int (va_176 i1 V))) V) :
    ab_E G (ac_ST L xs) l (d + 2) ac_SK 176 [.ref 0, .int i1] V K := by
  rw [va_176] at h
  refine iv_176_0 ?_
  refine ⟨fun g1 => ?_, fun g1 => ?_⟩
  · simp only [if_pos g1] at h
    exact h
  · refine ⟨fun g2 => ?_, fun g2 => ?_⟩
    · simp only [if_neg g1, if_pos g2] at h
      exact h
    · refine ⟨fun g3 => ?_, fun g3 => ?_⟩
      · simp only [if_neg g1, if_neg g2, if_pos g3] at h
        exact h
      · refine ⟨fun g4 => ?_, fun g4 => ?_⟩
        · simp only [if_neg g1, if_neg g2, if_neg g3, if_pos g4] at h
          exact h
        · refine ⟨fun g5 => ?_, fun g5 => ?_⟩
          · simp only [if_neg g1, if_neg g2, if_neg g3, if_neg g4, if_pos g5] at h
            exact h
          · refine ⟨fun g6 => ?_, fun g6 => ?_⟩
            · simp only [if_neg g1, if_neg g2, if_neg g3, if_neg g4, if_neg g5, if_pos g6] at h
              exact h
            · refine ⟨fun g7 => ?_, fun g7 => ?_⟩
              · simp only [if_neg g1, if_neg g2, if_neg g3, if_neg g4, if_neg g5, if_neg g6, if_pos g7] at h
                exact h
              · refine ⟨fun g8 => ?_, fun g8 => ?_⟩
                · simp only [if_neg g1, if_neg g2, if_neg g3, if_neg g4, if_neg g5, if_neg g6, if_neg g7, if_pos g8] at h
                  exact h
                · refine ⟨fun g9 => ?_, fun g9 => ?_⟩
                  · simp only [if_neg g1, if_neg g2, if_neg g3, if_neg g4, if_neg g5, if_neg g6, if_neg g7, if_neg g8, if_pos g9] at h
                    exact h
                  · refine ⟨fun g10 => ?_, fun g10 => ?_⟩
                    · simp only [if_neg g1, if_neg g2, if_neg g3, if_neg g4, if_neg g5, if_neg g6, if_neg g7, if_neg g8, if_neg g9, if_pos g10] at h
                      exact h
                    · refine ⟨fun g11 => ?_, fun g11 => ?_⟩
                      · simp only [if_neg g1, if_neg g2, if_neg g3, if_neg g4, if_neg g5, if_neg g6, if_neg g7, if_neg g8, if_neg g9, if_neg g10, if_pos g11] at h
                        exact h
                      · refine ⟨fun g12 => ?_, fun g12 => ?_⟩
                        · simp only [if_neg g1, if_neg g2, if_neg g3, if_neg g4, if_neg g5, if_neg g6, if_neg g7, if_neg g8, if_neg g9, if_neg g10, if_neg g11, if_pos g12] at h
                          exact h
                        · refine ⟨fun g13 => ?_, fun g13 => ?_⟩
                          · simp only [if_neg g1, if_neg g2, if_neg g3, if_neg g4, if_neg g5, if_neg g6, if_neg g7, if_neg g8, if_neg g9, if_neg g10, if_neg g11, if_neg g12, if_pos g13] at h
                            exact h
                          · refine ⟨fun g14 => ?_, fun g14 => ?_⟩
                            · refine sp_123 hw1 ?_
                              dsimp only [aa_rI, aa_rL, aa_rV]
                              simp only [if_neg g1, if_neg g2, if_neg g3, if_neg g4, if_neg g5, if_neg g6, if_neg g7, if_neg g8, if_neg g9, if_neg g10, if_neg g11, if_neg g12, if_neg g13, if_pos g14] at h
                              exact h
                            · refine ⟨fun g16 => ?_, fun g16 => ?_⟩
                              · refine sp_123 hw1 ?_
                                dsimp only [aa_rI, aa_rL, aa_rV]
                                simp only [if_neg g1, if_neg g2, if_neg g3, if_neg g4, if_neg g5, if_neg g6, if_neg g7, if_neg g8, if_neg g9, if_neg g10, if_neg g11, if_neg g12, if_neg g13, if_neg g14, if_pos g16] at h
                                exact h
                              · refine ⟨fun g18 => ?_, fun g18 => ?_⟩
                                · refine sp_123 hw1 ?_
                                  dsimp only [aa_rI, aa_rL, aa_rV]
                                  simp only [if_neg g1, if_neg g2, if_neg g3, if_neg g4, if_neg g5, if_neg g6, if_neg g7, if_neg g8, if_neg g9, if_neg g10, if_neg g11, if_neg g12, if_neg g13, if_neg g14, if_neg g16, if_pos g18] at h
                                  exact h
                                · simp only [if_neg g1, if_neg g2, if_neg g3, if_neg g4, if_neg g5, if_neg g6, if_neg g7, if_neg g8, if_neg g9, if_neg g10, if_neg g11, if_neg g12, if_neg g13, if_neg g14, if_neg g16, if_neg g18] at h
                                  exact h

def va_195 (i1 : Int32) (V : aa_V) : Int32 := (if i1 < (1 : Int32) then (-2 : Int32) else (if (60 : Int32) < i1 then (-2 : Int32) else (if (399 : Int32) < ((V 105 2) + i1) then (-4 : Int32) else ((V 105 2) + i1))))
def vn_195 (i1 : Int32) (V : aa_V) : aa_V := (if i1 < (1 : Int32) then V else (if (60 : Int32) < i1 then V else (if (399 : Int32) < ((V 105 2) + i1) then V else (aa_up V 105 2 ((V 105 2) + i1)))))
set_option maxRecDepth 20000 in
/-- FrameCountyModel pass -/
theorem sp_195 {G : ab_G} {L : Nat} {xs : Nat → Int32} {l : Launch} {d : Nat} {i1 : Int32} {V : aa_V} {K : aa_K} (h : K (some (.int (va_195 i1 V))) (vn_195 i1 V)) :
    ab_E G (ac_ST L xs) l (d + 2) ac_SK 195 [.ref 105, .int i1] V K := by
  rw [va_195, vn_195] at h
  refine iv_195_0 ?_
  refine ⟨fun g1 => ?_, fun g1 => ?_⟩
  · simp only [if_pos g1] at h
    exact h
  · refine ⟨fun g2 => ?_, fun g2 => ?_⟩
    · simp only [if_neg g1, if_pos g2] at h
      exact h
    · refine ⟨fun g3 => ?_, fun g3 => ?_⟩
      · simp only [if_neg g1, if_neg g2, if_pos g3] at h
        exact h
      · simp only [if_neg g1, if_neg g2, if_neg g3] at h
        exact h

def va_196 (i1 : Int32) (i2 : Int32) (i3 : Int32) (V : aa_V) : Int32 := (if i1 < 0 then (-2 : Int32) else (if i1 < (8 : Int32) then (if i2 < 0 then (-2 : Int32) else (if i2 < (8 : Int32) then (if i1 = i2 then (-2 : Int32) else (if i3 < (1 : Int32) then (if i3 = (99 : Int32) then (V 106 (((((8 : Int32) * i1) + i2)).toNatClampNeg)) else (-2 : Int32)) else (if (9 : Int32) < i3 then (if i3 = (99 : Int32) then (V 106 (((((8 : Int32) * i1) + i2)).toNatClampNeg)) else (-2 : Int32)) else (V 106 (((((8 : Int32) * i1) + i2)).toNatClampNeg))))) else (-2 : Int32))) else (-2 : Int32)))
def vn_196 (i1 : Int32) (i2 : Int32) (i3 : Int32) (V : aa_V) : aa_V := (if i1 < 0 then V else (if i1 < (8 : Int32) then (if i2 < 0 then V else (if i2 < (8 : Int32) then (if i1 = i2 then V else (if i3 < (1 : Int32) then (if i3 = (99 : Int32) then (aa_up (aa_up V 106 (((((8 : Int32) * i1) + i2)).toNatClampNeg) i3) 106 (((((8 : Int32) * i2) + i1)).toNatClampNeg) i3) else V) else (if (9 : Int32) < i3 then (if i3 = (99 : Int32) then (aa_up (aa_up V 106 (((((8 : Int32) * i1) + i2)).toNatClampNeg) i3) 106 (((((8 : Int32) * i2) + i1)).toNatClampNeg) i3) else V) else (aa_up (aa_up V 106 (((((8 : Int32) * i1) + i2)).toNatClampNeg) i3) 106 (((((8 : Int32) * i2) + i1)).toNatClampNeg) i3)))) else V)) else V))
set_option maxRecDepth 20000 in
/-- FrameCountyModel road -/
theorem sp_196 {G : ab_G} {L : Nat} {xs : Nat → Int32} {l : Launch} {d : Nat} {i1 : Int32} {i2 : Int32} {i3 : Int32} {V : aa_V} {K : aa_K} (hw1 : ¬ (i1 < 0) → (i1 < (8 : Int32)) → ¬ (i2 < 0) → (i2 < (8 : Int32)) → ¬ (i1 = i2) → (i3 < (1 : Int32)) → (i3 = (99 : Int32)) → vp_in (((8 : Int32) * i1) + i2) 64) (hw2 : ¬ (i1 < 0) → (i1 < (8 : Int32)) → ¬ (i2 < 0) → (i2 < (8 : Int32)) → ¬ (i1 = i2) → (i3 < (1 : Int32)) → (i3 = (99 : Int32)) → vp_in (((8 : Int32) * i2) + i1) 64) (hw3 : ¬ (i1 < 0) → (i1 < (8 : Int32)) → ¬ (i2 < 0) → (i2 < (8 : Int32)) → ¬ (i1 = i2) → ¬ (i3 < (1 : Int32)) → ((9 : Int32) < i3) → (i3 = (99 : Int32)) → vp_in (((8 : Int32) * i1) + i2) 64) (hw4 : ¬ (i1 < 0) → (i1 < (8 : Int32)) → ¬ (i2 < 0) → (i2 < (8 : Int32)) → ¬ (i1 = i2) → ¬ (i3 < (1 : Int32)) → ((9 : Int32) < i3) → (i3 = (99 : Int32)) → vp_in (((8 : Int32) * i2) + i1) 64) (hw5 : ¬ (i1 < 0) → (i1 < (8 : Int32)) → ¬ (i2 < 0) → (i2 < (8 : Int32)) → ¬ (i1 = i2) → ¬ (i3 < (1 : Int32)) → ¬ ((9 : Int32) < i3) → vp_in (((8 : Int32) * i1) + i2) 64) (hw6 : ¬ (i1 < 0) → (i1 < (8 : Int32)) → ¬ (i2 < 0) → (i2 < (8 : Int32)) → ¬ (i1 = i2) → ¬ (i3 < (1 : Int32)) → ¬ ((9 : Int32) < i3) → vp_in (((8 : Int32) * i2) + i1) 64) (h : K (some (.int (va_196 i1 i2 i3 V))) (vn_196 i1 i2 i3 V)) :
    ab_E G (ac_ST L xs) l (d + 2) ac_SK 196 [.ref 105, .int i1, .int i2, .int i3] V K := by
  rw [va_196, vn_196] at h
  refine iv_196_0 ?_
  refine ⟨fun g1 => ?_, fun g1 => ?_⟩
  · simp only [if_pos g1] at h
    exact h
  · refine ⟨fun g2 => ?_, fun g2 => ?_⟩
    · refine ⟨fun g3 => ?_, fun g3 => ?_⟩
      · simp only [if_neg g1, if_pos g2, if_pos g3] at h
        exact h
      · refine ⟨fun g4 => ?_, fun g4 => ?_⟩
        · refine ⟨fun g5 => ?_, fun g5 => ?_⟩
          · simp only [if_neg g1, if_pos g2, if_neg g3, if_pos g4, if_pos g5] at h
            exact h
          · refine ⟨fun g6 => ?_, fun g6 => ?_⟩
            · refine ⟨fun g7 => ?_, fun g7 => ?_⟩
              · refine ⟨(hw1 g1 g2 g3 g4 g5 g6 g7), ?_⟩
                refine ⟨(hw1 g1 g2 g3 g4 g5 g6 g7), ?_⟩
                refine ⟨(hw2 g1 g2 g3 g4 g5 g6 g7), ?_⟩
                simp only [if_neg g1, if_pos g2, if_neg g3, if_pos g4, if_neg g5, if_pos g6, if_pos g7] at h
                exact h
              · simp only [if_neg g1, if_pos g2, if_neg g3, if_pos g4, if_neg g5, if_pos g6, if_neg g7] at h
                exact h
            · refine ⟨fun g8 => ?_, fun g8 => ?_⟩
              · refine ⟨fun g9 => ?_, fun g9 => ?_⟩
                · refine ⟨(hw3 g1 g2 g3 g4 g5 g6 g8 g9), ?_⟩
                  refine ⟨(hw3 g1 g2 g3 g4 g5 g6 g8 g9), ?_⟩
                  refine ⟨(hw4 g1 g2 g3 g4 g5 g6 g8 g9), ?_⟩
                  simp only [if_neg g1, if_pos g2, if_neg g3, if_pos g4, if_neg g5, if_neg g6, if_pos g8, if_pos g9] at h
                  exact h
                · simp only [if_neg g1, if_pos g2, if_neg g3, if_pos g4, if_neg g5, if_neg g6, if_pos g8, if_neg g9] at h
                  exact h
              · refine ⟨(hw5 g1 g2 g3 g4 g5 g6 g8), ?_⟩
                refine ⟨(hw5 g1 g2 g3 g4 g5 g6 g8), ?_⟩
                refine ⟨(hw6 g1 g2 g3 g4 g5 g6 g8), ?_⟩
                simp only [if_neg g1, if_pos g2, if_neg g3, if_pos g4, if_neg g5, if_neg g6, if_neg g8] at h
                exact h
        · simp only [if_neg g1, if_pos g2, if_neg g3, if_neg g4] at h
          exact h
    · simp only [if_neg g1, if_neg g2] at h
      exact h

def va_201 (i1 : Int32) (i2 : Int32) (V : aa_V) : Int32 := (if i1 < 0 then (-2 : Int32) else (if i1 < (8 : Int32) then (if i2 < (0 : Int32) then (-2 : Int32) else (if (99 : Int32) < i2 then (-2 : Int32) else (if (V 105 11) = (8 : Int32) then (-4 : Int32) else (((V 105 11) + (1 : Int32)) - (1 : Int32))))) else (-2 : Int32)))
def vn_201 (i1 : Int32) (i2 : Int32) (V : aa_V) : aa_V := (if i1 < 0 then V else (if i1 < (8 : Int32) then (if i2 < (0 : Int32) then V else (if (99 : Int32) < i2 then V else (if (V 105 11) = (8 : Int32) then V else (aa_up (aa_up (aa_up V 108 (((V 105 11)).toNatClampNeg) i1) 109 (((V 105 11)).toNatClampNeg) i2) 105 11 ((V 105 11) + (1 : Int32)))))) else V))
set_option maxRecDepth 20000 in
/-- FrameCountyModel shop -/
theorem sp_201 {G : ab_G} {L : Nat} {xs : Nat → Int32} {l : Launch} {d : Nat} {i1 : Int32} {i2 : Int32} {V : aa_V} {K : aa_K} (hw1 : ¬ (i1 < 0) → (i1 < (8 : Int32)) → ¬ (i2 < (0 : Int32)) → ¬ ((99 : Int32) < i2) → ¬ ((V 105 11) = (8 : Int32)) → vp_in (V 105 11) 8) (h : K (some (.int (va_201 i1 i2 V))) (vn_201 i1 i2 V)) :
    ab_E G (ac_ST L xs) l (d + 2) ac_SK 201 [.ref 105, .int i1, .int i2] V K := by
  rw [va_201, vn_201] at h
  refine iv_201_0 ?_
  refine ⟨fun g1 => ?_, fun g1 => ?_⟩
  · simp only [if_pos g1] at h
    exact h
  · refine ⟨fun g2 => ?_, fun g2 => ?_⟩
    · refine ⟨fun g3 => ?_, fun g3 => ?_⟩
      · simp only [if_neg g1, if_pos g2, if_pos g3] at h
        exact h
      · refine ⟨fun g4 => ?_, fun g4 => ?_⟩
        · simp only [if_neg g1, if_pos g2, if_neg g3, if_pos g4] at h
          exact h
        · refine ⟨fun g5 => ?_, fun g5 => ?_⟩
          · simp only [if_neg g1, if_pos g2, if_neg g3, if_neg g4, if_pos g5] at h
            exact h
          · refine ⟨(hw1 g1 g2 g3 g4 g5), ?_⟩
            refine ⟨(hw1 g1 g2 g3 g4 g5), ?_⟩
            simp only [if_neg g1, if_pos g2, if_neg g3, if_neg g4, if_neg g5] at h
            exact h
    · simp only [if_neg g1, if_neg g2] at h
      exact h

def va_202 (i1 : Int32) (i2 : Int32) (V : aa_V) : Int32 := (if i1 < 0 then (-2 : Int32) else (if i1 < (V 105 11) then (if i2 < (0 : Int32) then (-2 : Int32) else (if (99 : Int32) < i2 then (-2 : Int32) else (V 109 ((i1).toNatClampNeg)))) else (-2 : Int32)))
def vn_202 (i1 : Int32) (i2 : Int32) (V : aa_V) : aa_V := (if i1 < 0 then V else (if i1 < (V 105 11) then (if i2 < (0 : Int32) then V else (if (99 : Int32) < i2 then V else (aa_up V 109 ((i1).toNatClampNeg) i2))) else V))
set_option maxRecDepth 20000 in
/-- FrameCountyModel pays -/
theorem sp_202 {G : ab_G} {L : Nat} {xs : Nat → Int32} {l : Launch} {d : Nat} {i1 : Int32} {i2 : Int32} {V : aa_V} {K : aa_K} (hw1 : ¬ (i1 < 0) → (i1 < (V 105 11)) → ¬ (i2 < (0 : Int32)) → ¬ ((99 : Int32) < i2) → vp_in i1 8) (h : K (some (.int (va_202 i1 i2 V))) (vn_202 i1 i2 V)) :
    ab_E G (ac_ST L xs) l (d + 2) ac_SK 202 [.ref 105, .int i1, .int i2] V K := by
  rw [va_202, vn_202] at h
  refine iv_202_0 ?_
  refine ⟨fun g1 => ?_, fun g1 => ?_⟩
  · simp only [if_pos g1] at h
    exact h
  · refine ⟨fun g2 => ?_, fun g2 => ?_⟩
    · refine ⟨fun g3 => ?_, fun g3 => ?_⟩
      · simp only [if_neg g1, if_pos g2, if_pos g3] at h
        exact h
      · refine ⟨fun g4 => ?_, fun g4 => ?_⟩
        · simp only [if_neg g1, if_pos g2, if_neg g3, if_pos g4] at h
          exact h
        · refine ⟨(hw1 g1 g2 g3 g4), ?_⟩
          refine ⟨(hw1 g1 g2 g3 g4), ?_⟩
          simp only [if_neg g1, if_pos g2, if_neg g3, if_neg g4] at h
          exact h
    · simp only [if_neg g1, if_neg g2] at h
      exact h

def va_203 (i1 : Int32) (i2 : Int32) (i3 : Int32) (i4 : Int32) (V : aa_V) : Int32 := (if i1 < (0 : Int32) then (-2 : Int32) else (if (5 : Int32) < i1 then (-2 : Int32) else (if i2 < 0 then (-2 : Int32) else (if i2 < (V 105 11) then (if i3 < (10 : Int32) then (-2 : Int32) else (if (60 : Int32) < i3 then (-2 : Int32) else (if i4 < (0 : Int32) then (-2 : Int32) else (if (99 : Int32) < i4 then (-2 : Int32) else (if (V 105 12) = (20 : Int32) then (-4 : Int32) else (((V 105 12) + (1 : Int32)) - (1 : Int32))))))) else (-2 : Int32)))))
def vn_203 (i1 : Int32) (i2 : Int32) (i3 : Int32) (i4 : Int32) (V : aa_V) : aa_V := (if i1 < (0 : Int32) then V else (if (5 : Int32) < i1 then V else (if i2 < 0 then V else (if i2 < (V 105 11) then (if i3 < (10 : Int32) then V else (if (60 : Int32) < i3 then V else (if i4 < (0 : Int32) then V else (if (99 : Int32) < i4 then V else (if (V 105 12) = (20 : Int32) then V else (aa_up (aa_up (aa_up (aa_up (aa_up V 110 (((V 105 12)).toNatClampNeg) i1) 111 (((V 105 12)).toNatClampNeg) i2) 112 (((V 105 12)).toNatClampNeg) i3) 113 (((V 105 12)).toNatClampNeg) i4) 105 12 ((V 105 12) + (1 : Int32)))))))) else V))))
set_option maxRecDepth 20000 in
/-- FrameCountyModel frame -/
theorem sp_203 {G : ab_G} {L : Nat} {xs : Nat → Int32} {l : Launch} {d : Nat} {i1 : Int32} {i2 : Int32} {i3 : Int32} {i4 : Int32} {V : aa_V} {K : aa_K} (hw1 : ¬ (i1 < (0 : Int32)) → ¬ ((5 : Int32) < i1) → ¬ (i2 < 0) → (i2 < (V 105 11)) → ¬ (i3 < (10 : Int32)) → ¬ ((60 : Int32) < i3) → ¬ (i4 < (0 : Int32)) → ¬ ((99 : Int32) < i4) → ¬ ((V 105 12) = (20 : Int32)) → vp_in (V 105 12) 20) (h : K (some (.int (va_203 i1 i2 i3 i4 V))) (vn_203 i1 i2 i3 i4 V)) :
    ab_E G (ac_ST L xs) l (d + 2) ac_SK 203 [.ref 105, .int i1, .int i2, .int i3, .int i4] V K := by
  rw [va_203, vn_203] at h
  refine iv_203_0 ?_
  refine ⟨fun g1 => ?_, fun g1 => ?_⟩
  · simp only [if_pos g1] at h
    exact h
  · refine ⟨fun g2 => ?_, fun g2 => ?_⟩
    · simp only [if_neg g1, if_pos g2] at h
      exact h
    · refine ⟨fun g3 => ?_, fun g3 => ?_⟩
      · simp only [if_neg g1, if_neg g2, if_pos g3] at h
        exact h
      · refine ⟨fun g4 => ?_, fun g4 => ?_⟩
        · refine ⟨fun g5 => ?_, fun g5 => ?_⟩
          · simp only [if_neg g1, if_neg g2, if_neg g3, if_pos g4, if_pos g5] at h
            exact h
          · refine ⟨fun g6 => ?_, fun g6 => ?_⟩
            · simp only [if_neg g1, if_neg g2, if_neg g3, if_pos g4, if_neg g5, if_pos g6] at h
              exact h
            · refine ⟨fun g7 => ?_, fun g7 => ?_⟩
              · simp only [if_neg g1, if_neg g2, if_neg g3, if_pos g4, if_neg g5, if_neg g6, if_pos g7] at h
                exact h
              · refine ⟨fun g8 => ?_, fun g8 => ?_⟩
                · simp only [if_neg g1, if_neg g2, if_neg g3, if_pos g4, if_neg g5, if_neg g6, if_neg g7, if_pos g8] at h
                  exact h
                · refine ⟨fun g9 => ?_, fun g9 => ?_⟩
                  · simp only [if_neg g1, if_neg g2, if_neg g3, if_pos g4, if_neg g5, if_neg g6, if_neg g7, if_neg g8, if_pos g9] at h
                    exact h
                  · refine ⟨(hw1 g1 g2 g3 g4 g5 g6 g7 g8 g9), ?_⟩
                    refine ⟨(hw1 g1 g2 g3 g4 g5 g6 g7 g8 g9), ?_⟩
                    refine ⟨(hw1 g1 g2 g3 g4 g5 g6 g7 g8 g9), ?_⟩
                    refine ⟨(hw1 g1 g2 g3 g4 g5 g6 g7 g8 g9), ?_⟩
                    simp only [if_neg g1, if_neg g2, if_neg g3, if_pos g4, if_neg g5, if_neg g6, if_neg g7, if_neg g8, if_neg g9] at h
                    exact h
        · simp only [if_neg g1, if_neg g2, if_neg g3, if_neg g4] at h
          exact h

def va_208 (i1 : Int32) (i2 : Int32) (V : aa_V) : Int32 := (if i1 < 0 then (-2 : Int32) else (if i1 < (V 105 12) then (if i2 < (0 : Int32) then (-2 : Int32) else (if (2 : Int32) < i2 then (-2 : Int32) else (if i2 = 0 then (if (V 114 ((i1).toNatClampNeg)) = (1 : Int32) then (if i2 = (2 : Int32) then (1 : Int32) else (1 : Int32)) else (-3 : Int32)) else (if i2 = (1 : Int32) then (if (V 114 ((i1).toNatClampNeg)) = (2 : Int32) then (if i2 = (2 : Int32) then (1 : Int32) else (1 : Int32)) else (-3 : Int32)) else (if (V 114 ((i1).toNatClampNeg)) = (0 : Int32) then (if i2 = (2 : Int32) then (1 : Int32) else (1 : Int32)) else (-3 : Int32)))))) else (-2 : Int32)))
def vn_208 (i1 : Int32) (i2 : Int32) (V : aa_V) : aa_V := (if i1 < 0 then V else (if i1 < (V 105 12) then (if i2 < (0 : Int32) then V else (if (2 : Int32) < i2 then V else (if i2 = 0 then (if (V 114 ((i1).toNatClampNeg)) = (1 : Int32) then (if i2 = (2 : Int32) then (aa_up V 114 ((i1).toNatClampNeg) (2 : Int32)) else (aa_up V 114 ((i1).toNatClampNeg) (0 : Int32))) else V) else (if i2 = (1 : Int32) then (if (V 114 ((i1).toNatClampNeg)) = (2 : Int32) then (if i2 = (2 : Int32) then (aa_up V 114 ((i1).toNatClampNeg) (2 : Int32)) else (aa_up V 114 ((i1).toNatClampNeg) (0 : Int32))) else V) else (if (V 114 ((i1).toNatClampNeg)) = (0 : Int32) then (if i2 = (2 : Int32) then (aa_up V 114 ((i1).toNatClampNeg) (2 : Int32)) else (aa_up V 114 ((i1).toNatClampNeg) (0 : Int32))) else V))))) else V))
set_option maxRecDepth 20000 in
/-- FrameCountyModel mend -/
theorem sp_208 {G : ab_G} {L : Nat} {xs : Nat → Int32} {l : Launch} {d : Nat} {i1 : Int32} {i2 : Int32} {V : aa_V} {K : aa_K} (hw1 : ¬ (i1 < 0) → (i1 < (V 105 12)) → ¬ (i2 < (0 : Int32)) → ¬ ((2 : Int32) < i2) → (i2 = 0) → vp_in i1 20) (hw2 : ¬ (i1 < 0) → (i1 < (V 105 12)) → ¬ (i2 < (0 : Int32)) → ¬ ((2 : Int32) < i2) → ¬ (i2 = 0) → (i2 = (1 : Int32)) → vp_in i1 20) (hw3 : ¬ (i1 < 0) → (i1 < (V 105 12)) → ¬ (i2 < (0 : Int32)) → ¬ ((2 : Int32) < i2) → ¬ (i2 = 0) → ¬ (i2 = (1 : Int32)) → vp_in i1 20) (h : K (some (.int (va_208 i1 i2 V))) (vn_208 i1 i2 V)) :
    ab_E G (ac_ST L xs) l (d + 2) ac_SK 208 [.ref 105, .int i1, .int i2] V K := by
  rw [va_208, vn_208] at h
  refine iv_208_0 ?_
  refine ⟨fun g1 => ?_, fun g1 => ?_⟩
  · simp only [if_pos g1] at h
    exact h
  · refine ⟨fun g2 => ?_, fun g2 => ?_⟩
    · refine ⟨fun g3 => ?_, fun g3 => ?_⟩
      · simp only [if_neg g1, if_pos g2, if_pos g3] at h
        exact h
      · refine ⟨fun g4 => ?_, fun g4 => ?_⟩
        · simp only [if_neg g1, if_pos g2, if_neg g3, if_pos g4] at h
          exact h
        · refine ⟨fun g5 => ?_, fun g5 => ?_⟩
          · refine ⟨(hw1 g1 g2 g3 g4 g5), ?_⟩
            refine ⟨fun g6 => ?_, fun g6 => ?_⟩
            · refine ⟨fun g7 => ?_, fun g7 => ?_⟩
              · refine ⟨(hw1 g1 g2 g3 g4 g5), ?_⟩
                simp only [if_neg g1, if_pos g2, if_neg g3, if_neg g4, if_pos g5, if_pos g6, if_pos g7] at h
                exact h
              · refine ⟨(hw1 g1 g2 g3 g4 g5), ?_⟩
                simp only [if_neg g1, if_pos g2, if_neg g3, if_neg g4, if_pos g5, if_pos g6, if_neg g7] at h
                exact h
            · simp only [if_neg g1, if_pos g2, if_neg g3, if_neg g4, if_pos g5, if_neg g6] at h
              exact h
          · refine ⟨fun g8 => ?_, fun g8 => ?_⟩
            · refine ⟨(hw2 g1 g2 g3 g4 g5 g8), ?_⟩
              refine ⟨fun g9 => ?_, fun g9 => ?_⟩
              · refine ⟨fun g10 => ?_, fun g10 => ?_⟩
                · refine ⟨(hw2 g1 g2 g3 g4 g5 g8), ?_⟩
                  simp only [if_neg g1, if_pos g2, if_neg g3, if_neg g4, if_neg g5, if_pos g8, if_pos g9, if_pos g10] at h
                  exact h
                · refine ⟨(hw2 g1 g2 g3 g4 g5 g8), ?_⟩
                  simp only [if_neg g1, if_pos g2, if_neg g3, if_neg g4, if_neg g5, if_pos g8, if_pos g9, if_neg g10] at h
                  exact h
              · simp only [if_neg g1, if_pos g2, if_neg g3, if_neg g4, if_neg g5, if_pos g8, if_neg g9] at h
                exact h
            · refine ⟨(hw3 g1 g2 g3 g4 g5 g8), ?_⟩
              refine ⟨fun g11 => ?_, fun g11 => ?_⟩
              · refine ⟨fun g12 => ?_, fun g12 => ?_⟩
                · refine ⟨(hw3 g1 g2 g3 g4 g5 g8), ?_⟩
                  simp only [if_neg g1, if_pos g2, if_neg g3, if_neg g4, if_neg g5, if_neg g8, if_pos g11, if_pos g12] at h
                  exact h
                · refine ⟨(hw3 g1 g2 g3 g4 g5 g8), ?_⟩
                  simp only [if_neg g1, if_pos g2, if_neg g3, if_neg g4, if_neg g5, if_neg g8, if_pos g11, if_neg g12] at h
                  exact h
              · simp only [if_neg g1, if_pos g2, if_neg g3, if_neg g4, if_neg g5, if_neg g8, if_neg g11] at h
                exact h
    · simp only [if_neg g1, if_neg g2] at h
      exact h

def va_218  (V : aa_V) : Int32 := (if (va_216 (1802071652 : Int64) (4 : Int32) V) = 0 then (if (va_216 (512869299304 : Int64) (5 : Int32) V) = 0 then (if (va_216 (2003133803 : Int64) (4 : Int32) V) = 0 then (if (va_216 (1919250036 : Int64) (4 : Int32) V) = 0 then (if (va_216 (512970876019 : Int64) (5 : Int32) V) = 0 then (if (va_216 (1885432164 : Int64) (4 : Int32) V) = 0 then (if (va_216 (28530 : Int64) (2 : Int32) (aa_up V 105 28 (-1 : Int32))) = 0 then (if (va_216 (6385252 : Int64) (3 : Int32) (aa_up V 105 28 (-1 : Int32))) = 0 then (if (va_216 (7237492 : Int64) (3 : Int32) (aa_up V 105 28 (-1 : Int32))) = 0 then (if (va_216 (482955846501 : Int64) (5 : Int32) (aa_up V 105 28 (-1 : Int32))) = 0 then (if (va_216 (1752132708 : Int64) (4 : Int32) (aa_up V 105 28 (-1 : Int32))) = 0 then (-1 : Int32) else (7 : Int32)) else (6 : Int32)) else (5 : Int32)) else (4 : Int32)) else (3 : Int32)) else (2 : Int32)) else (2 : Int32)) else (2 : Int32)) else (2 : Int32)) else (2 : Int32)) else (2 : Int32))
def vn_218  (V : aa_V) : aa_V := (if (va_216 (1802071652 : Int64) (4 : Int32) V) = 0 then (if (va_216 (512869299304 : Int64) (5 : Int32) V) = 0 then (if (va_216 (2003133803 : Int64) (4 : Int32) V) = 0 then (if (va_216 (1919250036 : Int64) (4 : Int32) V) = 0 then (if (va_216 (512970876019 : Int64) (5 : Int32) V) = 0 then (if (va_216 (1885432164 : Int64) (4 : Int32) V) = 0 then (aa_up V 105 28 (-1 : Int32)) else (aa_up V 105 28 (5 : Int32))) else (aa_up V 105 28 (4 : Int32))) else (aa_up V 105 28 (3 : Int32))) else (aa_up V 105 28 (2 : Int32))) else (aa_up V 105 28 (1 : Int32))) else (aa_up V 105 28 (0 : Int32)))
set_option maxRecDepth 20000 in
/-- FrameCountyModel word -/
theorem sp_218 {G : ab_G} {L : Nat} {xs : Nat → Int32} {l : Launch} {d : Nat} {V : aa_V} {K : aa_K} (hw1 : zb (4 : Int32) 1000000000) (hw2 : ∀ i_216 : Nat, i_216 < ((4 : Int32)).toNatClampNeg → vp_in ((V 105 27) + (nI i_216)) 160) (hw3 : zb (5 : Int32) 1000000000) (hw4 : ∀ i_216 : Nat, i_216 < ((5 : Int32)).toNatClampNeg → vp_in ((V 105 27) + (nI i_216)) 160) (hw5 : zb (2 : Int32) 1000000000) (hw6 : ∀ i_216 : Nat, i_216 < ((2 : Int32)).toNatClampNeg → vp_in (((aa_up V 105 28 (-1 : Int32)) 105 27) + (nI i_216)) 160) (hw7 : zb (3 : Int32) 1000000000) (hw8 : ∀ i_216 : Nat, i_216 < ((3 : Int32)).toNatClampNeg → vp_in (((aa_up V 105 28 (-1 : Int32)) 105 27) + (nI i_216)) 160) (hw9 : ∀ i_216 : Nat, i_216 < ((5 : Int32)).toNatClampNeg → vp_in (((aa_up V 105 28 (-1 : Int32)) 105 27) + (nI i_216)) 160) (hw10 : ∀ i_216 : Nat, i_216 < ((4 : Int32)).toNatClampNeg → vp_in (((aa_up V 105 28 (-1 : Int32)) 105 27) + (nI i_216)) 160) (h : K (some (.int (va_218  V))) (vn_218  V)) :
    ab_E G (ac_ST L xs) l (d + 2) ac_SK 218 [.ref 105] V K := by
  rw [va_218, vn_218] at h
  refine iv_218_0 ?_
  refine sp_216 hw1 hw2 (fun hb1 => ?_)
  dsimp only [aa_rI, aa_rL, aa_rV]
  refine ⟨fun g2 => ?_, fun g2 => ?_⟩
  · refine sp_216 hw3 hw4 (fun hb3 => ?_)
    dsimp only [aa_rI, aa_rL, aa_rV]
    refine ⟨fun g4 => ?_, fun g4 => ?_⟩
    · refine sp_216 hw1 hw2 (fun hb5 => ?_)
      dsimp only [aa_rI, aa_rL, aa_rV]
      refine ⟨fun g6 => ?_, fun g6 => ?_⟩
      · refine sp_216 hw1 hw2 (fun hb7 => ?_)
        dsimp only [aa_rI, aa_rL, aa_rV]
        refine ⟨fun g8 => ?_, fun g8 => ?_⟩
        · refine sp_216 hw3 hw4 (fun hb9 => ?_)
          dsimp only [aa_rI, aa_rL, aa_rV]
          refine ⟨fun g10 => ?_, fun g10 => ?_⟩
          · refine sp_216 hw1 hw2 (fun hb11 => ?_)
            dsimp only [aa_rI, aa_rL, aa_rV]
            refine ⟨fun g12 => ?_, fun g12 => ?_⟩
            · refine sp_216 hw5 hw6 (fun hb13 => ?_)
              dsimp only [aa_rI, aa_rL, aa_rV]
              refine ⟨fun g14 => ?_, fun g14 => ?_⟩
              · refine sp_216 hw7 hw8 (fun hb15 => ?_)
                dsimp only [aa_rI, aa_rL, aa_rV]
                refine ⟨fun g16 => ?_, fun g16 => ?_⟩
                · refine sp_216 hw7 hw8 (fun hb17 => ?_)
                  dsimp only [aa_rI, aa_rL, aa_rV]
                  refine ⟨fun g18 => ?_, fun g18 => ?_⟩
                  · refine sp_216 hw3 hw9 (fun hb19 => ?_)
                    dsimp only [aa_rI, aa_rL, aa_rV]
                    refine ⟨fun g20 => ?_, fun g20 => ?_⟩
                    · refine sp_216 hw1 hw10 (fun hb21 => ?_)
                      dsimp only [aa_rI, aa_rL, aa_rV]
                      refine ⟨fun g22 => ?_, fun g22 => ?_⟩
                      · simp only [if_pos g2, if_pos g4, if_pos g6, if_pos g8, if_pos g10, if_pos g12, if_pos g14, if_pos g16, if_pos g18, if_pos g20, if_pos g22] at h
                        exact h
                      · simp only [if_pos g2, if_pos g4, if_pos g6, if_pos g8, if_pos g10, if_pos g12, if_pos g14, if_pos g16, if_pos g18, if_pos g20, if_neg g22] at h
                        exact h
                    · simp only [if_pos g2, if_pos g4, if_pos g6, if_pos g8, if_pos g10, if_pos g12, if_pos g14, if_pos g16, if_pos g18, if_neg g20] at h
                      exact h
                  · simp only [if_pos g2, if_pos g4, if_pos g6, if_pos g8, if_pos g10, if_pos g12, if_pos g14, if_pos g16, if_neg g18] at h
                    exact h
                · simp only [if_pos g2, if_pos g4, if_pos g6, if_pos g8, if_pos g10, if_pos g12, if_pos g14, if_neg g16] at h
                  exact h
              · simp only [if_pos g2, if_pos g4, if_pos g6, if_pos g8, if_pos g10, if_pos g12, if_neg g14] at h
                exact h
            · simp only [if_pos g2, if_pos g4, if_pos g6, if_pos g8, if_pos g10, if_neg g12] at h
              exact h
          · simp only [if_pos g2, if_pos g4, if_pos g6, if_pos g8, if_neg g10] at h
            exact h
        · simp only [if_pos g2, if_pos g4, if_pos g6, if_neg g8] at h
          exact h
      · simp only [if_pos g2, if_pos g4, if_neg g6] at h
        exact h
    · simp only [if_pos g2, if_neg g4] at h
      exact h
  · simp only [if_neg g2] at h
    exact h

def va_229 (i1 : Int32) (i2 : Int32) (V : aa_V) : Int32 := (if i1 < 0 then (-2 : Int32) else (if i1 < (V 105 12) then (if i2 < (0 : Int32) then (-2 : Int32) else (if (11 : Int32) < i2 then (-2 : Int32) else (if (V 114 ((i1).toNatClampNeg)) = 0 then (if (V 105 34) = (30 : Int32) then (-4 : Int32) else (((V 105 34) + (1 : Int32)) - (1 : Int32))) else (-3 : Int32)))) else (-2 : Int32)))
def vn_229 (i1 : Int32) (i2 : Int32) (V : aa_V) : aa_V := (if i1 < 0 then V else (if i1 < (V 105 12) then (if i2 < (0 : Int32) then V else (if (11 : Int32) < i2 then V else (if (V 114 ((i1).toNatClampNeg)) = 0 then (if (V 105 34) = (30 : Int32) then V else (aa_up (aa_up (aa_up (aa_up (aa_up (aa_up V 114 ((i1).toNatClampNeg) (1 : Int32)) 115 ((i1).toNatClampNeg) (V 105 2)) 124 (((V 105 34)).toNatClampNeg) i1) 125 (((V 105 34)).toNatClampNeg) (V 105 2)) 126 (((V 105 34)).toNatClampNeg) i2) 105 34 ((V 105 34) + (1 : Int32)))) else V))) else V))
set_option maxRecDepth 20000 in
/-- FrameCountyModel raid -/
theorem sp_229 {G : ab_G} {L : Nat} {xs : Nat → Int32} {l : Launch} {d : Nat} {i1 : Int32} {i2 : Int32} {V : aa_V} {K : aa_K} (hw1 : ¬ (i1 < 0) → (i1 < (V 105 12)) → ¬ (i2 < (0 : Int32)) → ¬ ((11 : Int32) < i2) → vp_in i1 20) (hw2 : ¬ (i1 < 0) → (i1 < (V 105 12)) → ¬ (i2 < (0 : Int32)) → ¬ ((11 : Int32) < i2) → ((V 114 ((i1).toNatClampNeg)) = 0) → ¬ ((V 105 34) = (30 : Int32)) → vp_in (V 105 34) 30) (h : K (some (.int (va_229 i1 i2 V))) (vn_229 i1 i2 V)) :
    ab_E G (ac_ST L xs) l (d + 2) ac_SK 229 [.ref 105, .int i1, .int i2] V K := by
  rw [va_229, vn_229] at h
  refine iv_229_0 ?_
  refine ⟨fun g1 => ?_, fun g1 => ?_⟩
  · simp only [if_pos g1] at h
    exact h
  · refine ⟨fun g2 => ?_, fun g2 => ?_⟩
    · refine ⟨fun g3 => ?_, fun g3 => ?_⟩
      · simp only [if_neg g1, if_pos g2, if_pos g3] at h
        exact h
      · refine ⟨fun g4 => ?_, fun g4 => ?_⟩
        · simp only [if_neg g1, if_pos g2, if_neg g3, if_pos g4] at h
          exact h
        · refine ⟨(hw1 g1 g2 g3 g4), ?_⟩
          refine ⟨fun g5 => ?_, fun g5 => ?_⟩
          · refine ⟨fun g6 => ?_, fun g6 => ?_⟩
            · simp only [if_neg g1, if_pos g2, if_neg g3, if_neg g4, if_pos g5, if_pos g6] at h
              exact h
            · refine ⟨(hw1 g1 g2 g3 g4), ?_⟩
              refine ⟨(hw1 g1 g2 g3 g4), ?_⟩
              refine ⟨(hw2 g1 g2 g3 g4 g5 g6), ?_⟩
              refine ⟨(hw2 g1 g2 g3 g4 g5 g6), ?_⟩
              refine ⟨(hw2 g1 g2 g3 g4 g5 g6), ?_⟩
              simp only [if_neg g1, if_pos g2, if_neg g3, if_neg g4, if_pos g5, if_neg g6] at h
              exact h
          · simp only [if_neg g1, if_pos g2, if_neg g3, if_neg g4, if_neg g5] at h
            exact h
    · simp only [if_neg g1, if_neg g2] at h
      exact h

def vl_231_4 (i1 : Int32) (V : aa_V) (a0 : Int32) : Int32 := ((fun (a_231 : Int32) => a_231) (fo (fun (i_231 : Nat) (a_231 : Int32) => ((if a_231 = 0 then (if (V 111 i_231) = i1 then (if (V 114 i_231) = (1 : Int32) then (if (V 115 i_231) = (V 105 2) then (1 : Int32) else (0 : Int32)) else (0 : Int32)) else (0 : Int32)) else (1 : Int32)) : Int32)) ((V 105 12)).toNatClampNeg a0))
set_option maxRecDepth 20000 in
/-- FrameCountyModel hasStruck, the loop at 4 -/
theorem lo_231_4 {G : ab_G} {L : Nat} {xs : Nat → Int32} {l : Launch} {d : Nat} {i1 : Int32} {V : aa_V} {K : aa_K} {a0 : Int32} (hz : zb (V 105 12) 20) (hw1 : ∀ a_231 : Int32, fo (fun (i_231 : Nat) (a_231 : Int32) => ((if a_231 = 0 then (if (V 111 i_231) = i1 then (if (V 114 i_231) = (1 : Int32) then (if (V 115 i_231) = (V 105 2) then (1 : Int32) else (0 : Int32)) else (0 : Int32)) else (0 : Int32)) else (1 : Int32)) : Int32)) ((V 105 12)).toNatClampNeg a0 = a_231 → aa_bit a_231) (h : aa_bit (vl_231_4 i1 V a0) → K (some (.int (vl_231_4 i1 V a0))) V) :
    ab_J G (ac_ST L xs) l (d + 2) 231 4 [some (.ref 105), some (.int i1), some (.int a0), some (.int (0 : Int32))] [] ac_SK V ac_SK K := by
  obtain ⟨n, hn, hm⟩ : ∃ n : Nat, (V 105 12) = nI n ∧ n ≤ 20 := ⟨_, hz.1, hz.2⟩
  have hN : ((V 105 12)).toNatClampNeg = n := by rw [hn]; exact zz_ix (by omega)
  rw [vl_231_4] at h
  rw [hN] at h
  try simp only [hN] at hw1
  refine zz_fo (fun (i_231 : Nat) (a_231 : Int32) => ((if a_231 = 0 then (if (V 111 i_231) = i1 then (if (V 114 i_231) = (1 : Int32) then (if (V 115 i_231) = (V 105 2) then (1 : Int32) else (0 : Int32)) else (0 : Int32)) else (0 : Int32)) else (1 : Int32)) : Int32)) (fun i_231 a_231 => ab_J G (ac_ST L xs) l (d + 2) 231 4 [some (.ref 105), some (.int i1), some (.int a_231), some (.int (nI i_231))] [] ac_SK V ac_SK K) n a0 ?_ ?_
  · refine iv_231_4 ⟨fun q => absurd q (zz_ge hn), fun _ => ?_⟩
    try dsimp only at h
    generalize hfo : fo (fun (i_231 : Nat) (a_231 : Int32) => ((if a_231 = 0 then (if (V 111 i_231) = i1 then (if (V 114 i_231) = (1 : Int32) then (if (V 115 i_231) = (V 105 2) then (1 : Int32) else (0 : Int32)) else (0 : Int32)) else (0 : Int32)) else (1 : Int32)) : Int32)) n a0 = a_231 at h ⊢
    have hw1 := hw1 _ hfo
    refine ⟨hw1, ?_⟩
    exact h (hw1)
  · intro i_231 hi ih
    have e : (nI i_231).toNatClampNeg = i_231 := zz_ix (by omega)
    rw [fo_s, nI_succ] at ih
    refine iv_231_4 ⟨fun _ => ?_, fun q => absurd (zz_gl hn hi (by omega)) q⟩
    try simp only [e, ac_zs0, ac_zs1]
    refine ⟨fun c1 => ?_, fun c1 => ?_⟩
    · refine ⟨vp_in_nI (by omega) (by decide), ?_⟩
      refine ⟨fun c2 => ?_, fun c2 => ?_⟩
      · refine ⟨vp_in_nI (by omega) (by decide), ?_⟩
        refine ⟨fun c3 => ?_, fun c3 => ?_⟩
        · refine ⟨vp_in_nI (by omega) (by decide), ?_⟩
          refine ⟨fun c4 => ?_, fun c4 => ?_⟩
          · rw [if_pos c1, if_pos c2, if_pos c3, if_pos c4] at ih
            exact ih
          · rw [if_pos c1, if_pos c2, if_pos c3, if_neg c4] at ih
            exact ih
        · rw [if_pos c1, if_pos c2, if_neg c3] at ih
          exact ih
      · rw [if_pos c1, if_neg c2] at ih
        exact ih
    · rw [if_neg c1] at ih
      exact ih

def va_231 (i1 : Int32) (V : aa_V) : Int32 := (vl_231_4 i1 V (0 : Int32))
set_option maxRecDepth 20000 in
/-- FrameCountyModel hasStruck -/
theorem sp_231 {G : ab_G} {L : Nat} {xs : Nat → Int32} {l : Launch} {d : Nat} {i1 : Int32} {V : aa_V} {K : aa_K} (hw1 : zb (V 105 12) 20) (hw2 : ∀ a_231 : Int32, fo (fun (i_231 : Nat) (a_231 : Int32) => ((if a_231 = 0 then (if (V 111 i_231) = i1 then (if (V 114 i_231) = (1 : Int32) then (if (V 115 i_231) = (V 105 2) then (1 : Int32) else (0 : Int32)) else (0 : Int32)) else (0 : Int32)) else (1 : Int32)) : Int32)) ((V 105 12)).toNatClampNeg (0 : Int32) = a_231 → aa_bit a_231) (h : aa_bit (va_231 i1 V) → K (some (.int (va_231 i1 V))) V) :
    ab_E G (ac_ST L xs) l (d + 2) ac_SK 231 [.ref 105, .int i1] V K := by
  rw [va_231] at h
  refine iv_231_0 ?_
  exact lo_231_4 hw1 hw2 h

def vl_232_4  (V : aa_V) (a0 : Int32) : Int32 := ((fun (a_232 : Int32) => a_232) (fo (fun (i_232 : Nat) (a_232 : Int32) => ((if (V 114 i_232) = (1 : Int32) then (if (V 115 i_232) = (V 105 2) then (a_232 ||| ((1 : Int32) <<< ((nI i_232) &&& 31))) else (a_232 ||| (0 : Int32))) else (a_232 ||| (0 : Int32))) : Int32)) ((V 105 12)).toNatClampNeg a0))
set_option maxRecDepth 20000 in
/-- FrameCountyModel struck, the loop at 4 -/
theorem lo_232_4 {G : ab_G} {L : Nat} {xs : Nat → Int32} {l : Launch} {d : Nat} {V : aa_V} {K : aa_K} {a0 : Int32} (hz : zb (V 105 12) 20) (h : K (some (.int (vl_232_4  V a0))) V) :
    ab_J G (ac_ST L xs) l (d + 2) 232 4 [some (.ref 105), some (.int a0), some (.int (0 : Int32))] [] ac_SK V ac_SK K := by
  obtain ⟨n, hn, hm⟩ : ∃ n : Nat, (V 105 12) = nI n ∧ n ≤ 20 := ⟨_, hz.1, hz.2⟩
  have hN : ((V 105 12)).toNatClampNeg = n := by rw [hn]; exact zz_ix (by omega)
  rw [vl_232_4] at h
  rw [hN] at h
  refine zz_fo (fun (i_232 : Nat) (a_232 : Int32) => ((if (V 114 i_232) = (1 : Int32) then (if (V 115 i_232) = (V 105 2) then (a_232 ||| ((1 : Int32) <<< ((nI i_232) &&& 31))) else (a_232 ||| (0 : Int32))) else (a_232 ||| (0 : Int32))) : Int32)) (fun i_232 a_232 => ab_J G (ac_ST L xs) l (d + 2) 232 4 [some (.ref 105), some (.int a_232), some (.int (nI i_232))] [] ac_SK V ac_SK K) n a0 ?_ ?_
  · refine iv_232_4 ⟨fun q => absurd q (zz_ge hn), fun _ => ?_⟩
    try dsimp only at h
    generalize hfo : fo (fun (i_232 : Nat) (a_232 : Int32) => ((if (V 114 i_232) = (1 : Int32) then (if (V 115 i_232) = (V 105 2) then (a_232 ||| ((1 : Int32) <<< ((nI i_232) &&& 31))) else (a_232 ||| (0 : Int32))) else (a_232 ||| (0 : Int32))) : Int32)) n a0 = a_232 at h ⊢
    exact h
  · intro i_232 hi ih
    have e : (nI i_232).toNatClampNeg = i_232 := zz_ix (by omega)
    rw [fo_s, nI_succ] at ih
    refine iv_232_4 ⟨fun _ => ?_, fun q => absurd (zz_gl hn hi (by omega)) q⟩
    try simp only [e, ac_zs0, ac_zs1]
    refine ⟨vp_in_nI (by omega) (by decide), ?_⟩
    refine ⟨fun c1 => ?_, fun c1 => ?_⟩
    · refine ⟨vp_in_nI (by omega) (by decide), ?_⟩
      refine ⟨fun c2 => ?_, fun c2 => ?_⟩
      · rw [if_pos c1, if_pos c2] at ih
        exact ih
      · rw [if_pos c1, if_neg c2] at ih
        exact ih
    · rw [if_neg c1] at ih
      exact ih

def va_232  (V : aa_V) : Int32 := (vl_232_4  V (0 : Int32))
set_option maxRecDepth 20000 in
/-- FrameCountyModel struck -/
theorem sp_232 {G : ab_G} {L : Nat} {xs : Nat → Int32} {l : Launch} {d : Nat} {V : aa_V} {K : aa_K} (hw1 : zb (V 105 12) 20) (h : K (some (.int (va_232  V))) V) :
    ab_E G (ac_ST L xs) l (d + 2) ac_SK 232 [.ref 105] V K := by
  rw [va_232] at h
  refine iv_232_0 ?_
  exact lo_232_4 hw1 h

def vl_236_3 (i1 : Int32) (i2 : Int32) (i3 : Int32) (V : aa_V) (a0 : Unit) : Int32 := (match fe (fun (i_236 : Nat) (a_236 : Unit) => ((if ((i2 >>> ((nI i_236) &&& 31)) &&& (1 : Int32)) = (1 : Int32) then (if (va_235 i1 (nI i_236) V) = 0 then .inr (0 : Int32) else (if ((i3 >>> ((nI i_236) &&& 31)) &&& (1 : Int32)) = (1 : Int32) then .inr (0 : Int32) else .inl ())) else (if ((i3 >>> ((nI i_236) &&& 31)) &&& (1 : Int32)) = (1 : Int32) then (if (va_235 i1 (nI i_236) V) = 0 then .inl () else .inr (0 : Int32)) else .inl ())) : Unit ⊕ Int32)) ((V 105 12)).toNatClampNeg a0 with
  | .inl a_236 => (if i2 = 0 then (0 : Int32) else (1 : Int32))
  | .inr b => b)
set_option maxRecDepth 20000 in
/-- FrameCountyModel isLeft, the loop at 3 -/
theorem lo_236_3 {G : ab_G} {L : Nat} {xs : Nat → Int32} {l : Launch} {d : Nat} {i1 : Int32} {i2 : Int32} {i3 : Int32} {V : aa_V} {K : aa_K} {a0 : Unit} (hz : zb (V 105 12) 1000000000) (hv1 : ∀ i_236 : Nat, i_236 < ((V 105 12)).toNatClampNeg → ((i1 / (300 : Int32)) = 0) → vp_in (nI i_236) 20) (hv2 : ∀ i_236 : Nat, i_236 < ((V 105 12)).toNatClampNeg → ¬ ((i1 / (300 : Int32)) = 0) → ((i1 / (300 : Int32)) = (1 : Int32)) → vp_in (nI i_236) 20) (hv3 : ∀ i_236 : Nat, i_236 < ((V 105 12)).toNatClampNeg → ¬ ((i1 / (300 : Int32)) = 0) → ¬ ((i1 / (300 : Int32)) = (1 : Int32)) → ((i1 / (300 : Int32)) = (2 : Int32)) → vp_in (nI i_236) 20) (hv4 : ∀ i_236 : Nat, i_236 < ((V 105 12)).toNatClampNeg → ¬ ((i1 / (300 : Int32)) = 0) → ¬ ((i1 / (300 : Int32)) = (1 : Int32)) → ¬ ((i1 / (300 : Int32)) = (2 : Int32)) → ((i1 / (300 : Int32)) = (3 : Int32)) → vp_in (nI i_236) 20) (hv5 : ∀ i_236 : Nat, i_236 < ((V 105 12)).toNatClampNeg → ¬ ((i1 / (300 : Int32)) = 0) → ¬ ((i1 / (300 : Int32)) = (1 : Int32)) → ¬ ((i1 / (300 : Int32)) = (2 : Int32)) → ((i1 / (300 : Int32)) = (3 : Int32)) → vp_in (V 111 i_236) 8) (hv6 : ∀ i_236 : Nat, i_236 < ((V 105 12)).toNatClampNeg → ¬ ((i1 / (300 : Int32)) = 0) → ¬ ((i1 / (300 : Int32)) = (1 : Int32)) → ¬ ((i1 / (300 : Int32)) = (2 : Int32)) → ¬ ((i1 / (300 : Int32)) = (3 : Int32)) → vp_in (nI i_236) 20) (hv7 : ∀ i_236 : Nat, i_236 < ((V 105 12)).toNatClampNeg → ¬ ((i1 / (300 : Int32)) = 0) → ¬ ((i1 / (300 : Int32)) = (1 : Int32)) → ¬ ((i1 / (300 : Int32)) = (2 : Int32)) → ¬ ((i1 / (300 : Int32)) = (3 : Int32)) → vp_in (V 111 i_236) 8) (h : aa_bit (vl_236_3 i1 i2 i3 V a0) → K (some (.int (vl_236_3 i1 i2 i3 V a0))) V) :
    ab_J G (ac_ST L xs) l (d + 2) 236 3 [some (.ref 105), some (.int i1), some (.int i2), some (.int i3), some (.int (0 : Int32))] [] ac_SK V ac_SK K := by
  obtain ⟨n, hn, hm⟩ : ∃ n : Nat, (V 105 12) = nI n ∧ n ≤ 1000000000 := ⟨_, hz.1, hz.2⟩
  have hN : ((V 105 12)).toNatClampNeg = n := by rw [hn]; exact zz_ix (by omega)
  rw [vl_236_3] at h
  rw [hN] at h
  try simp only [hN] at hv1
  try simp only [hN] at hv2
  try simp only [hN] at hv3
  try simp only [hN] at hv4
  try simp only [hN] at hv5
  try simp only [hN] at hv6
  try simp only [hN] at hv7
  refine zz_fe (fun (i_236 : Nat) (a_236 : Unit) => ((if ((i2 >>> ((nI i_236) &&& 31)) &&& (1 : Int32)) = (1 : Int32) then (if (va_235 i1 (nI i_236) V) = 0 then .inr (0 : Int32) else (if ((i3 >>> ((nI i_236) &&& 31)) &&& (1 : Int32)) = (1 : Int32) then .inr (0 : Int32) else .inl ())) else (if ((i3 >>> ((nI i_236) &&& 31)) &&& (1 : Int32)) = (1 : Int32) then (if (va_235 i1 (nI i_236) V) = 0 then .inl () else .inr (0 : Int32)) else .inl ())) : Unit ⊕ Int32)) (fun i_236 a_236 => ab_J G (ac_ST L xs) l (d + 2) 236 3 [some (.ref 105), some (.int i1), some (.int i2), some (.int i3), some (.int (nI i_236))] [] ac_SK V ac_SK K) (fun b => aa_bit b → K (some (.int b)) V) n a0 ?_ ?_ ?_
  · intro a_236 hfo
    rw [hfo] at h
    refine iv_236_3 ⟨fun q => absurd q (zz_ge hn), fun _ => ?_⟩
    refine ⟨fun g1 => ?_, fun g1 => ?_⟩
    · simp only [if_pos g1] at h
      exact h (Or.inl rfl)
    · simp only [if_neg g1] at h
      exact h (Or.inr rfl)
  · intro i_236 a_236 hi hfe hnx hex
    have e : (nI i_236).toNatClampNeg = i_236 := zz_ix (by omega)
    rw [nI_succ] at hnx
    refine iv_236_3 ⟨fun _ => ?_, fun q => absurd (zz_gl hn hi (by omega)) q⟩
    try simp only [e, ac_zs0, ac_zs1]
    refine ⟨fun c1 => ?_, fun c1 => ?_⟩
    · refine sp_235 (by first | exact (hv1 i_236 hi) | (simp only [e]; exact (hv1 i_236 hi)) | (simp only [hN]; exact (hv1 i_236 hi))) (by first | exact (hv2 i_236 hi) | (simp only [e]; exact (hv2 i_236 hi)) | (simp only [hN]; exact (hv2 i_236 hi))) (by first | exact (hv3 i_236 hi) | (simp only [e]; exact (hv3 i_236 hi)) | (simp only [hN]; exact (hv3 i_236 hi))) (by first | exact (hv4 i_236 hi) | (simp only [e]; exact (hv4 i_236 hi)) | (simp only [hN]; exact (hv4 i_236 hi))) (by first | exact (hv5 i_236 hi) | (simp only [e]; exact (hv5 i_236 hi)) | (simp only [hN]; exact (hv5 i_236 hi))) (by first | exact (hv6 i_236 hi) | (simp only [e]; exact (hv6 i_236 hi)) | (simp only [hN]; exact (hv6 i_236 hi))) (by first | exact (hv7 i_236 hi) | (simp only [e]; exact (hv7 i_236 hi)) | (simp only [hN]; exact (hv7 i_236 hi))) (fun hb2 => ?_)
      dsimp only [aa_rI, aa_rL]
      refine ⟨fun c3 => ?_, fun c3 => ?_⟩
      · exact hex _ ((if_pos c1).trans ((if_pos c3).trans rfl)) (Or.inl rfl)
      · refine ⟨fun c4 => ?_, fun c4 => ?_⟩
        · refine sp_235 (by first | exact (hv1 i_236 hi) | (simp only [e]; exact (hv1 i_236 hi)) | (simp only [hN]; exact (hv1 i_236 hi))) (by first | exact (hv2 i_236 hi) | (simp only [e]; exact (hv2 i_236 hi)) | (simp only [hN]; exact (hv2 i_236 hi))) (by first | exact (hv3 i_236 hi) | (simp only [e]; exact (hv3 i_236 hi)) | (simp only [hN]; exact (hv3 i_236 hi))) (by first | exact (hv4 i_236 hi) | (simp only [e]; exact (hv4 i_236 hi)) | (simp only [hN]; exact (hv4 i_236 hi))) (by first | exact (hv5 i_236 hi) | (simp only [e]; exact (hv5 i_236 hi)) | (simp only [hN]; exact (hv5 i_236 hi))) (by first | exact (hv6 i_236 hi) | (simp only [e]; exact (hv6 i_236 hi)) | (simp only [hN]; exact (hv6 i_236 hi))) (by first | exact (hv7 i_236 hi) | (simp only [e]; exact (hv7 i_236 hi)) | (simp only [hN]; exact (hv7 i_236 hi))) (fun hb5 => ?_)
          dsimp only [aa_rI, aa_rL]
          refine ⟨fun q => absurd q c3, fun _ => ?_⟩
          exact hex _ ((if_pos c1).trans ((if_neg c3).trans ((if_pos c4).trans rfl))) (Or.inl rfl)
        · exact hnx _ ((if_pos c1).trans ((if_neg c3).trans ((if_neg c4).trans rfl)))
    · refine ⟨fun c6 => ?_, fun c6 => ?_⟩
      · refine sp_235 (by first | exact (hv1 i_236 hi) | (simp only [e]; exact (hv1 i_236 hi)) | (simp only [hN]; exact (hv1 i_236 hi))) (by first | exact (hv2 i_236 hi) | (simp only [e]; exact (hv2 i_236 hi)) | (simp only [hN]; exact (hv2 i_236 hi))) (by first | exact (hv3 i_236 hi) | (simp only [e]; exact (hv3 i_236 hi)) | (simp only [hN]; exact (hv3 i_236 hi))) (by first | exact (hv4 i_236 hi) | (simp only [e]; exact (hv4 i_236 hi)) | (simp only [hN]; exact (hv4 i_236 hi))) (by first | exact (hv5 i_236 hi) | (simp only [e]; exact (hv5 i_236 hi)) | (simp only [hN]; exact (hv5 i_236 hi))) (by first | exact (hv6 i_236 hi) | (simp only [e]; exact (hv6 i_236 hi)) | (simp only [hN]; exact (hv6 i_236 hi))) (by first | exact (hv7 i_236 hi) | (simp only [e]; exact (hv7 i_236 hi)) | (simp only [hN]; exact (hv7 i_236 hi))) (fun hb7 => ?_)
        dsimp only [aa_rI, aa_rL]
        refine ⟨fun c8 => ?_, fun c8 => ?_⟩
        · exact hnx _ ((if_neg c1).trans ((if_pos c6).trans ((if_pos c8).trans rfl)))
        · exact hex _ ((if_neg c1).trans ((if_pos c6).trans ((if_neg c8).trans rfl))) (Or.inl rfl)
      · exact hnx _ ((if_neg c1).trans ((if_neg c6).trans rfl))
  · intro b hb
    rw [hb] at h
    exact h

def va_236 (i1 : Int32) (i2 : Int32) (i3 : Int32) (V : aa_V) : Int32 := (vl_236_3 i1 i2 i3 V ())
set_option maxRecDepth 20000 in
/-- FrameCountyModel isLeft -/
theorem sp_236 {G : ab_G} {L : Nat} {xs : Nat → Int32} {l : Launch} {d : Nat} {i1 : Int32} {i2 : Int32} {i3 : Int32} {V : aa_V} {K : aa_K} (hw1 : zb (V 105 12) 1000000000) (hw2 : ∀ i_236 : Nat, i_236 < ((V 105 12)).toNatClampNeg → ((i1 / (300 : Int32)) = 0) → vp_in (nI i_236) 20) (hw3 : ∀ i_236 : Nat, i_236 < ((V 105 12)).toNatClampNeg → ¬ ((i1 / (300 : Int32)) = 0) → ((i1 / (300 : Int32)) = (1 : Int32)) → vp_in (nI i_236) 20) (hw4 : ∀ i_236 : Nat, i_236 < ((V 105 12)).toNatClampNeg → ¬ ((i1 / (300 : Int32)) = 0) → ¬ ((i1 / (300 : Int32)) = (1 : Int32)) → ((i1 / (300 : Int32)) = (2 : Int32)) → vp_in (nI i_236) 20) (hw5 : ∀ i_236 : Nat, i_236 < ((V 105 12)).toNatClampNeg → ¬ ((i1 / (300 : Int32)) = 0) → ¬ ((i1 / (300 : Int32)) = (1 : Int32)) → ¬ ((i1 / (300 : Int32)) = (2 : Int32)) → ((i1 / (300 : Int32)) = (3 : Int32)) → vp_in (nI i_236) 20) (hw6 : ∀ i_236 : Nat, i_236 < ((V 105 12)).toNatClampNeg → ¬ ((i1 / (300 : Int32)) = 0) → ¬ ((i1 / (300 : Int32)) = (1 : Int32)) → ¬ ((i1 / (300 : Int32)) = (2 : Int32)) → ((i1 / (300 : Int32)) = (3 : Int32)) → vp_in (V 111 i_236) 8) (hw7 : ∀ i_236 : Nat, i_236 < ((V 105 12)).toNatClampNeg → ¬ ((i1 / (300 : Int32)) = 0) → ¬ ((i1 / (300 : Int32)) = (1 : Int32)) → ¬ ((i1 / (300 : Int32)) = (2 : Int32)) → ¬ ((i1 / (300 : Int32)) = (3 : Int32)) → vp_in (nI i_236) 20) (hw8 : ∀ i_236 : Nat, i_236 < ((V 105 12)).toNatClampNeg → ¬ ((i1 / (300 : Int32)) = 0) → ¬ ((i1 / (300 : Int32)) = (1 : Int32)) → ¬ ((i1 / (300 : Int32)) = (2 : Int32)) → ¬ ((i1 / (300 : Int32)) = (3 : Int32)) → vp_in (V 111 i_236) 8) (h : aa_bit (va_236 i1 i2 i3 V) → K (some (.int (va_236 i1 i2 i3 V))) V) :
    ab_E G (ac_ST L xs) l (d + 2) ac_SK 236 [.ref 105, .int i1, .int i2, .int i3] V K := by
  rw [va_236] at h
  refine iv_236_0 ?_
  exact lo_236_3 hw1 hw2 hw3 hw4 hw5 hw6 hw7 hw8 h

def va_241 (i1 : Int32) (V : aa_V) : Int32 := (if i1 < 0 then (-2 : Int32) else (if i1 < (8 : Int32) then (if (V 105 46) = (12 : Int32) then (-4 : Int32) else (((V 105 46) + (1 : Int32)) - (1 : Int32))) else (-2 : Int32)))
def vn_241 (i1 : Int32) (V : aa_V) : aa_V := (if i1 < 0 then V else (if i1 < (8 : Int32) then (if (V 105 46) = (12 : Int32) then V else (aa_up (aa_up V 127 (((V 105 46)).toNatClampNeg) i1) 105 46 ((V 105 46) + (1 : Int32)))) else V))
set_option maxRecDepth 20000 in
/-- FrameCountyModel person -/
theorem sp_241 {G : ab_G} {L : Nat} {xs : Nat → Int32} {l : Launch} {d : Nat} {i1 : Int32} {V : aa_V} {K : aa_K} (hw1 : ¬ (i1 < 0) → (i1 < (8 : Int32)) → ¬ ((V 105 46) = (12 : Int32)) → vp_in (V 105 46) 12) (h : K (some (.int (va_241 i1 V))) (vn_241 i1 V)) :
    ab_E G (ac_ST L xs) l (d + 2) ac_SK 241 [.ref 105, .int i1] V K := by
  rw [va_241, vn_241] at h
  refine iv_241_0 ?_
  refine ⟨fun g1 => ?_, fun g1 => ?_⟩
  · simp only [if_pos g1] at h
    exact h
  · refine ⟨fun g2 => ?_, fun g2 => ?_⟩
    · refine ⟨fun g3 => ?_, fun g3 => ?_⟩
      · simp only [if_neg g1, if_pos g2, if_pos g3] at h
        exact h
      · refine ⟨(hw1 g1 g2 g3), ?_⟩
        simp only [if_neg g1, if_pos g2, if_neg g3] at h
        exact h
    · simp only [if_neg g1, if_neg g2] at h
      exact h

def va_242 (i1 : Int32) (i2 : Int32) (i3 : Int32) (i4 : Int32) (V : aa_V) : Int32 := (if i1 < 0 then (-2 : Int32) else (if i1 < (V 105 46) then (if i2 < 0 then (-2 : Int32) else (if i2 < (8 : Int32) then (if i3 < (0 : Int32) then (-2 : Int32) else (if (V 105 2) < i3 then (-2 : Int32) else (if i4 < (0 : Int32) then (-2 : Int32) else (if (11 : Int32) < i4 then (-2 : Int32) else (if (V 105 47) = (40 : Int32) then (-4 : Int32) else ((V 105 47) + (1 : Int32))))))) else (-2 : Int32))) else (-2 : Int32)))
def vn_242 (i1 : Int32) (i2 : Int32) (i3 : Int32) (i4 : Int32) (V : aa_V) : aa_V := (if i1 < 0 then V else (if i1 < (V 105 46) then (if i2 < 0 then V else (if i2 < (8 : Int32) then (if i3 < (0 : Int32) then V else (if (V 105 2) < i3 then V else (if i4 < (0 : Int32) then V else (if (11 : Int32) < i4 then V else (if (V 105 47) = (40 : Int32) then V else (aa_up (aa_up (aa_up (aa_up (aa_up (aa_up V 128 (((V 105 47)).toNatClampNeg) i1) 129 (((V 105 47)).toNatClampNeg) i2) 130 (((V 105 47)).toNatClampNeg) i3) 131 (((V 105 47)).toNatClampNeg) i4) 132 (((V 105 47)).toNatClampNeg) (V 105 2)) 105 47 ((V 105 47) + (1 : Int32)))))))) else V)) else V))
set_option maxRecDepth 20000 in
/-- FrameCountyModel seen -/
theorem sp_242 {G : ab_G} {L : Nat} {xs : Nat → Int32} {l : Launch} {d : Nat} {i1 : Int32} {i2 : Int32} {i3 : Int32} {i4 : Int32} {V : aa_V} {K : aa_K} (hw1 : ¬ (i1 < 0) → (i1 < (V 105 46)) → ¬ (i2 < 0) → (i2 < (8 : Int32)) → ¬ (i3 < (0 : Int32)) → ¬ ((V 105 2) < i3) → ¬ (i4 < (0 : Int32)) → ¬ ((11 : Int32) < i4) → ¬ ((V 105 47) = (40 : Int32)) → vp_in (V 105 47) 40) (h : K (some (.int (va_242 i1 i2 i3 i4 V))) (vn_242 i1 i2 i3 i4 V)) :
    ab_E G (ac_ST L xs) l (d + 2) ac_SK 242 [.ref 105, .int i1, .int i2, .int i3, .int i4] V K := by
  rw [va_242, vn_242] at h
  refine iv_242_0 ?_
  refine ⟨fun g1 => ?_, fun g1 => ?_⟩
  · simp only [if_pos g1] at h
    exact h
  · refine ⟨fun g2 => ?_, fun g2 => ?_⟩
    · refine ⟨fun g3 => ?_, fun g3 => ?_⟩
      · simp only [if_neg g1, if_pos g2, if_pos g3] at h
        exact h
      · refine ⟨fun g4 => ?_, fun g4 => ?_⟩
        · refine ⟨fun g5 => ?_, fun g5 => ?_⟩
          · simp only [if_neg g1, if_pos g2, if_neg g3, if_pos g4, if_pos g5] at h
            exact h
          · refine ⟨fun g6 => ?_, fun g6 => ?_⟩
            · simp only [if_neg g1, if_pos g2, if_neg g3, if_pos g4, if_neg g5, if_pos g6] at h
              exact h
            · refine ⟨fun g7 => ?_, fun g7 => ?_⟩
              · simp only [if_neg g1, if_pos g2, if_neg g3, if_pos g4, if_neg g5, if_neg g6, if_pos g7] at h
                exact h
              · refine ⟨fun g8 => ?_, fun g8 => ?_⟩
                · simp only [if_neg g1, if_pos g2, if_neg g3, if_pos g4, if_neg g5, if_neg g6, if_neg g7, if_pos g8] at h
                  exact h
                · refine ⟨fun g9 => ?_, fun g9 => ?_⟩
                  · simp only [if_neg g1, if_pos g2, if_neg g3, if_pos g4, if_neg g5, if_neg g6, if_neg g7, if_neg g8, if_pos g9] at h
                    exact h
                  · refine ⟨(hw1 g1 g2 g3 g4 g5 g6 g7 g8 g9), ?_⟩
                    refine ⟨(hw1 g1 g2 g3 g4 g5 g6 g7 g8 g9), ?_⟩
                    refine ⟨(hw1 g1 g2 g3 g4 g5 g6 g7 g8 g9), ?_⟩
                    refine ⟨(hw1 g1 g2 g3 g4 g5 g6 g7 g8 g9), ?_⟩
                    refine ⟨(hw1 g1 g2 g3 g4 g5 g6 g7 g8 g9), ?_⟩
                    simp only [if_neg g1, if_pos g2, if_neg g3, if_pos g4, if_neg g5, if_neg g6, if_neg g7, if_neg g8, if_neg g9] at h
                    exact h
        · simp only [if_neg g1, if_pos g2, if_neg g3, if_neg g4] at h
          exact h
    · simp only [if_neg g1, if_neg g2] at h
      exact h

def va_249 (i1 : Int32) (i2 : Int32) (i3 : Int32) (i4 : Int32) (V : aa_V) : Int32 := (if i1 < (0 : Int32) then (-2 : Int32) else (if (5 : Int32) < i1 then (-2 : Int32) else (if i2 < 0 then (-2 : Int32) else (if i2 < (V 105 46) then (if i3 < (0 : Int32) then (-2 : Int32) else (if ((V 105 34) - (1 : Int32)) < i3 then (-2 : Int32) else (if i4 < (0 : Int32) then (-2 : Int32) else (if (999 : Int32) < i4 then (-2 : Int32) else (if (V 105 48) = (24 : Int32) then (-4 : Int32) else (((V 105 48) + (1 : Int32)) - (1 : Int32))))))) else (-2 : Int32)))))
def vn_249 (i1 : Int32) (i2 : Int32) (i3 : Int32) (i4 : Int32) (V : aa_V) : aa_V := (if i1 < (0 : Int32) then V else (if (5 : Int32) < i1 then V else (if i2 < 0 then V else (if i2 < (V 105 46) then (if i3 < (0 : Int32) then V else (if ((V 105 34) - (1 : Int32)) < i3 then V else (if i4 < (0 : Int32) then V else (if (999 : Int32) < i4 then V else (if (V 105 48) = (24 : Int32) then V else (aa_up (aa_up (aa_up (aa_up (aa_up (aa_up V 133 (((V 105 48)).toNatClampNeg) i1) 134 (((V 105 48)).toNatClampNeg) i2) 135 (((V 105 48)).toNatClampNeg) i3) 136 (((V 105 48)).toNatClampNeg) i4) 137 (((V 105 48)).toNatClampNeg) (V 105 2)) 105 48 ((V 105 48) + (1 : Int32)))))))) else V))))
set_option maxRecDepth 20000 in
/-- FrameCountyModel word -/
theorem sp_249 {G : ab_G} {L : Nat} {xs : Nat → Int32} {l : Launch} {d : Nat} {i1 : Int32} {i2 : Int32} {i3 : Int32} {i4 : Int32} {V : aa_V} {K : aa_K} (hw1 : ¬ (i1 < (0 : Int32)) → ¬ ((5 : Int32) < i1) → ¬ (i2 < 0) → (i2 < (V 105 46)) → ¬ (i3 < (0 : Int32)) → ¬ (((V 105 34) - (1 : Int32)) < i3) → ¬ (i4 < (0 : Int32)) → ¬ ((999 : Int32) < i4) → ¬ ((V 105 48) = (24 : Int32)) → vp_in (V 105 48) 24) (h : K (some (.int (va_249 i1 i2 i3 i4 V))) (vn_249 i1 i2 i3 i4 V)) :
    ab_E G (ac_ST L xs) l (d + 2) ac_SK 249 [.ref 105, .int i1, .int i2, .int i3, .int i4] V K := by
  rw [va_249, vn_249] at h
  refine iv_249_0 ?_
  refine ⟨fun g1 => ?_, fun g1 => ?_⟩
  · simp only [if_pos g1] at h
    exact h
  · refine ⟨fun g2 => ?_, fun g2 => ?_⟩
    · simp only [if_neg g1, if_pos g2] at h
      exact h
    · refine ⟨fun g3 => ?_, fun g3 => ?_⟩
      · simp only [if_neg g1, if_neg g2, if_pos g3] at h
        exact h
      · refine ⟨fun g4 => ?_, fun g4 => ?_⟩
        · refine ⟨fun g5 => ?_, fun g5 => ?_⟩
          · simp only [if_neg g1, if_neg g2, if_neg g3, if_pos g4, if_pos g5] at h
            exact h
          · refine ⟨fun g6 => ?_, fun g6 => ?_⟩
            · simp only [if_neg g1, if_neg g2, if_neg g3, if_pos g4, if_neg g5, if_pos g6] at h
              exact h
            · refine ⟨fun g7 => ?_, fun g7 => ?_⟩
              · simp only [if_neg g1, if_neg g2, if_neg g3, if_pos g4, if_neg g5, if_neg g6, if_pos g7] at h
                exact h
              · refine ⟨fun g8 => ?_, fun g8 => ?_⟩
                · simp only [if_neg g1, if_neg g2, if_neg g3, if_pos g4, if_neg g5, if_neg g6, if_neg g7, if_pos g8] at h
                  exact h
                · refine ⟨fun g9 => ?_, fun g9 => ?_⟩
                  · simp only [if_neg g1, if_neg g2, if_neg g3, if_pos g4, if_neg g5, if_neg g6, if_neg g7, if_neg g8, if_pos g9] at h
                    exact h
                  · refine ⟨(hw1 g1 g2 g3 g4 g5 g6 g7 g8 g9), ?_⟩
                    refine ⟨(hw1 g1 g2 g3 g4 g5 g6 g7 g8 g9), ?_⟩
                    refine ⟨(hw1 g1 g2 g3 g4 g5 g6 g7 g8 g9), ?_⟩
                    refine ⟨(hw1 g1 g2 g3 g4 g5 g6 g7 g8 g9), ?_⟩
                    refine ⟨(hw1 g1 g2 g3 g4 g5 g6 g7 g8 g9), ?_⟩
                    simp only [if_neg g1, if_neg g2, if_neg g3, if_pos g4, if_neg g5, if_neg g6, if_neg g7, if_neg g8, if_neg g9] at h
                    exact h
        · simp only [if_neg g1, if_neg g2, if_neg g3, if_neg g4] at h
          exact h

def va_258 (i1 : Int32) (i2 : Int32) (V : aa_V) : Int32 := (if i1 < 0 then (-5 : Int32) else (if i1 < (V 105 46) then (if i2 < (-1 : Int32) then (-5 : Int32) else (if (399 : Int32) < i2 then (-5 : Int32) else (V 142 ((i1).toNatClampNeg)))) else (-5 : Int32)))
def vn_258 (i1 : Int32) (i2 : Int32) (V : aa_V) : aa_V := (if i1 < 0 then V else (if i1 < (V 105 46) then (if i2 < (-1 : Int32) then V else (if (399 : Int32) < i2 then V else (aa_up V 142 ((i1).toNatClampNeg) i2))) else V))
set_option maxRecDepth 20000 in
/-- FrameCountyModel taker -/
theorem sp_258 {G : ab_G} {L : Nat} {xs : Nat → Int32} {l : Launch} {d : Nat} {i1 : Int32} {i2 : Int32} {V : aa_V} {K : aa_K} (hw1 : ¬ (i1 < 0) → (i1 < (V 105 46)) → ¬ (i2 < (-1 : Int32)) → ¬ ((399 : Int32) < i2) → vp_in i1 12) (h : K (some (.int (va_258 i1 i2 V))) (vn_258 i1 i2 V)) :
    ab_E G (ac_ST L xs) l (d + 2) ac_SK 258 [.ref 105, .int i1, .int i2] V K := by
  rw [va_258, vn_258] at h
  refine iv_258_0 ?_
  refine ⟨fun g1 => ?_, fun g1 => ?_⟩
  · simp only [if_pos g1] at h
    exact h
  · refine ⟨fun g2 => ?_, fun g2 => ?_⟩
    · refine ⟨fun g3 => ?_, fun g3 => ?_⟩
      · simp only [if_neg g1, if_pos g2, if_pos g3] at h
        exact h
      · refine ⟨fun g4 => ?_, fun g4 => ?_⟩
        · simp only [if_neg g1, if_pos g2, if_neg g3, if_pos g4] at h
          exact h
        · refine ⟨(hw1 g1 g2 g3 g4), ?_⟩
          refine ⟨(hw1 g1 g2 g3 g4), ?_⟩
          simp only [if_neg g1, if_pos g2, if_neg g3, if_neg g4] at h
          exact h
    · simp only [if_neg g1, if_neg g2] at h
      exact h

def vl_262_2 (i1 : Int32) (V : aa_V) (a0 : Unit) : Int32 := (match fe (fun (i_262 : Nat) (a_262 : Unit) => ((if (V 142 i_262) < 0 then .inl () else (if (((va_259 i1 (V 142 i_262) V) >>> ((nI i_262) &&& 31)) &&& (1 : Int32)) = 0 then .inr (0 : Int32) else .inl ())) : Unit ⊕ Int32)) ((V 105 46)).toNatClampNeg a0 with
  | .inl a_262 => (1 : Int32)
  | .inr b => b)
set_option maxRecDepth 20000 in
/-- FrameCountyModel swears, the loop at 2 -/
theorem lo_262_2 {G : ab_G} {L : Nat} {xs : Nat → Int32} {l : Launch} {d : Nat} {i1 : Int32} {V : aa_V} {K : aa_K} {a0 : Unit} (hz : zb (V 105 46) 12) (hp1 : zb (V 105 54) 40) (hp2 : ∀ i_259 : Nat, i_259 < ((V 105 54)).toNatClampNeg → vp_in (V 141 i_259) 40) (h : aa_bit (vl_262_2 i1 V a0) → K (some (.int (vl_262_2 i1 V a0))) V) :
    ab_J G (ac_ST L xs) l (d + 2) 262 2 [some (.ref 105), some (.int i1), some (.int (0 : Int32))] [] ac_SK V ac_SK K := by
  obtain ⟨n, hn, hm⟩ : ∃ n : Nat, (V 105 46) = nI n ∧ n ≤ 12 := ⟨_, hz.1, hz.2⟩
  have hN : ((V 105 46)).toNatClampNeg = n := by rw [hn]; exact zz_ix (by omega)
  rw [vl_262_2] at h
  rw [hN] at h
  refine zz_fe (fun (i_262 : Nat) (a_262 : Unit) => ((if (V 142 i_262) < 0 then .inl () else (if (((va_259 i1 (V 142 i_262) V) >>> ((nI i_262) &&& 31)) &&& (1 : Int32)) = 0 then .inr (0 : Int32) else .inl ())) : Unit ⊕ Int32)) (fun i_262 a_262 => ab_J G (ac_ST L xs) l (d + 2) 262 2 [some (.ref 105), some (.int i1), some (.int (nI i_262))] [] ac_SK V ac_SK K) (fun b => aa_bit b → K (some (.int b)) V) n a0 ?_ ?_ ?_
  · intro a_262 hfo
    rw [hfo] at h
    refine iv_262_2 ⟨fun q => absurd q (zz_ge hn), fun _ => ?_⟩
    exact h (Or.inr rfl)
  · intro i_262 a_262 hi hfe hnx hex
    have e : (nI i_262).toNatClampNeg = i_262 := zz_ix (by omega)
    rw [nI_succ] at hnx
    refine iv_262_2 ⟨fun _ => ?_, fun q => absurd (zz_gl hn hi (by omega)) q⟩
    try simp only [e, ac_zs0, ac_zs1]
    refine ⟨vp_in_nI (by omega) (by decide), ?_⟩
    refine ⟨fun c1 => ?_, fun c1 => ?_⟩
    · exact hnx _ ((if_pos c1).trans rfl)
    · refine ⟨vp_in_nI (by omega) (by decide), ?_⟩
      refine sp_259 hp1 hp2 ?_
      dsimp only [aa_rI, aa_rL]
      refine ⟨fun c3 => ?_, fun c3 => ?_⟩
      · exact hex _ ((if_neg c1).trans ((if_pos c3).trans rfl)) (Or.inl rfl)
      · exact hnx _ ((if_neg c1).trans ((if_neg c3).trans rfl))
  · intro b hb
    rw [hb] at h
    exact h

def va_262 (i1 : Int32) (V : aa_V) : Int32 := (vl_262_2 i1 V ())
set_option maxRecDepth 20000 in
/-- FrameCountyModel swears -/
theorem sp_262 {G : ab_G} {L : Nat} {xs : Nat → Int32} {l : Launch} {d : Nat} {i1 : Int32} {V : aa_V} {K : aa_K} (hw1 : zb (V 105 46) 12) (hw2 : zb (V 105 54) 40) (hw3 : ∀ i_259 : Nat, i_259 < ((V 105 54)).toNatClampNeg → vp_in (V 141 i_259) 40) (h : aa_bit (va_262 i1 V) → K (some (.int (va_262 i1 V))) V) :
    ab_E G (ac_ST L xs) l (d + 2) ac_SK 262 [.ref 105, .int i1] V K := by
  rw [va_262] at h
  refine iv_262_0 ?_
  exact lo_262_2 hw1 hw2 hw3 h

def va_266 (i1 : Int32) (i2 : Int32) (V : aa_V) : Int32 := (if i1 < (-99 : Int32) then (-2 : Int32) else (if (99 : Int32) < i1 then (-2 : Int32) else (if i2 < (-99 : Int32) then (-2 : Int32) else (if (99 : Int32) < i2 then (-2 : Int32) else (if (V 105 58) = (8 : Int32) then (-4 : Int32) else (((V 105 58) + (1 : Int32)) - (1 : Int32)))))))
def vn_266 (i1 : Int32) (i2 : Int32) (V : aa_V) : aa_V := (if i1 < (-99 : Int32) then V else (if (99 : Int32) < i1 then V else (if i2 < (-99 : Int32) then V else (if (99 : Int32) < i2 then V else (if (V 105 58) = (8 : Int32) then V else (aa_up (aa_up (aa_up V 143 (((V 105 58)).toNatClampNeg) i1) 144 (((V 105 58)).toNatClampNeg) i2) 105 58 ((V 105 58) + (1 : Int32))))))))
set_option maxRecDepth 20000 in
/-- FrameCountyModel clause -/
theorem sp_266 {G : ab_G} {L : Nat} {xs : Nat → Int32} {l : Launch} {d : Nat} {i1 : Int32} {i2 : Int32} {V : aa_V} {K : aa_K} (hw1 : ¬ (i1 < (-99 : Int32)) → ¬ ((99 : Int32) < i1) → ¬ (i2 < (-99 : Int32)) → ¬ ((99 : Int32) < i2) → ¬ ((V 105 58) = (8 : Int32)) → vp_in (V 105 58) 8) (h : K (some (.int (va_266 i1 i2 V))) (vn_266 i1 i2 V)) :
    ab_E G (ac_ST L xs) l (d + 2) ac_SK 266 [.ref 105, .int i1, .int i2] V K := by
  rw [va_266, vn_266] at h
  refine iv_266_0 ?_
  refine ⟨fun g1 => ?_, fun g1 => ?_⟩
  · simp only [if_pos g1] at h
    exact h
  · refine ⟨fun g2 => ?_, fun g2 => ?_⟩
    · simp only [if_neg g1, if_pos g2] at h
      exact h
    · refine ⟨fun g3 => ?_, fun g3 => ?_⟩
      · simp only [if_neg g1, if_neg g2, if_pos g3] at h
        exact h
      · refine ⟨fun g4 => ?_, fun g4 => ?_⟩
        · simp only [if_neg g1, if_neg g2, if_neg g3, if_pos g4] at h
          exact h
        · refine ⟨fun g5 => ?_, fun g5 => ?_⟩
          · simp only [if_neg g1, if_neg g2, if_neg g3, if_neg g4, if_pos g5] at h
            exact h
          · refine ⟨(hw1 g1 g2 g3 g4 g5), ?_⟩
            refine ⟨(hw1 g1 g2 g3 g4 g5), ?_⟩
            simp only [if_neg g1, if_neg g2, if_neg g3, if_neg g4, if_neg g5] at h
            exact h

def va_267 (i1 : Int32) (i2 : Int32) (V : aa_V) : Int32 := (if i1 < (0 : Int32) then (-2 : Int32) else (if ((V 105 58) - (1 : Int32)) < i1 then (-2 : Int32) else (if i2 < (0 : Int32) then (-2 : Int32) else (if ((V 105 58) - (1 : Int32)) < i2 then (-2 : Int32) else (if i1 = i2 then (-2 : Int32) else (if (((V 145 ((i1).toNatClampNeg)) >>> (i2 &&& 31)) &&& (1 : Int32)) = 0 then (1 : Int32) else (0 : Int32)))))))
def vn_267 (i1 : Int32) (i2 : Int32) (V : aa_V) : aa_V := (if i1 < (0 : Int32) then V else (if ((V 105 58) - (1 : Int32)) < i1 then V else (if i2 < (0 : Int32) then V else (if ((V 105 58) - (1 : Int32)) < i2 then V else (if i1 = i2 then V else (aa_up (aa_up V 145 ((i1).toNatClampNeg) ((V 145 ((i1).toNatClampNeg)) ||| ((1 : Int32) <<< (i2 &&& 31)))) 145 ((i2).toNatClampNeg) (((aa_up V 145 ((i1).toNatClampNeg) ((V 145 ((i1).toNatClampNeg)) ||| ((1 : Int32) <<< (i2 &&& 31)))) 145 ((i2).toNatClampNeg)) ||| ((1 : Int32) <<< (i1 &&& 31)))))))))
set_option maxRecDepth 20000 in
/-- FrameCountyModel against -/
theorem sp_267 {G : ab_G} {L : Nat} {xs : Nat → Int32} {l : Launch} {d : Nat} {i1 : Int32} {i2 : Int32} {V : aa_V} {K : aa_K} (hw1 : ¬ (i1 < (0 : Int32)) → ¬ (((V 105 58) - (1 : Int32)) < i1) → ¬ (i2 < (0 : Int32)) → ¬ (((V 105 58) - (1 : Int32)) < i2) → ¬ (i1 = i2) → vp_in i1 8) (hw2 : ¬ (i1 < (0 : Int32)) → ¬ (((V 105 58) - (1 : Int32)) < i1) → ¬ (i2 < (0 : Int32)) → ¬ (((V 105 58) - (1 : Int32)) < i2) → ¬ (i1 = i2) → ((((V 145 ((i1).toNatClampNeg)) >>> (i2 &&& 31)) &&& (1 : Int32)) = 0) → vp_in i2 8) (hw3 : ¬ (i1 < (0 : Int32)) → ¬ (((V 105 58) - (1 : Int32)) < i1) → ¬ (i2 < (0 : Int32)) → ¬ (((V 105 58) - (1 : Int32)) < i2) → ¬ (i1 = i2) → ¬ ((((V 145 ((i1).toNatClampNeg)) >>> (i2 &&& 31)) &&& (1 : Int32)) = 0) → vp_in i2 8) (h : K (some (.int (va_267 i1 i2 V))) (vn_267 i1 i2 V)) :
    ab_E G (ac_ST L xs) l (d + 2) ac_SK 267 [.ref 105, .int i1, .int i2] V K := by
  rw [va_267, vn_267] at h
  refine iv_267_0 ?_
  refine ⟨fun g1 => ?_, fun g1 => ?_⟩
  · simp only [if_pos g1] at h
    exact h
  · refine ⟨fun g2 => ?_, fun g2 => ?_⟩
    · simp only [if_neg g1, if_pos g2] at h
      exact h
    · refine ⟨fun g3 => ?_, fun g3 => ?_⟩
      · simp only [if_neg g1, if_neg g2, if_pos g3] at h
        exact h
      · refine ⟨fun g4 => ?_, fun g4 => ?_⟩
        · simp only [if_neg g1, if_neg g2, if_neg g3, if_pos g4] at h
          exact h
        · refine ⟨fun g5 => ?_, fun g5 => ?_⟩
          · simp only [if_neg g1, if_neg g2, if_neg g3, if_neg g4, if_pos g5] at h
            exact h
          · refine ⟨(hw1 g1 g2 g3 g4 g5), ?_⟩
            refine ⟨fun g6 => ?_, fun g6 => ?_⟩
            · refine ⟨(hw1 g1 g2 g3 g4 g5), ?_⟩
              refine ⟨(hw1 g1 g2 g3 g4 g5), ?_⟩
              refine ⟨(hw2 g1 g2 g3 g4 g5 g6), ?_⟩
              refine ⟨(hw2 g1 g2 g3 g4 g5 g6), ?_⟩
              simp only [if_neg g1, if_neg g2, if_neg g3, if_neg g4, if_neg g5, if_pos g6] at h
              exact h
            · refine ⟨(hw1 g1 g2 g3 g4 g5), ?_⟩
              refine ⟨(hw1 g1 g2 g3 g4 g5), ?_⟩
              refine ⟨(hw3 g1 g2 g3 g4 g5 g6), ?_⟩
              refine ⟨(hw3 g1 g2 g3 g4 g5 g6), ?_⟩
              simp only [if_neg g1, if_neg g2, if_neg g3, if_neg g4, if_neg g5, if_neg g6] at h
              exact h

