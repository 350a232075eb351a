/-! pure methods as functions, 4: printed by den.py -/

def va_167 (i1 : Int32) (i2 : Int32) (V : aa_V) : Int32 := (if i1 < (0 : Int32) then (-5 : Int32) else (if ((V 42 2) - (1 : Int32)) < i1 then (-5 : Int32) else (if i2 < (-1 : Int32) then (-5 : Int32) else (if (399 : Int32) < i2 then (-5 : Int32) else (V 58 ((i1).toNatClampNeg))))))
def vn_167 (i1 : Int32) (i2 : Int32) (V : aa_V) : aa_V := (if i1 < (0 : Int32) then V else (if ((V 42 2) - (1 : Int32)) < i1 then V else (if i2 < (-1 : Int32) then V else (if (399 : Int32) < i2 then V else (aa_up V 58 ((i1).toNatClampNeg) i2)))))
set_option maxRecDepth 20000 in
/-- FrameCounty taker -/
theorem sp_167 {G : ab_G} {L : Nat} {xs : Nat → Int32} {l : Launch} {d : Nat} {i1 : Int32} {i2 : Int32} {V : aa_V} {K : aa_K} (hw1 : ¬ (i1 < (0 : Int32)) → ¬ (((V 42 2) - (1 : Int32)) < i1) → ¬ (i2 < (-1 : Int32)) → ¬ ((399 : Int32) < i2) → vp_in i1 12) (h : K (some (.int (va_167 i1 i2 V))) (vn_167 i1 i2 V)) :
    ab_E G (ac_ST L xs) l (d + 3) ac_SK 167 [.ref 0, .int i1, .int i2] V K := by
  rw [va_167, vn_167] at h
  refine iv_167_0 ?_
  refine ⟨fun g1 => ?_, fun g1 => ?_⟩
  · simp only [if_pos g1] at h
    exact h
  · refine ⟨fun g2 => ?_, fun g2 => ?_⟩
    · simp only [if_neg g1, if_pos g2] at h
      exact h
    · refine ⟨fun g3 => ?_, fun g3 => ?_⟩
      · simp only [if_neg g1, if_neg g2, if_pos g3] at h
        exact h
      · refine ⟨fun g4 => ?_, fun g4 => ?_⟩
        · simp only [if_neg g1, if_neg g2, if_neg g3, if_pos g4] at h
          exact h
        · refine ⟨(hw1 g1 g2 g3 g4), ?_⟩
          refine ⟨(hw1 g1 g2 g3 g4), ?_⟩
          simp only [if_neg g1, if_neg g2, if_neg g3, if_neg g4] at h
          exact h

def va_168 (i1 : Int32) (i2 : Int32) (V : aa_V) : Int32 := (if i1 < 0 then (-2 : Int32) else (if i1 < ((1 : Int32) <<< ((V 42 2) &&& 31)) then (if i2 < (0 : Int32) then (-2 : Int32) else (if (399 : Int32) < i2 then (-2 : Int32) else (va_13 i1 i2 V))) else (-2 : Int32)))
set_option maxRecDepth 20000 in
/-- FrameCounty sworn -/
theorem sp_168 {G : ab_G} {L : Nat} {xs : Nat → Int32} {l : Launch} {d : Nat} {i1 : Int32} {i2 : Int32} {V : aa_V} {K : aa_K} (hw1 : zb (V 54 0) 40) (h : K (some (.int (va_168 i1 i2 V))) V) :
    ab_E G (ac_ST L xs) l (d + 3) ac_SK 168 [.ref 0, .int i1, .int i2] V K := by
  rw [va_168] at h
  refine iv_168_0 ?_
  refine ⟨fun g1 => ?_, fun g1 => ?_⟩
  · simp only [if_pos g1] at h
    exact h
  · refine ⟨fun g2 => ?_, fun g2 => ?_⟩
    · refine ⟨fun g3 => ?_, fun g3 => ?_⟩
      · simp only [if_neg g1, if_pos g2, if_pos g3] at h
        exact h
      · refine ⟨fun g4 => ?_, fun g4 => ?_⟩
        · simp only [if_neg g1, if_pos g2, if_neg g3, if_pos g4] at h
          exact h
        · refine sp_13 hw1 ?_
          dsimp only [aa_rI, aa_rL, aa_rV]
          simp only [if_neg g1, if_pos g2, if_neg g3, if_neg g4] at h
          exact h
    · simp only [if_neg g1, if_neg g2] at h
      exact h

def va_172 (i1 : Int32) (i2 : Int32) (V : aa_V) : Int32 := (if i1 < (0 : Int32) then (-2 : Int32) else (if ((V 60 0) - (1 : Int32)) < i1 then (-2 : Int32) else (if i2 < (0 : Int32) then (-2 : Int32) else (if ((V 60 0) - (1 : Int32)) < i2 then (-2 : Int32) else (if i1 = i2 then (-2 : Int32) else (if (((V 63 ((i1).toNatClampNeg)) >>> (i2 &&& 31)) &&& (1 : Int32)) = 0 then (1 : Int32) else (0 : Int32)))))))
def vn_172 (i1 : Int32) (i2 : Int32) (V : aa_V) : aa_V := (if i1 < (0 : Int32) then V else (if ((V 60 0) - (1 : Int32)) < i1 then V else (if i2 < (0 : Int32) then V else (if ((V 60 0) - (1 : Int32)) < i2 then V else (if i1 = i2 then V else (aa_up (aa_up V 63 ((i1).toNatClampNeg) ((V 63 ((i1).toNatClampNeg)) ||| ((1 : Int32) <<< (i2 &&& 31)))) 63 ((i2).toNatClampNeg) (((aa_up V 63 ((i1).toNatClampNeg) ((V 63 ((i1).toNatClampNeg)) ||| ((1 : Int32) <<< (i2 &&& 31)))) 63 ((i2).toNatClampNeg)) ||| ((1 : Int32) <<< (i1 &&& 31)))))))))
set_option maxRecDepth 20000 in
/-- FrameCounty against -/
theorem sp_172 {G : ab_G} {L : Nat} {xs : Nat → Int32} {l : Launch} {d : Nat} {i1 : Int32} {i2 : Int32} {V : aa_V} {K : aa_K} (hw1 : ¬ (i1 < (0 : Int32)) → ¬ (((V 60 0) - (1 : Int32)) < i1) → ¬ (i2 < (0 : Int32)) → ¬ (((V 60 0) - (1 : Int32)) < i2) → ¬ (i1 = i2) → vp_in i1 8) (hw2 : ¬ (i1 < (0 : Int32)) → ¬ (((V 60 0) - (1 : Int32)) < i1) → ¬ (i2 < (0 : Int32)) → ¬ (((V 60 0) - (1 : Int32)) < i2) → ¬ (i1 = i2) → ((((V 63 ((i1).toNatClampNeg)) >>> (i2 &&& 31)) &&& (1 : Int32)) = 0) → vp_in i2 8) (hw3 : ¬ (i1 < (0 : Int32)) → ¬ (((V 60 0) - (1 : Int32)) < i1) → ¬ (i2 < (0 : Int32)) → ¬ (((V 60 0) - (1 : Int32)) < i2) → ¬ (i1 = i2) → ¬ ((((V 63 ((i1).toNatClampNeg)) >>> (i2 &&& 31)) &&& (1 : Int32)) = 0) → vp_in i2 8) (h : K (some (.int (va_172 i1 i2 V))) (vn_172 i1 i2 V)) :
    ab_E G (ac_ST L xs) l (d + 3) ac_SK 172 [.ref 0, .int i1, .int i2] V K := by
  rw [va_172, vn_172] at h
  refine iv_172_0 ?_
  refine ⟨fun g1 => ?_, fun g1 => ?_⟩
  · simp only [if_pos g1] at h
    exact h
  · refine ⟨fun g2 => ?_, fun g2 => ?_⟩
    · simp only [if_neg g1, if_pos g2] at h
      exact h
    · refine ⟨fun g3 => ?_, fun g3 => ?_⟩
      · simp only [if_neg g1, if_neg g2, if_pos g3] at h
        exact h
      · refine ⟨fun g4 => ?_, fun g4 => ?_⟩
        · simp only [if_neg g1, if_neg g2, if_neg g3, if_pos g4] at h
          exact h
        · refine ⟨fun g5 => ?_, fun g5 => ?_⟩
          · simp only [if_neg g1, if_neg g2, if_neg g3, if_neg g4, if_pos g5] at h
            exact h
          · refine ⟨(hw1 g1 g2 g3 g4 g5), ?_⟩
            refine ⟨fun g6 => ?_, fun g6 => ?_⟩
            · refine ⟨(hw1 g1 g2 g3 g4 g5), ?_⟩
              refine ⟨(hw1 g1 g2 g3 g4 g5), ?_⟩
              refine ⟨(hw2 g1 g2 g3 g4 g5 g6), ?_⟩
              refine ⟨(hw2 g1 g2 g3 g4 g5 g6), ?_⟩
              simp only [if_neg g1, if_neg g2, if_neg g3, if_neg g4, if_neg g5, if_pos g6] at h
              exact h
            · refine ⟨(hw1 g1 g2 g3 g4 g5), ?_⟩
              refine ⟨(hw1 g1 g2 g3 g4 g5), ?_⟩
              refine ⟨(hw3 g1 g2 g3 g4 g5 g6), ?_⟩
              refine ⟨(hw3 g1 g2 g3 g4 g5 g6), ?_⟩
              simp only [if_neg g1, if_neg g2, if_neg g3, if_neg g4, if_neg g5, if_neg g6] at h
              exact h

def va_178 (i1 : Int32) (i2 : Int32) (i3 : Int32) (V : aa_V) : Int32 := (if i1 < (0 : Int32) then (-2 : Int32) else (if (3 : Int32) < i1 then (-2 : Int32) else (if (V 73 ((i1).toNatClampNeg)) = (-1 : Int32) then (-11 : Int32) else (if i2 < (0 : Int32) then (-12 : Int32) else (if ((V 74 ((i1).toNatClampNeg)) - (1 : Int32)) < i2 then (-12 : Int32) else (1 : Int32))))))
def vn_178 (i1 : Int32) (i2 : Int32) (i3 : Int32) (V : aa_V) : aa_V := (if i1 < (0 : Int32) then V else (if (3 : Int32) < i1 then V else (if (V 73 ((i1).toNatClampNeg)) = (-1 : Int32) then V else (if i2 < (0 : Int32) then V else (if ((V 74 ((i1).toNatClampNeg)) - (1 : Int32)) < i2 then V else (vn_64 i1 i2 i3 V))))))
set_option maxRecDepth 20000 in
/-- FrameCounty cell -/
theorem sp_178 {G : ab_G} {L : Nat} {xs : Nat → Int32} {l : Launch} {d : Nat} {i1 : Int32} {i2 : Int32} {i3 : Int32} {V : aa_V} {K : aa_K} (hw1 : ¬ (i1 < (0 : Int32)) → ¬ ((3 : Int32) < i1) → vp_in i1 4) (hw2 : ¬ (i1 < (0 : Int32)) → ¬ ((3 : Int32) < i1) → ¬ ((V 73 ((i1).toNatClampNeg)) = (-1 : Int32)) → ¬ (i2 < (0 : Int32)) → ¬ (((V 74 ((i1).toNatClampNeg)) - (1 : Int32)) < i2) → ((V 73 ((i1).toNatClampNeg)) = 0) → vp_in i2 40) (hw3 : ¬ (i1 < (0 : Int32)) → ¬ ((3 : Int32) < i1) → ¬ ((V 73 ((i1).toNatClampNeg)) = (-1 : Int32)) → ¬ (i2 < (0 : Int32)) → ¬ (((V 74 ((i1).toNatClampNeg)) - (1 : Int32)) < i2) → ¬ ((V 73 ((i1).toNatClampNeg)) = 0) → ((V 73 ((i1).toNatClampNeg)) = (1 : Int32)) → vp_in i2 40) (hw4 : ¬ (i1 < (0 : Int32)) → ¬ ((3 : Int32) < i1) → ¬ ((V 73 ((i1).toNatClampNeg)) = (-1 : Int32)) → ¬ (i2 < (0 : Int32)) → ¬ (((V 74 ((i1).toNatClampNeg)) - (1 : Int32)) < i2) → ¬ ((V 73 ((i1).toNatClampNeg)) = 0) → ¬ ((V 73 ((i1).toNatClampNeg)) = (1 : Int32)) → vp_in i2 40) (h : K (some (.int (va_178 i1 i2 i3 V))) (vn_178 i1 i2 i3 V)) :
    ab_E G (ac_ST L xs) l (d + 3) ac_SK 178 [.ref 0, .int i1, .int i2, .int i3] V K := by
  rw [va_178, vn_178] at h
  refine iv_178_0 ?_
  refine ⟨fun g1 => ?_, fun g1 => ?_⟩
  · simp only [if_pos g1] at h
    exact h
  · refine ⟨fun g2 => ?_, fun g2 => ?_⟩
    · simp only [if_neg g1, if_pos g2] at h
      exact h
    · refine ⟨(hw1 g1 g2), ?_⟩
      refine ⟨fun g3 => ?_, fun g3 => ?_⟩
      · simp only [if_neg g1, if_neg g2, if_pos g3] at h
        exact h
      · refine ⟨(hw1 g1 g2), ?_⟩
        refine ⟨fun g4 => ?_, fun g4 => ?_⟩
        · simp only [if_neg g1, if_neg g2, if_neg g3, if_pos g4] at h
          exact h
        · refine ⟨fun g5 => ?_, fun g5 => ?_⟩
          · simp only [if_neg g1, if_neg g2, if_neg g3, if_neg g4, if_pos g5] at h
            exact h
          · refine sp_64 (hw1 g1 g2) (hw2 g1 g2 g3 g4 g5) (hw3 g1 g2 g3 g4 g5) (hw4 g1 g2 g3 g4 g5) ?_
            dsimp only [aa_rI, aa_rL, aa_rV]
            simp only [if_neg g1, if_neg g2, if_neg g3, if_neg g4, if_neg g5] at h
            exact h

def va_181 (i1 : Int32) (i2 : Int32) (V : aa_V) : Int32 := (if i2 < (0 : Int32) then (-2 : Int32) else (if (5 : Int32) < i2 then (-2 : Int32) else (if i1 < (0 : Int32) then (-11 : Int32) else (if ((V 29 3) - (1 : Int32)) < i1 then (-11 : Int32) else (if (va_124 i1 i2 V) = 0 then (-13 : Int32) else (V 34 ((i1).toNatClampNeg)))))))
set_option maxRecDepth 20000 in
/-- FrameCounty taken -/
theorem sp_181 {G : ab_G} {L : Nat} {xs : Nat → Int32} {l : Launch} {d : Nat} {i1 : Int32} {i2 : Int32} {V : aa_V} {K : aa_K} (hw1 : ¬ (i2 < (0 : Int32)) → ¬ ((5 : Int32) < i2) → ¬ (i1 < (0 : Int32)) → ¬ (((V 29 3) - (1 : Int32)) < i1) → vp_in i1 20) (hw2 : ∀ (i_124 : Nat) {a_124 : Int32}, i_124 < 6 → fe (fun (i_124 : Nat) (a_124 : Int32) => ((if a_124 = (-1 : Int32) then .inr (0 : Int32) else (if a_124 = i2 then .inr (1 : Int32) else .inl (ac_zr0 (a_124).toNatClampNeg))) : Int32 ⊕ Int32)) i_124 (V 32 ((i1).toNatClampNeg)) = .inl a_124 → ¬ (a_124 = (-1 : Int32)) → ¬ (a_124 = i2) → vp_in a_124 (ac_ST L xs 0).2.1) (h : K (some (.int (va_181 i1 i2 V))) V) :
    ab_E G (ac_ST L xs) l (d + 3) ac_SK 181 [.ref 0, .int i1, .int i2] V K := by
  rw [va_181] at h
  refine iv_181_0 ?_
  refine ⟨fun g1 => ?_, fun g1 => ?_⟩
  · simp only [if_pos g1] at h
    exact h
  · refine ⟨fun g2 => ?_, fun g2 => ?_⟩
    · simp only [if_neg g1, if_pos g2] at h
      exact h
    · refine ⟨fun g3 => ?_, fun g3 => ?_⟩
      · simp only [if_neg g1, if_neg g2, if_pos g3] at h
        exact h
      · refine ⟨fun g4 => ?_, fun g4 => ?_⟩
        · simp only [if_neg g1, if_neg g2, if_neg g3, if_pos g4] at h
          exact h
        · refine sp_124 (hw1 g1 g2 g3 g4) hw2 (fun hb5 => ?_)
          dsimp only [aa_rI, aa_rL, aa_rV]
          refine ⟨fun g6 => ?_, fun g6 => ?_⟩
          · simp only [if_neg g1, if_neg g2, if_neg g3, if_neg g4, if_pos g6] at h
            exact h
          · refine ⟨(hw1 g1 g2 g3 g4), ?_⟩
            simp only [if_neg g1, if_neg g2, if_neg g3, if_neg g4, if_neg g6] at h
            exact h

def va_207 (i1 : Int32) (i2 : Int32) (V : aa_V) : Int64 := (if i1 < 0 then (-4611686018427387904 : Int64) else (if i1 < (V 105 12) then (if i2 = 0 then ((V 110 ((i1).toNatClampNeg)).toInt64) else (if i2 = 1 then ((V 111 ((i1).toNatClampNeg)).toInt64) else (if i2 = 2 then ((V 112 ((i1).toNatClampNeg)).toInt64) else (if i2 = 3 then ((V 113 ((i1).toNatClampNeg)).toInt64) else (if i2 = 4 then ((V 114 ((i1).toNatClampNeg)).toInt64) else (if i2 = 5 then ((va_204 i1 V).toInt64) else (if i2 = 6 then ((va_205 i1 V).toInt64) else (if i2 = 7 then (if (V 114 ((i1).toNatClampNeg)) = 0 then ((((va_204 i1 V) * (V 109 (((V 111 ((i1).toNatClampNeg))).toNatClampNeg))) - (va_205 i1 V)).toInt64) else (((0 : Int32) - (va_205 i1 V)).toInt64)) else (-4611686018427387904 : Int64))))))))) else (-4611686018427387904 : Int64)))
set_option maxRecDepth 20000 in
/-- FrameCountyModel frameTold -/
theorem sp_207 {G : ab_G} {L : Nat} {xs : Nat → Int32} {l : Launch} {d : Nat} {i1 : Int32} {i2 : Int32} {V : aa_V} {K : aa_K} (hw1 : ¬ (i1 < 0) → (i1 < (V 105 12)) → (i2 = 0) → vp_in i1 20) (hw2 : ¬ (i1 < 0) → (i1 < (V 105 12)) → ¬ (i2 = 0) → (i2 = 1) → vp_in i1 20) (hw3 : ¬ (i1 < 0) → (i1 < (V 105 12)) → ¬ (i2 = 0) → ¬ (i2 = 1) → (i2 = 2) → vp_in i1 20) (hw4 : ¬ (i1 < 0) → (i1 < (V 105 12)) → ¬ (i2 = 0) → ¬ (i2 = 1) → ¬ (i2 = 2) → (i2 = 3) → vp_in i1 20) (hw5 : ¬ (i1 < 0) → (i1 < (V 105 12)) → ¬ (i2 = 0) → ¬ (i2 = 1) → ¬ (i2 = 2) → ¬ (i2 = 3) → (i2 = 4) → vp_in i1 20) (hw6 : ¬ (i1 < 0) → (i1 < (V 105 12)) → ¬ (i2 = 0) → ¬ (i2 = 1) → ¬ (i2 = 2) → ¬ (i2 = 3) → ¬ (i2 = 4) → (i2 = 5) → vp_in i1 20) (hw7 : ¬ (i1 < 0) → (i1 < (V 105 12)) → ¬ (i2 = 0) → ¬ (i2 = 1) → ¬ (i2 = 2) → ¬ (i2 = 3) → ¬ (i2 = 4) → ¬ (i2 = 5) → (i2 = 6) → vp_in i1 20) (hw8 : ¬ (i1 < 0) → (i1 < (V 105 12)) → ¬ (i2 = 0) → ¬ (i2 = 1) → ¬ (i2 = 2) → ¬ (i2 = 3) → ¬ (i2 = 4) → ¬ (i2 = 5) → ¬ (i2 = 6) → (i2 = 7) → vp_in i1 20) (hw9 : ¬ (i1 < 0) → (i1 < (V 105 12)) → ¬ (i2 = 0) → ¬ (i2 = 1) → ¬ (i2 = 2) → ¬ (i2 = 3) → ¬ (i2 = 4) → ¬ (i2 = 5) → ¬ (i2 = 6) → (i2 = 7) → ((V 114 ((i1).toNatClampNeg)) = 0) → vp_in (V 111 ((i1).toNatClampNeg)) 8) (h : K (some (.long (va_207 i1 i2 V))) V) :
    ab_E G (ac_ST L xs) l (d + 3) ac_SK 207 [.ref 105, .int i1, .int i2] V K := by
  rw [va_207] at h
  refine iv_207_0 ?_
  refine ⟨fun g1 => ?_, fun g1 => ?_⟩
  · simp only [if_pos g1] at h
    exact h
  · refine ⟨fun g2 => ?_, fun g2 => ?_⟩
    · refine ⟨fun g3 => ?_, fun g3 => ?_⟩
      · refine ⟨(hw1 g1 g2 g3), ?_⟩
        simp only [if_neg g1, if_pos g2, if_pos g3] at h
        exact h
      · refine ⟨fun g4 => ?_, fun g4 => ?_⟩
        · refine ⟨(hw2 g1 g2 g3 g4), ?_⟩
          simp only [if_neg g1, if_pos g2, if_neg g3, if_pos g4] at h
          exact h
        · refine ⟨fun g5 => ?_, fun g5 => ?_⟩
          · refine ⟨(hw3 g1 g2 g3 g4 g5), ?_⟩
            simp only [if_neg g1, if_pos g2, if_neg g3, if_neg g4, if_pos g5] at h
            exact h
          · refine ⟨fun g6 => ?_, fun g6 => ?_⟩
            · refine ⟨(hw4 g1 g2 g3 g4 g5 g6), ?_⟩
              simp only [if_neg g1, if_pos g2, if_neg g3, if_neg g4, if_neg g5, if_pos g6] at h
              exact h
            · refine ⟨fun g7 => ?_, fun g7 => ?_⟩
              · refine ⟨(hw5 g1 g2 g3 g4 g5 g6 g7), ?_⟩
                simp only [if_neg g1, if_pos g2, if_neg g3, if_neg g4, if_neg g5, if_neg g6, if_pos g7] at h
                exact h
              · refine ⟨fun g8 => ?_, fun g8 => ?_⟩
                · refine sp_204 (hw6 g1 g2 g3 g4 g5 g6 g7 g8) ?_
                  dsimp only [aa_rI, aa_rL, aa_rV]
                  simp only [if_neg g1, if_pos g2, if_neg g3, if_neg g4, if_neg g5, if_neg g6, if_neg g7, if_pos g8] at h
                  exact h
                · refine ⟨fun g10 => ?_, fun g10 => ?_⟩
                  · refine sp_205 (hw7 g1 g2 g3 g4 g5 g6 g7 g8 g10) ?_
                    dsimp only [aa_rI, aa_rL, aa_rV]
                    simp only [if_neg g1, if_pos g2, if_neg g3, if_neg g4, if_neg g5, if_neg g6, if_neg g7, if_neg g8, if_pos g10] at h
                    exact h
                  · refine ⟨fun g12 => ?_, fun g12 => ?_⟩
                    · refine ⟨(hw8 g1 g2 g3 g4 g5 g6 g7 g8 g10 g12), ?_⟩
                      refine ⟨fun g13 => ?_, fun g13 => ?_⟩
                      · refine sp_204 (hw8 g1 g2 g3 g4 g5 g6 g7 g8 g10 g12) ?_
                        dsimp only [aa_rI, aa_rL, aa_rV]
                        refine ⟨(hw8 g1 g2 g3 g4 g5 g6 g7 g8 g10 g12), ?_⟩
                        refine ⟨(hw9 g1 g2 g3 g4 g5 g6 g7 g8 g10 g12 g13), ?_⟩
                        refine sp_205 (hw8 g1 g2 g3 g4 g5 g6 g7 g8 g10 g12) ?_
                        dsimp only [aa_rI, aa_rL, aa_rV]
                        simp only [if_neg g1, if_pos g2, if_neg g3, if_neg g4, if_neg g5, if_neg g6, if_neg g7, if_neg g8, if_neg g10, if_pos g12, if_pos g13] at h
                        exact h
                      · refine sp_205 (hw8 g1 g2 g3 g4 g5 g6 g7 g8 g10 g12) ?_
                        dsimp only [aa_rI, aa_rL, aa_rV]
                        simp only [if_neg g1, if_pos g2, if_neg g3, if_neg g4, if_neg g5, if_neg g6, if_neg g7, if_neg g8, if_neg g10, if_pos g12, if_neg g13] at h
                        exact h
                    · simp only [if_neg g1, if_pos g2, if_neg g3, if_neg g4, if_neg g5, if_neg g6, if_neg g7, if_neg g8, if_neg g10, if_neg g12] at h
                      exact h
    · simp only [if_neg g1, if_neg g2] at h
      exact h

def vl_210_17 (i1 : Int32) (V : aa_V) (a0 : Int64) : Int64 := ((fun (a_210 : Int64) => a_210) (fo (fun (i_210 : Nat) (a_210 : Int64) => ((if (V 111 i_210) = i1 then (if (V 114 i_210) = 0 then (a_210 + ((((va_204 (nI i_210) V) * (V 109 (((V 111 i_210)).toNatClampNeg))) - (va_205 (nI i_210) V)).toInt64)) else (a_210 + (((0 : Int32) - (va_205 (nI i_210) V)).toInt64))) else (a_210 + (0 : Int64))) : Int64)) ((V 105 12)).toNatClampNeg a0))
set_option maxRecDepth 20000 in
/-- FrameCountyModel earns, the loop at 17 -/
theorem lo_210_17 {G : ab_G} {L : Nat} {xs : Nat → Int32} {l : Launch} {d : Nat} {i1 : Int32} {V : aa_V} {K : aa_K} {a0 : Int64} (hz : zb (V 105 12) 20) (hv1 : ∀ i_210 : Nat, i_210 < ((V 105 12)).toNatClampNeg → vp_in (V 111 i_210) 8) (h : K (some (.long (vl_210_17 i1 V a0))) V) :
    ab_J G (ac_ST L xs) l (d + 3) 210 17 [some (.ref 105), some (.int i1), some (.long a0), none, some (.int (0 : Int32))] [] ac_SK V ac_SK K := by
  obtain ⟨n, hn, hm⟩ : ∃ n : Nat, (V 105 12) = nI n ∧ n ≤ 20 := ⟨_, hz.1, hz.2⟩
  have hN : ((V 105 12)).toNatClampNeg = n := by rw [hn]; exact zz_ix (by omega)
  rw [vl_210_17] at h
  rw [hN] at h
  try simp only [hN] at hv1
  refine zz_fo (fun (i_210 : Nat) (a_210 : Int64) => ((if (V 111 i_210) = i1 then (if (V 114 i_210) = 0 then (a_210 + ((((va_204 (nI i_210) V) * (V 109 (((V 111 i_210)).toNatClampNeg))) - (va_205 (nI i_210) V)).toInt64)) else (a_210 + (((0 : Int32) - (va_205 (nI i_210) V)).toInt64))) else (a_210 + (0 : Int64))) : Int64)) (fun i_210 a_210 => ab_J G (ac_ST L xs) l (d + 3) 210 17 [some (.ref 105), some (.int i1), some (.long a_210), none, some (.int (nI i_210))] [] ac_SK V ac_SK K) n a0 ?_ ?_
  · refine iv_210_17 ⟨fun q => absurd q (zz_ge hn), fun _ => ?_⟩
    try dsimp only at h
    generalize hfo : fo (fun (i_210 : Nat) (a_210 : Int64) => ((if (V 111 i_210) = i1 then (if (V 114 i_210) = 0 then (a_210 + ((((va_204 (nI i_210) V) * (V 109 (((V 111 i_210)).toNatClampNeg))) - (va_205 (nI i_210) V)).toInt64)) else (a_210 + (((0 : Int32) - (va_205 (nI i_210) V)).toInt64))) else (a_210 + (0 : Int64))) : Int64)) n a0 = a_210 at h ⊢
    exact h
  · intro i_210 hi ih
    have e : (nI i_210).toNatClampNeg = i_210 := zz_ix (by omega)
    rw [fo_s, nI_succ] at ih
    refine iv_210_17 ⟨fun _ => ?_, fun q => absurd (zz_gl hn hi (by omega)) q⟩
    try simp only [e, ac_zs0, ac_zs1]
    refine ⟨vp_in_nI (by omega) (by decide), ?_⟩
    refine ⟨fun c1 => ?_, fun c1 => ?_⟩
    · refine ⟨vp_in_nI (by omega) (by decide), ?_⟩
      refine ⟨fun c2 => ?_, fun c2 => ?_⟩
      · refine sp_204 (vp_in_nI (by omega) (by decide)) ?_
        dsimp only [aa_rI, aa_rL]
        refine ⟨vp_in_nI (by omega) (by decide), ?_⟩
        refine ⟨(hv1 i_210 hi), ?_⟩
        refine sp_205 (vp_in_nI (by omega) (by decide)) ?_
        dsimp only [aa_rI, aa_rL]
        rw [if_pos c1, if_pos c2] at ih
        exact ih
      · refine sp_205 (vp_in_nI (by omega) (by decide)) ?_
        dsimp only [aa_rI, aa_rL]
        rw [if_pos c1, if_neg c2] at ih
        exact ih
    · rw [if_neg c1] at ih
      exact ih

def va_210 (i1 : Int32) (V : aa_V) : Int64 := (if i1 < 0 then (-4611686018427387904 : Int64) else (if i1 < (V 105 11) then (vl_210_17 i1 V (0 : Int64)) else (-4611686018427387904 : Int64)))
set_option maxRecDepth 20000 in
/-- FrameCountyModel earns -/
theorem sp_210 {G : ab_G} {L : Nat} {xs : Nat → Int32} {l : Launch} {d : Nat} {i1 : Int32} {V : aa_V} {K : aa_K} (hw1 : zb (V 105 12) 20) (hw2 : ∀ i_210 : Nat, i_210 < ((V 105 12)).toNatClampNeg → vp_in (V 111 i_210) 8) (h : K (some (.long (va_210 i1 V))) V) :
    ab_E G (ac_ST L xs) l (d + 3) ac_SK 210 [.ref 105, .int i1] V K := by
  rw [va_210] at h
  refine iv_210_0 ?_
  refine ⟨fun g1 => ?_, fun g1 => ?_⟩
  · simp only [if_pos g1] at h
    exact h
  · refine ⟨fun g2 => ?_, fun g2 => ?_⟩
    · simp only [if_neg g1, if_pos g2] at h
      exact lo_210_17 hw1 hw2 h
    · simp only [if_neg g1, if_neg g2] at h
      exact h

def vl_233_4  (V : aa_V) (a0 : Int32) : Int32 := ((fun (a_233 : Int32) => a_233) (fo (fun (i_233 : Nat) (a_233 : Int32) => ((if (V 114 i_233) = 0 then (if (va_231 (V 111 i_233) V) = 0 then (a_233 ||| (0 : Int32)) else (a_233 ||| ((1 : Int32) <<< ((nI i_233) &&& 31)))) else (a_233 ||| (0 : Int32))) : Int32)) ((V 105 12)).toNatClampNeg a0))
set_option maxRecDepth 20000 in
/-- FrameCountyModel spared, the loop at 4 -/
theorem lo_233_4 {G : ab_G} {L : Nat} {xs : Nat → Int32} {l : Launch} {d : Nat} {V : aa_V} {K : aa_K} {a0 : Int32} (hz : zb (V 105 12) 20) (hv1 : ∀ i_233 : Nat, i_233 < ((V 105 12)).toNatClampNeg → ∀ a_231 : Int32, fo (fun (i_231 : Nat) (a_231 : Int32) => ((if a_231 = 0 then (if (V 111 i_231) = (V 111 i_233) then (if (V 114 i_231) = (1 : Int32) then (if (V 115 i_231) = (V 105 2) then (1 : Int32) else (0 : Int32)) else (0 : Int32)) else (0 : Int32)) else (1 : Int32)) : Int32)) ((V 105 12)).toNatClampNeg (0 : Int32) = a_231 → aa_bit a_231) (h : K (some (.int (vl_233_4  V a0))) V) :
    ab_J G (ac_ST L xs) l (d + 3) 233 4 [some (.ref 105), some (.int a0), some (.int (0 : Int32))] [] ac_SK V ac_SK K := by
  obtain ⟨n, hn, hm⟩ : ∃ n : Nat, (V 105 12) = nI n ∧ n ≤ 20 := ⟨_, hz.1, hz.2⟩
  have hN : ((V 105 12)).toNatClampNeg = n := by rw [hn]; exact zz_ix (by omega)
  rw [vl_233_4] at h
  rw [hN] at h
  try simp only [hN] at hv1
  refine zz_fo (fun (i_233 : Nat) (a_233 : Int32) => ((if (V 114 i_233) = 0 then (if (va_231 (V 111 i_233) V) = 0 then (a_233 ||| (0 : Int32)) else (a_233 ||| ((1 : Int32) <<< ((nI i_233) &&& 31)))) else (a_233 ||| (0 : Int32))) : Int32)) (fun i_233 a_233 => ab_J G (ac_ST L xs) l (d + 3) 233 4 [some (.ref 105), some (.int a_233), some (.int (nI i_233))] [] ac_SK V ac_SK K) n a0 ?_ ?_
  · refine iv_233_4 ⟨fun q => absurd q (zz_ge hn), fun _ => ?_⟩
    try dsimp only at h
    generalize hfo : fo (fun (i_233 : Nat) (a_233 : Int32) => ((if (V 114 i_233) = 0 then (if (va_231 (V 111 i_233) V) = 0 then (a_233 ||| (0 : Int32)) else (a_233 ||| ((1 : Int32) <<< ((nI i_233) &&& 31)))) else (a_233 ||| (0 : Int32))) : Int32)) n a0 = a_233 at h ⊢
    exact h
  · intro i_233 hi ih
    have e : (nI i_233).toNatClampNeg = i_233 := zz_ix (by omega)
    rw [fo_s, nI_succ] at ih
    refine iv_233_4 ⟨fun _ => ?_, fun q => absurd (zz_gl hn hi (by omega)) q⟩
    try simp only [e, ac_zs0, ac_zs1]
    refine ⟨vp_in_nI (by omega) (by decide), ?_⟩
    refine ⟨fun c1 => ?_, fun c1 => ?_⟩
    · refine ⟨vp_in_nI (by omega) (by decide), ?_⟩
      refine sp_231 hz (by first | exact (hv1 i_233 hi) | (simp only [e]; exact (hv1 i_233 hi)) | (simp only [hN]; exact (hv1 i_233 hi))) (fun hb2 => ?_)
      dsimp only [aa_rI, aa_rL]
      refine ⟨fun c3 => ?_, fun c3 => ?_⟩
      · rw [if_pos c1, if_pos c3] at ih
        exact ih
      · rw [if_pos c1, if_neg c3] at ih
        exact ih
    · rw [if_neg c1] at ih
      exact ih

def va_233  (V : aa_V) : Int32 := (vl_233_4  V (0 : Int32))
set_option maxRecDepth 20000 in
/-- FrameCountyModel spared -/
theorem sp_233 {G : ab_G} {L : Nat} {xs : Nat → Int32} {l : Launch} {d : Nat} {V : aa_V} {K : aa_K} (hw1 : zb (V 105 12) 20) (hw2 : ∀ i_233 : Nat, i_233 < ((V 105 12)).toNatClampNeg → ∀ a_231 : Int32, fo (fun (i_231 : Nat) (a_231 : Int32) => ((if a_231 = 0 then (if (V 111 i_231) = (V 111 i_233) then (if (V 114 i_231) = (1 : Int32) then (if (V 115 i_231) = (V 105 2) then (1 : Int32) else (0 : Int32)) else (0 : Int32)) else (0 : Int32)) else (1 : Int32)) : Int32)) ((V 105 12)).toNatClampNeg (0 : Int32) = a_231 → aa_bit a_231) (h : K (some (.int (va_233  V))) V) :
    ab_E G (ac_ST L xs) l (d + 3) ac_SK 233 [.ref 105] V K := by
  rw [va_233] at h
  refine iv_233_0 ?_
  exact lo_233_4 hw1 hw2 h

def va_260 (i1 : Int32) (i2 : Int32) (V : aa_V) : Int32 := (if i1 < (0 : Int32) then (-2 : Int32) else (if (((1 : Int32) <<< ((V 105 46) &&& 31)) - (1 : Int32)) < i1 then (-2 : Int32) else (if i2 < (0 : Int32) then (-2 : Int32) else (if (399 : Int32) < i2 then (-2 : Int32) else (va_259 i1 i2 V)))))
set_option maxRecDepth 20000 in
/-- FrameCountyModel sworn -/
theorem sp_260 {G : ab_G} {L : Nat} {xs : Nat → Int32} {l : Launch} {d : Nat} {i1 : Int32} {i2 : Int32} {V : aa_V} {K : aa_K} (hw1 : zb (V 105 54) 40) (hw2 : ∀ i_259 : Nat, i_259 < ((V 105 54)).toNatClampNeg → vp_in (V 141 i_259) 40) (h : K (some (.int (va_260 i1 i2 V))) V) :
    ab_E G (ac_ST L xs) l (d + 3) ac_SK 260 [.ref 105, .int i1, .int i2] V K := by
  rw [va_260] at h
  refine iv_260_0 ?_
  refine ⟨fun g1 => ?_, fun g1 => ?_⟩
  · simp only [if_pos g1] at h
    exact h
  · refine ⟨fun g2 => ?_, fun g2 => ?_⟩
    · simp only [if_neg g1, if_pos g2] at h
      exact h
    · refine ⟨fun g3 => ?_, fun g3 => ?_⟩
      · simp only [if_neg g1, if_neg g2, if_pos g3] at h
        exact h
      · refine ⟨fun g4 => ?_, fun g4 => ?_⟩
        · simp only [if_neg g1, if_neg g2, if_neg g3, if_pos g4] at h
          exact h
        · refine sp_259 hw1 hw2 ?_
          dsimp only [aa_rI, aa_rL, aa_rV]
          simp only [if_neg g1, if_neg g2, if_neg g3, if_neg g4] at h
          exact h

def vl_263_4  (V : aa_V) (a0 : Int32) : Int32 := ((fun (a_263 : Int32) => a_263) (fo (fun (i_263 : Nat) (a_263 : Int32) => ((if a_263 < 0 then (if (va_262 (nI i_263) V) = 0 then a_263 else (nI i_263)) else (if (va_261 (nI i_263) V) < (va_261 a_263 V) then (if (va_262 (nI i_263) V) = 0 then a_263 else (nI i_263)) else a_263)) : Int32)) (((1 : Int32) <<< ((V 105 46) &&& 31))).toNatClampNeg a0))
set_option maxRecDepth 20000 in
/-- FrameCountyModel began, the loop at 4 -/
theorem lo_263_4 {G : ab_G} {L : Nat} {xs : Nat → Int32} {l : Launch} {d : Nat} {V : aa_V} {K : aa_K} {a0 : Int32} (hz : zb ((1 : Int32) <<< ((V 105 46) &&& 31)) 1000000000) (hp1 : zb (V 105 46) 12) (hp2 : zb (V 105 54) 40) (hp3 : ∀ i_259 : Nat, i_259 < ((V 105 54)).toNatClampNeg → vp_in (V 141 i_259) 40) (h : K (some (.int (vl_263_4  V a0))) V) :
    ab_J G (ac_ST L xs) l (d + 3) 263 4 [some (.ref 105), some (.int a0), some (.int (0 : Int32))] [] ac_SK V ac_SK K := by
  obtain ⟨n, hn, hm⟩ : ∃ n : Nat, ((1 : Int32) <<< ((V 105 46) &&& 31)) = nI n ∧ n ≤ 1000000000 := ⟨_, hz.1, hz.2⟩
  have hN : (((1 : Int32) <<< ((V 105 46) &&& 31))).toNatClampNeg = n := by rw [hn]; exact zz_ix (by omega)
  rw [vl_263_4] at h
  rw [hN] at h
  refine zz_fo (fun (i_263 : Nat) (a_263 : Int32) => ((if a_263 < 0 then (if (va_262 (nI i_263) V) = 0 then a_263 else (nI i_263)) else (if (va_261 (nI i_263) V) < (va_261 a_263 V) then (if (va_262 (nI i_263) V) = 0 then a_263 else (nI i_263)) else a_263)) : Int32)) (fun i_263 a_263 => ab_J G (ac_ST L xs) l (d + 3) 263 4 [some (.ref 105), some (.int a_263), some (.int (nI i_263))] [] ac_SK V ac_SK K) n a0 ?_ ?_
  · refine iv_263_4 ⟨fun q => absurd q (zz_ge hn), fun _ => ?_⟩
    try dsimp only at h
    generalize hfo : fo (fun (i_263 : Nat) (a_263 : Int32) => ((if a_263 < 0 then (if (va_262 (nI i_263) V) = 0 then a_263 else (nI i_263)) else (if (va_261 (nI i_263) V) < (va_261 a_263 V) then (if (va_262 (nI i_263) V) = 0 then a_263 else (nI i_263)) else a_263)) : Int32)) n a0 = a_263 at h ⊢
    exact h
  · intro i_263 hi ih
    have e : (nI i_263).toNatClampNeg = i_263 := zz_ix (by omega)
    rw [fo_s, nI_succ] at ih
    refine iv_263_4 ⟨fun _ => ?_, fun q => absurd (zz_gl hn hi (by omega)) q⟩
    try simp only [e, ac_zs0, ac_zs1]
    refine ⟨fun c1 => ?_, fun c1 => ?_⟩
    · refine sp_262 hp1 hp2 hp3 (fun hb2 => ?_)
      dsimp only [aa_rI, aa_rL]
      refine ⟨fun c3 => ?_, fun c3 => ?_⟩
      · rw [if_pos c1, if_pos c3] at ih
        exact ih
      · rw [if_pos c1, if_neg c3] at ih
        exact ih
    · refine sp_261  ?_
      dsimp only [aa_rI, aa_rL]
      refine sp_261  ?_
      dsimp only [aa_rI, aa_rL]
      refine ⟨fun c6 => ?_, fun c6 => ?_⟩
      · refine sp_262 hp1 hp2 hp3 (fun hb7 => ?_)
        dsimp only [aa_rI, aa_rL]
        refine ⟨fun c8 => ?_, fun c8 => ?_⟩
        · rw [if_neg c1, if_pos c6, if_pos c8] at ih
          exact ih
        · rw [if_neg c1, if_pos c6, if_neg c8] at ih
          exact ih
      · rw [if_neg c1, if_neg c6] at ih
        exact ih

def va_263  (V : aa_V) : Int32 := (vl_263_4  V (-1 : Int32))
set_option maxRecDepth 20000 in
/-- FrameCountyModel began -/
theorem sp_263 {G : ab_G} {L : Nat} {xs : Nat → Int32} {l : Launch} {d : Nat} {V : aa_V} {K : aa_K} (hw1 : zb ((1 : Int32) <<< ((V 105 46) &&& 31)) 1000000000) (hw2 : zb (V 105 46) 12) (hw3 : zb (V 105 54) 40) (hw4 : ∀ i_259 : Nat, i_259 < ((V 105 54)).toNatClampNeg → vp_in (V 141 i_259) 40) (h : K (some (.int (va_263  V))) V) :
    ab_E G (ac_ST L xs) l (d + 3) ac_SK 263 [.ref 105] V K := by
  rw [va_263] at h
  refine iv_263_0 ?_
  exact lo_263_4 hw1 hw2 hw3 hw4 h

def vl_272_6 (i1 : Int32) (i2 : Int32) (i3 : Int32) (V : aa_V) (a0 : Int32) : Int32 := ((fun (a_272 : Int32) => a_272) (fo (fun (i_272 : Nat) (a_272 : Int32) => ((if ((i2 / (va_270 ((i3 - (1 : Int32)) - (nI i_272)) V)) - (i2 / (va_270 ((i3 - (1 : Int32)) - (nI i_272)) V)) / (3 : Int32) * (3 : Int32)) = (2 : Int32) then (if 0 < (nI i_272) then (if ((i2 / (va_270 ((i3 - (1 : Int32)) - ((nI i_272) - (1 : Int32))) V)) - (i2 / (va_270 ((i3 - (1 : Int32)) - ((nI i_272) - (1 : Int32))) V)) / (3 : Int32) * (3 : Int32)) = (2 : Int32) then (if ((i2 / (va_270 ((i3 - (1 : Int32)) - (nI i_272)) V)) - (i2 / (va_270 ((i3 - (1 : Int32)) - (nI i_272)) V)) / (3 : Int32) * (3 : Int32)) = 0 then (a_272 + (V 146 (((((5 : Int32) * i1) + (nI i_272))).toNatClampNeg))) else (a_272 + (V 146 (((((5 : Int32) * i1) + (nI i_272))).toNatClampNeg)))) else (if ((i2 / (va_270 ((i3 - (1 : Int32)) - (nI i_272)) V)) - (i2 / (va_270 ((i3 - (1 : Int32)) - (nI i_272)) V)) / (3 : Int32) * (3 : Int32)) = 0 then (a_272 + (V 146 (((((5 : Int32) * i1) + (nI i_272))).toNatClampNeg))) else (if ((i2 / (va_270 ((i3 - (1 : Int32)) - (nI i_272)) V)) - (i2 / (va_270 ((i3 - (1 : Int32)) - (nI i_272)) V)) / (3 : Int32) * (3 : Int32)) = (1 : Int32) then (a_272 + (((V 146 (((((5 : Int32) * i1) + (nI i_272))).toNatClampNeg)) + (1 : Int32)) / (2 : Int32))) else (a_272 + (((V 146 (((((5 : Int32) * i1) + (nI i_272))).toNatClampNeg)) + (2 : Int32)) / (3 : Int32)))))) else (if ((i2 / (va_270 ((i3 - (1 : Int32)) - (nI i_272)) V)) - (i2 / (va_270 ((i3 - (1 : Int32)) - (nI i_272)) V)) / (3 : Int32) * (3 : Int32)) = 0 then (a_272 + (V 146 (((((5 : Int32) * i1) + (nI i_272))).toNatClampNeg))) else (if ((i2 / (va_270 ((i3 - (1 : Int32)) - (nI i_272)) V)) - (i2 / (va_270 ((i3 - (1 : Int32)) - (nI i_272)) V)) / (3 : Int32) * (3 : Int32)) = (1 : Int32) then (a_272 + (((V 146 (((((5 : Int32) * i1) + (nI i_272))).toNatClampNeg)) + (1 : Int32)) / (2 : Int32))) else (a_272 + (((V 146 (((((5 : Int32) * i1) + (nI i_272))).toNatClampNeg)) + (2 : Int32)) / (3 : Int32)))))) else (if ((i2 / (va_270 ((i3 - (1 : Int32)) - (nI i_272)) V)) - (i2 / (va_270 ((i3 - (1 : Int32)) - (nI i_272)) V)) / (3 : Int32) * (3 : Int32)) = 0 then (a_272 + (V 146 (((((5 : Int32) * i1) + (nI i_272))).toNatClampNeg))) else (if ((i2 / (va_270 ((i3 - (1 : Int32)) - (nI i_272)) V)) - (i2 / (va_270 ((i3 - (1 : Int32)) - (nI i_272)) V)) / (3 : Int32) * (3 : Int32)) = (1 : Int32) then (a_272 + (((V 146 (((((5 : Int32) * i1) + (nI i_272))).toNatClampNeg)) + (1 : Int32)) / (2 : Int32))) else (a_272 + (((V 146 (((((5 : Int32) * i1) + (nI i_272))).toNatClampNeg)) + (2 : Int32)) / (3 : Int32)))))) : Int32)) (i3).toNatClampNeg a0))
set_option maxRecDepth 20000 in
/-- FrameCountyModel broken, the loop at 6 -/
theorem lo_272_6 {G : ab_G} {L : Nat} {xs : Nat → Int32} {l : Launch} {d : Nat} {i1 : Int32} {i2 : Int32} {i3 : Int32} {V : aa_V} {K : aa_K} {a0 : Int32} (hz : zb i3 1000000000) (hv1 : ∀ i_272 : Nat, i_272 < (i3).toNatClampNeg → vp_in (((5 : Int32) * i1) + (nI i_272)) 30) (hv2 : ∀ i_272 : Nat, i_272 < (i3).toNatClampNeg → zb ((i3 - (1 : Int32)) - (nI i_272)) 1000000000) (hv3 : ∀ i_272 : Nat, i_272 < (i3).toNatClampNeg → ¬ (va_270 ((i3 - (1 : Int32)) - (nI i_272)) V) = 0) (hv4 : ∀ i_272 : Nat, i_272 < (i3).toNatClampNeg → zb ((i3 - (1 : Int32)) - ((nI i_272) - (1 : Int32))) 1000000000) (hv5 : ∀ i_272 : Nat, i_272 < (i3).toNatClampNeg → ¬ (va_270 ((i3 - (1 : Int32)) - ((nI i_272) - (1 : Int32))) V) = 0) (h : K (some (.int (vl_272_6 i1 i2 i3 V a0))) V) :
    ab_J G (ac_ST L xs) l (d + 3) 272 6 [some (.ref 105), some (.int i1), some (.int i2), some (.int i3), some (.int a0), some (.int (0 : Int32)), none, none, none] [] ac_SK V ac_SK K := by
  obtain ⟨n, hn, hm⟩ : ∃ n : Nat, i3 = nI n ∧ n ≤ 1000000000 := ⟨_, hz.1, hz.2⟩
  have hN : (i3).toNatClampNeg = n := by rw [hn]; exact zz_ix (by omega)
  rw [vl_272_6] at h
  rw [hN] at h
  try simp only [hN] at hv1
  try simp only [hN] at hv2
  try simp only [hN] at hv3
  try simp only [hN] at hv4
  try simp only [hN] at hv5
  refine zz_fo (fun (i_272 : Nat) (a_272 : Int32) => ((if ((i2 / (va_270 ((i3 - (1 : Int32)) - (nI i_272)) V)) - (i2 / (va_270 ((i3 - (1 : Int32)) - (nI i_272)) V)) / (3 : Int32) * (3 : Int32)) = (2 : Int32) then (if 0 < (nI i_272) then (if ((i2 / (va_270 ((i3 - (1 : Int32)) - ((nI i_272) - (1 : Int32))) V)) - (i2 / (va_270 ((i3 - (1 : Int32)) - ((nI i_272) - (1 : Int32))) V)) / (3 : Int32) * (3 : Int32)) = (2 : Int32) then (if ((i2 / (va_270 ((i3 - (1 : Int32)) - (nI i_272)) V)) - (i2 / (va_270 ((i3 - (1 : Int32)) - (nI i_272)) V)) / (3 : Int32) * (3 : Int32)) = 0 then (a_272 + (V 146 (((((5 : Int32) * i1) + (nI i_272))).toNatClampNeg))) else (a_272 + (V 146 (((((5 : Int32) * i1) + (nI i_272))).toNatClampNeg)))) else (if ((i2 / (va_270 ((i3 - (1 : Int32)) - (nI i_272)) V)) - (i2 / (va_270 ((i3 - (1 : Int32)) - (nI i_272)) V)) / (3 : Int32) * (3 : Int32)) = 0 then (a_272 + (V 146 (((((5 : Int32) * i1) + (nI i_272))).toNatClampNeg))) else (if ((i2 / (va_270 ((i3 - (1 : Int32)) - (nI i_272)) V)) - (i2 / (va_270 ((i3 - (1 : Int32)) - (nI i_272)) V)) / (3 : Int32) * (3 : Int32)) = (1 : Int32) then (a_272 + (((V 146 (((((5 : Int32) * i1) + (nI i_272))).toNatClampNeg)) + (1 : Int32)) / (2 : Int32))) else (a_272 + (((V 146 (((((5 : Int32) * i1) + (nI i_272))).toNatClampNeg)) + (2 : Int32)) / (3 : Int32)))))) else (if ((i2 / (va_270 ((i3 - (1 : Int32)) - (nI i_272)) V)) - (i2 / (va_270 ((i3 - (1 : Int32)) - (nI i_272)) V)) / (3 : Int32) * (3 : Int32)) = 0 then (a_272 + (V 146 (((((5 : Int32) * i1) + (nI i_272))).toNatClampNeg))) else (if ((i2 / (va_270 ((i3 - (1 : Int32)) - (nI i_272)) V)) - (i2 / (va_270 ((i3 - (1 : Int32)) - (nI i_272)) V)) / (3 : Int32) * (3 : Int32)) = (1 : Int32) then (a_272 + (((V 146 (((((5 : Int32) * i1) + (nI i_272))).toNatClampNeg)) + (1 : Int32)) / (2 : Int32))) else (a_272 + (((V 146 (((((5 : Int32) * i1) + (nI i_272))).toNatClampNeg)) + (2 : Int32)) / (3 : Int32)))))) else (if ((i2 / (va_270 ((i3 - (1 : Int32)) - (nI i_272)) V)) - (i2 / (va_270 ((i3 - (1 : Int32)) - (nI i_272)) V)) / (3 : Int32) * (3 : Int32)) = 0 then (a_272 + (V 146 (((((5 : Int32) * i1) + (nI i_272))).toNatClampNeg))) else (if ((i2 / (va_270 ((i3 - (1 : Int32)) - (nI i_272)) V)) - (i2 / (va_270 ((i3 - (1 : Int32)) - (nI i_272)) V)) / (3 : Int32) * (3 : Int32)) = (1 : Int32) then (a_272 + (((V 146 (((((5 : Int32) * i1) + (nI i_272))).toNatClampNeg)) + (1 : Int32)) / (2 : Int32))) else (a_272 + (((V 146 (((((5 : Int32) * i1) + (nI i_272))).toNatClampNeg)) + (2 : Int32)) / (3 : Int32)))))) : Int32)) (fun i_272 a_272 => ab_J G (ac_ST L xs) l (d + 3) 272 6 [some (.ref 105), some (.int i1), some (.int i2), some (.int i3), some (.int a_272), some (.int (nI i_272)), none, none, none] [] ac_SK V ac_SK K) n a0 ?_ ?_
  · refine iv_272_6 ⟨fun q => absurd q (zz_ge hn), fun _ => ?_⟩
    try dsimp only at h
    generalize hfo : fo (fun (i_272 : Nat) (a_272 : Int32) => ((if ((i2 / (va_270 ((i3 - (1 : Int32)) - (nI i_272)) V)) - (i2 / (va_270 ((i3 - (1 : Int32)) - (nI i_272)) V)) / (3 : Int32) * (3 : Int32)) = (2 : Int32) then (if 0 < (nI i_272) then (if ((i2 / (va_270 ((i3 - (1 : Int32)) - ((nI i_272) - (1 : Int32))) V)) - (i2 / (va_270 ((i3 - (1 : Int32)) - ((nI i_272) - (1 : Int32))) V)) / (3 : Int32) * (3 : Int32)) = (2 : Int32) then (if ((i2 / (va_270 ((i3 - (1 : Int32)) - (nI i_272)) V)) - (i2 / (va_270 ((i3 - (1 : Int32)) - (nI i_272)) V)) / (3 : Int32) * (3 : Int32)) = 0 then (a_272 + (V 146 (((((5 : Int32) * i1) + (nI i_272))).toNatClampNeg))) else (a_272 + (V 146 (((((5 : Int32) * i1) + (nI i_272))).toNatClampNeg)))) else (if ((i2 / (va_270 ((i3 - (1 : Int32)) - (nI i_272)) V)) - (i2 / (va_270 ((i3 - (1 : Int32)) - (nI i_272)) V)) / (3 : Int32) * (3 : Int32)) = 0 then (a_272 + (V 146 (((((5 : Int32) * i1) + (nI i_272))).toNatClampNeg))) else (if ((i2 / (va_270 ((i3 - (1 : Int32)) - (nI i_272)) V)) - (i2 / (va_270 ((i3 - (1 : Int32)) - (nI i_272)) V)) / (3 : Int32) * (3 : Int32)) = (1 : Int32) then (a_272 + (((V 146 (((((5 : Int32) * i1) + (nI i_272))).toNatClampNeg)) + (1 : Int32)) / (2 : Int32))) else (a_272 + (((V 146 (((((5 : Int32) * i1) + (nI i_272))).toNatClampNeg)) + (2 : Int32)) / (3 : Int32)))))) else (if ((i2 / (va_270 ((i3 - (1 : Int32)) - (nI i_272)) V)) - (i2 / (va_270 ((i3 - (1 : Int32)) - (nI i_272)) V)) / (3 : Int32) * (3 : Int32)) = 0 then (a_272 + (V 146 (((((5 : Int32) * i1) + (nI i_272))).toNatClampNeg))) else (if ((i2 / (va_270 ((i3 - (1 : Int32)) - (nI i_272)) V)) - (i2 / (va_270 ((i3 - (1 : Int32)) - (nI i_272)) V)) / (3 : Int32) * (3 : Int32)) = (1 : Int32) then (a_272 + (((V 146 (((((5 : Int32) * i1) + (nI i_272))).toNatClampNeg)) + (1 : Int32)) / (2 : Int32))) else (a_272 + (((V 146 (((((5 : Int32) * i1) + (nI i_272))).toNatClampNeg)) + (2 : Int32)) / (3 : Int32)))))) else (if ((i2 / (va_270 ((i3 - (1 : Int32)) - (nI i_272)) V)) - (i2 / (va_270 ((i3 - (1 : Int32)) - (nI i_272)) V)) / (3 : Int32) * (3 : Int32)) = 0 then (a_272 + (V 146 (((((5 : Int32) * i1) + (nI i_272))).toNatClampNeg))) else (if ((i2 / (va_270 ((i3 - (1 : Int32)) - (nI i_272)) V)) - (i2 / (va_270 ((i3 - (1 : Int32)) - (nI i_272)) V)) / (3 : Int32) * (3 : Int32)) = (1 : Int32) then (a_272 + (((V 146 (((((5 : Int32) * i1) + (nI i_272))).toNatClampNeg)) + (1 : Int32)) / (2 : Int32))) else (a_272 + (((V 146 (((((5 : Int32) * i1) + (nI i_272))).toNatClampNeg)) + (2 : Int32)) / (3 : Int32)))))) : Int32)) n a0 = a_272 at h ⊢
    exact h
  · intro i_272 hi ih
    have e : (nI i_272).toNatClampNeg = i_272 := zz_ix (by omega)
    rw [fo_s, nI_succ] at ih
    refine iv_272_6 ⟨fun _ => ?_, fun q => absurd (zz_gl hn hi (by omega)) q⟩
    try simp only [e, ac_zs0, ac_zs1]
    refine ⟨(hv1 i_272 hi), ?_⟩
    refine sp_270 (by first | exact (hv2 i_272 hi) | (simp only [e]; exact (hv2 i_272 hi)) | (simp only [hN]; exact (hv2 i_272 hi))) ?_
    dsimp only [aa_rI, aa_rL]
    refine ⟨(hv3 i_272 hi), ?_⟩
    refine ⟨by decide, ?_⟩
    refine ⟨fun c2 => ?_, fun c2 => ?_⟩
    · refine ⟨fun c3 => ?_, fun c3 => ?_⟩
      · refine sp_270 (by first | exact (hv4 i_272 hi) | (simp only [e]; exact (hv4 i_272 hi)) | (simp only [hN]; exact (hv4 i_272 hi))) ?_
        dsimp only [aa_rI, aa_rL]
        refine ⟨(hv5 i_272 hi), ?_⟩
        refine ⟨by decide, ?_⟩
        refine ⟨fun c5 => ?_, fun c5 => ?_⟩
        · refine ⟨fun c6 => ?_, fun c6 => ?_⟩
          · rw [if_pos c2, if_pos c3, if_pos c5, if_pos c6] at ih
            exact ih
          · rw [if_pos c2, if_pos c3, if_pos c5, if_neg c6] at ih
            exact ih
        · refine ⟨fun c7 => ?_, fun c7 => ?_⟩
          · rw [if_pos c2, if_pos c3, if_neg c5, if_pos c7] at ih
            exact ih
          · refine ⟨fun c8 => ?_, fun c8 => ?_⟩
            · refine ⟨by decide, ?_⟩
              rw [if_pos c2, if_pos c3, if_neg c5, if_neg c7, if_pos c8] at ih
              exact ih
            · refine ⟨by decide, ?_⟩
              rw [if_pos c2, if_pos c3, if_neg c5, if_neg c7, if_neg c8] at ih
              exact ih
      · refine ⟨fun c9 => ?_, fun c9 => ?_⟩
        · rw [if_pos c2, if_neg c3, if_pos c9] at ih
          exact ih
        · refine ⟨fun c10 => ?_, fun c10 => ?_⟩
          · refine ⟨by decide, ?_⟩
            rw [if_pos c2, if_neg c3, if_neg c9, if_pos c10] at ih
            exact ih
          · refine ⟨by decide, ?_⟩
            rw [if_pos c2, if_neg c3, if_neg c9, if_neg c10] at ih
            exact ih
    · refine ⟨fun c11 => ?_, fun c11 => ?_⟩
      · rw [if_neg c2, if_pos c11] at ih
        exact ih
      · refine ⟨fun c12 => ?_, fun c12 => ?_⟩
        · refine ⟨by decide, ?_⟩
          rw [if_neg c2, if_neg c11, if_pos c12] at ih
          exact ih
        · refine ⟨by decide, ?_⟩
          rw [if_neg c2, if_neg c11, if_neg c12] at ih
          exact ih

def va_272 (i1 : Int32) (i2 : Int32) (i3 : Int32) (V : aa_V) : Int32 := (vl_272_6 i1 i2 i3 V (0 : Int32))
set_option maxRecDepth 20000 in
/-- FrameCountyModel broken -/
theorem sp_272 {G : ab_G} {L : Nat} {xs : Nat → Int32} {l : Launch} {d : Nat} {i1 : Int32} {i2 : Int32} {i3 : Int32} {V : aa_V} {K : aa_K} (hw1 : zb i3 1000000000) (hw2 : ∀ i_272 : Nat, i_272 < (i3).toNatClampNeg → vp_in (((5 : Int32) * i1) + (nI i_272)) 30) (hw3 : ∀ i_272 : Nat, i_272 < (i3).toNatClampNeg → zb ((i3 - (1 : Int32)) - (nI i_272)) 1000000000) (hw4 : ∀ i_272 : Nat, i_272 < (i3).toNatClampNeg → ¬ (va_270 ((i3 - (1 : Int32)) - (nI i_272)) V) = 0) (hw5 : ∀ i_272 : Nat, i_272 < (i3).toNatClampNeg → zb ((i3 - (1 : Int32)) - ((nI i_272) - (1 : Int32))) 1000000000) (hw6 : ∀ i_272 : Nat, i_272 < (i3).toNatClampNeg → ¬ (va_270 ((i3 - (1 : Int32)) - ((nI i_272) - (1 : Int32))) V) = 0) (h : K (some (.int (va_272 i1 i2 i3 V))) V) :
    ab_E G (ac_ST L xs) l (d + 3) ac_SK 272 [.ref 105, .int i1, .int i2, .int i3] V K := by
  rw [va_272] at h
  refine iv_272_0 ?_
  exact lo_272_6 hw1 hw2 hw3 hw4 hw5 hw6 h

def vl_135_15 (i1 : Int32) (i3 : Int32) (V : aa_V) (a0 : Int32 × Int32) : Int32 := ((fun (a_135 : Int32 × Int32) => a_135.1) (fo (fun (i_135 : Nat) (a_135 : Int32 × Int32) => ((if ((i3 >>> ((nI i_135) &&& 31)) &&& (1 : Int32)) = (1 : Int32) then (if a_135.2 < (0 : Int32) then ((nI i_135), (0 : Int32)) else (a_135.1, a_135.2)) else (if a_135.2 < (va_136 i1 (nI i_135) V) then ((nI i_135), (va_136 i1 (nI i_135) V)) else (a_135.1, a_135.2))) : Int32 × Int32)) ((V 29 0)).toNatClampNeg a0))
set_option maxRecDepth 20000 in
/-- FrameCounty$Works nextShop, the loop at 15 -/
theorem lo_135_15 {G : ab_G} {L : Nat} {xs : Nat → Int32} {l : Launch} {d : Nat} {i1 : Int32} {i3 : Int32} {V : aa_V} {K : aa_K} {a0 : Int32 × Int32} (hz : zb (V 29 0) 1000000000) (hp1 : zb (V 29 3) 20) (hp2 : ∀ i_136 : Nat, i_136 < ((V 29 3)).toNatClampNeg → ((i1 / (300 : Int32)) = 0) → vp_in (nI i_136) 20) (hp3 : ∀ i_136 : Nat, i_136 < ((V 29 3)).toNatClampNeg → ¬ ((i1 / (300 : Int32)) = 0) → ((i1 / (300 : Int32)) = 1) → vp_in (nI i_136) 20) (hp4 : ∀ i_136 : Nat, i_136 < ((V 29 3)).toNatClampNeg → ¬ ((i1 / (300 : Int32)) = 0) → ¬ ((i1 / (300 : Int32)) = 1) → ((i1 / (300 : Int32)) = 2) → vp_in (nI i_136) 20) (hp5 : ∀ i_136 : Nat, i_136 < ((V 29 3)).toNatClampNeg → ¬ ((i1 / (300 : Int32)) = 0) → ¬ ((i1 / (300 : Int32)) = 1) → ¬ ((i1 / (300 : Int32)) = 2) → ((i1 / (300 : Int32)) = 3) → vp_in (nI i_136) 20) (hp6 : ∀ i_136 : Nat, i_136 < ((V 29 3)).toNatClampNeg → ¬ ((i1 / (300 : Int32)) = 0) → ¬ ((i1 / (300 : Int32)) = 1) → ¬ ((i1 / (300 : Int32)) = 2) → ((i1 / (300 : Int32)) = 3) → vp_in (V 33 i_136) 8) (hp7 : ∀ i_136 : Nat, i_136 < ((V 29 3)).toNatClampNeg → ¬ ((i1 / (300 : Int32)) = 0) → ¬ ((i1 / (300 : Int32)) = 1) → ¬ ((i1 / (300 : Int32)) = 2) → ¬ ((i1 / (300 : Int32)) = 3) → vp_in (nI i_136) 20) (hp8 : ∀ i_136 : Nat, i_136 < ((V 29 3)).toNatClampNeg → ¬ ((i1 / (300 : Int32)) = 0) → ¬ ((i1 / (300 : Int32)) = 1) → ¬ ((i1 / (300 : Int32)) = 2) → ¬ ((i1 / (300 : Int32)) = 3) → vp_in (V 33 i_136) 8) (h : K (some (.int (vl_135_15 i1 i3 V a0))) V) :
    ab_J G (ac_ST L xs) l (d + 4) 135 15 [some (.ref 29), some (.int i1), none, some (.int i3), some (.int a0.1), some (.int a0.2), some (.int (0 : Int32)), none] [] ac_SK V ac_SK K := by
  obtain ⟨n, hn, hm⟩ : ∃ n : Nat, (V 29 0) = nI n ∧ n ≤ 1000000000 := ⟨_, hz.1, hz.2⟩
  have hN : ((V 29 0)).toNatClampNeg = n := by rw [hn]; exact zz_ix (by omega)
  rw [vl_135_15] at h
  rw [hN] at h
  refine zz_fo (fun (i_135 : Nat) (a_135 : Int32 × Int32) => ((if ((i3 >>> ((nI i_135) &&& 31)) &&& (1 : Int32)) = (1 : Int32) then (if a_135.2 < (0 : Int32) then ((nI i_135), (0 : Int32)) else (a_135.1, a_135.2)) else (if a_135.2 < (va_136 i1 (nI i_135) V) then ((nI i_135), (va_136 i1 (nI i_135) V)) else (a_135.1, a_135.2))) : Int32 × Int32)) (fun i_135 a_135 => ab_J G (ac_ST L xs) l (d + 4) 135 15 [some (.ref 29), some (.int i1), none, some (.int i3), some (.int a_135.1), some (.int a_135.2), some (.int (nI i_135)), none] [] ac_SK V ac_SK K) n a0 ?_ ?_
  · refine iv_135_15 ⟨fun q => absurd q (zz_ge hn), fun _ => ?_⟩
    try dsimp only at h
    generalize hfo : fo (fun (i_135 : Nat) (a_135 : Int32 × Int32) => ((if ((i3 >>> ((nI i_135) &&& 31)) &&& (1 : Int32)) = (1 : Int32) then (if a_135.2 < (0 : Int32) then ((nI i_135), (0 : Int32)) else (a_135.1, a_135.2)) else (if a_135.2 < (va_136 i1 (nI i_135) V) then ((nI i_135), (va_136 i1 (nI i_135) V)) else (a_135.1, a_135.2))) : Int32 × Int32)) n a0 = a_135 at h ⊢
    exact h
  · intro i_135 hi ih
    have e : (nI i_135).toNatClampNeg = i_135 := zz_ix (by omega)
    rw [fo_s, nI_succ] at ih
    refine iv_135_15 ⟨fun _ => ?_, fun q => absurd (zz_gl hn hi (by omega)) q⟩
    try simp only [e, ac_zs0, ac_zs1]
    refine ⟨fun c1 => ?_, fun c1 => ?_⟩
    · refine ⟨fun c2 => ?_, fun c2 => ?_⟩
      · rw [if_pos c1, if_pos c2] at ih
        exact ih
      · rw [if_pos c1, if_neg c2] at ih
        exact ih
    · refine sp_136 hp1 hp2 hp3 hp4 hp5 hp6 hp7 hp8 ?_
      dsimp only [aa_rI, aa_rL]
      refine ⟨fun c4 => ?_, fun c4 => ?_⟩
      · rw [if_neg c1, if_pos c4] at ih
        exact ih
      · rw [if_neg c1, if_neg c4] at ih
        exact ih

def va_135 (i1 : Int32) (i2 : Int32) (V : aa_V) : Int32 := (vl_135_15 i1 (va_131 i2 V) V ((-1 : Int32), (0 : Int32)))
set_option maxRecDepth 20000 in
/-- FrameCounty$Works nextShop -/
theorem sp_135 {G : ab_G} {L : Nat} {xs : Nat → Int32} {l : Launch} {d : Nat} {i1 : Int32} {i2 : Int32} {V : aa_V} {K : aa_K} (hw1 : zb (V 29 3) 20) (hw2 : zb (V 29 0) 1000000000) (hw3 : ∀ i_136 : Nat, i_136 < ((V 29 3)).toNatClampNeg → ((i1 / (300 : Int32)) = 0) → vp_in (nI i_136) 20) (hw4 : ∀ i_136 : Nat, i_136 < ((V 29 3)).toNatClampNeg → ¬ ((i1 / (300 : Int32)) = 0) → ((i1 / (300 : Int32)) = 1) → vp_in (nI i_136) 20) (hw5 : ∀ i_136 : Nat, i_136 < ((V 29 3)).toNatClampNeg → ¬ ((i1 / (300 : Int32)) = 0) → ¬ ((i1 / (300 : Int32)) = 1) → ((i1 / (300 : Int32)) = 2) → vp_in (nI i_136) 20) (hw6 : ∀ i_136 : Nat, i_136 < ((V 29 3)).toNatClampNeg → ¬ ((i1 / (300 : Int32)) = 0) → ¬ ((i1 / (300 : Int32)) = 1) → ¬ ((i1 / (300 : Int32)) = 2) → ((i1 / (300 : Int32)) = 3) → vp_in (nI i_136) 20) (hw7 : ∀ i_136 : Nat, i_136 < ((V 29 3)).toNatClampNeg → ¬ ((i1 / (300 : Int32)) = 0) → ¬ ((i1 / (300 : Int32)) = 1) → ¬ ((i1 / (300 : Int32)) = 2) → ((i1 / (300 : Int32)) = 3) → vp_in (V 33 i_136) 8) (hw8 : ∀ i_136 : Nat, i_136 < ((V 29 3)).toNatClampNeg → ¬ ((i1 / (300 : Int32)) = 0) → ¬ ((i1 / (300 : Int32)) = 1) → ¬ ((i1 / (300 : Int32)) = 2) → ¬ ((i1 / (300 : Int32)) = 3) → vp_in (nI i_136) 20) (hw9 : ∀ i_136 : Nat, i_136 < ((V 29 3)).toNatClampNeg → ¬ ((i1 / (300 : Int32)) = 0) → ¬ ((i1 / (300 : Int32)) = 1) → ¬ ((i1 / (300 : Int32)) = 2) → ¬ ((i1 / (300 : Int32)) = 3) → vp_in (V 33 i_136) 8) (h : K (some (.int (va_135 i1 i2 V))) V) :
    ab_E G (ac_ST L xs) l (d + 4) ac_SK 135 [.ref 29, .int i1, .int i2] V K := by
  rw [va_135] at h
  refine iv_135_0 ?_
  refine sp_131 hw1 ?_
  dsimp only [aa_rI, aa_rL, aa_rV]
  exact lo_135_15 hw2 hw1 hw3 hw4 hw5 hw6 hw7 hw8 hw9 h

def va_144 (i1 : Int32) (i2 : Int32) (V : aa_V) : Int64 := (if i1 < (0 : Int32) then (-4611686018427387904 : Int64) else (if ((V 29 3) - (1 : Int32)) < i1 then (-4611686018427387904 : Int64) else (va_120 i1 i2 V)))
set_option maxRecDepth 20000 in
/-- FrameCounty frameTold -/
theorem sp_144 {G : ab_G} {L : Nat} {xs : Nat → Int32} {l : Launch} {d : Nat} {i1 : Int32} {i2 : Int32} {V : aa_V} {K : aa_K} (hw1 : ¬ (i1 < (0 : Int32)) → ¬ (((V 29 3) - (1 : Int32)) < i1) → (i2 = 0) → vp_in i1 20) (hw2 : ¬ (i1 < (0 : Int32)) → ¬ (((V 29 3) - (1 : Int32)) < i1) → ¬ (i2 = 0) → (i2 = 1) → vp_in i1 20) (hw3 : ¬ (i1 < (0 : Int32)) → ¬ (((V 29 3) - (1 : Int32)) < i1) → ¬ (i2 = 0) → ¬ (i2 = 1) → (i2 = 2) → vp_in i1 20) (hw4 : ¬ (i1 < (0 : Int32)) → ¬ (((V 29 3) - (1 : Int32)) < i1) → ¬ (i2 = 0) → ¬ (i2 = 1) → ¬ (i2 = 2) → (i2 = 3) → vp_in i1 20) (hw5 : ¬ (i1 < (0 : Int32)) → ¬ (((V 29 3) - (1 : Int32)) < i1) → ¬ (i2 = 0) → ¬ (i2 = 1) → ¬ (i2 = 2) → ¬ (i2 = 3) → (i2 = 4) → vp_in i1 20) (hw6 : ¬ (i1 < (0 : Int32)) → ¬ (((V 29 3) - (1 : Int32)) < i1) → ¬ (i2 = 0) → ¬ (i2 = 1) → ¬ (i2 = 2) → ¬ (i2 = 3) → ¬ (i2 = 4) → (i2 = 5) → vp_in i1 20) (hw7 : ¬ (i1 < (0 : Int32)) → ¬ (((V 29 3) - (1 : Int32)) < i1) → ¬ (i2 = 0) → ¬ (i2 = 1) → ¬ (i2 = 2) → ¬ (i2 = 3) → ¬ (i2 = 4) → ¬ (i2 = 5) → (i2 = 6) → vp_in i1 20) (hw8 : ¬ (i1 < (0 : Int32)) → ¬ (((V 29 3) - (1 : Int32)) < i1) → ¬ (i2 = 0) → ¬ (i2 = 1) → ¬ (i2 = 2) → ¬ (i2 = 3) → ¬ (i2 = 4) → ¬ (i2 = 5) → ¬ (i2 = 6) → (i2 = 7) → vp_in i1 20) (hw9 : ¬ (i1 < (0 : Int32)) → ¬ (((V 29 3) - (1 : Int32)) < i1) → ¬ (i2 = 0) → ¬ (i2 = 1) → ¬ (i2 = 2) → ¬ (i2 = 3) → ¬ (i2 = 4) → ¬ (i2 = 5) → ¬ (i2 = 6) → (i2 = 7) → ((V 36 ((i1).toNatClampNeg)) = 0) → vp_in (V 33 ((i1).toNatClampNeg)) 8) (h : K (some (.long (va_144 i1 i2 V))) V) :
    ab_E G (ac_ST L xs) l (d + 4) ac_SK 144 [.ref 0, .int i1, .int i2] V K := by
  rw [va_144] at h
  refine iv_144_0 ?_
  refine ⟨fun g1 => ?_, fun g1 => ?_⟩
  · simp only [if_pos g1] at h
    exact h
  · refine ⟨fun g2 => ?_, fun g2 => ?_⟩
    · simp only [if_neg g1, if_pos g2] at h
      exact h
    · refine sp_120 (hw1 g1 g2) (hw2 g1 g2) (hw3 g1 g2) (hw4 g1 g2) (hw5 g1 g2) (hw6 g1 g2) (hw7 g1 g2) (hw8 g1 g2) (hw9 g1 g2) ?_
      dsimp only [aa_rI, aa_rL, aa_rV]
      simp only [if_neg g1, if_neg g2] at h
      exact h

def va_147 (i1 : Int32) (V : aa_V) : Int64 := (if i1 < (0 : Int32) then (-4611686018427387904 : Int64) else (if ((V 29 0) - (1 : Int32)) < i1 then (-4611686018427387904 : Int64) else ((va_128 i1 V).toInt64)))
set_option maxRecDepth 20000 in
/-- FrameCounty earns -/
theorem sp_147 {G : ab_G} {L : Nat} {xs : Nat → Int32} {l : Launch} {d : Nat} {i1 : Int32} {V : aa_V} {K : aa_K} (hw1 : zb (V 29 3) 20) (hw2 : ∀ i_128 : Nat, i_128 < ((V 29 3)).toNatClampNeg → vp_in (V 33 i_128) 8) (h : K (some (.long (va_147 i1 V))) V) :
    ab_E G (ac_ST L xs) l (d + 4) ac_SK 147 [.ref 0, .int i1] V K := by
  rw [va_147] at h
  refine iv_147_0 ?_
  refine ⟨fun g1 => ?_, fun g1 => ?_⟩
  · simp only [if_pos g1] at h
    exact h
  · refine ⟨fun g2 => ?_, fun g2 => ?_⟩
    · simp only [if_neg g1, if_pos g2] at h
      exact h
    · refine sp_128 hw1 hw2 ?_
      dsimp only [aa_rI, aa_rL, aa_rV]
      simp only [if_neg g1, if_neg g2] at h
      exact h

def vl_154_26 (i2 : Int32) (i3 : Int32) (V : aa_V) (a0 : Int32) : Int32 := ((fun (a_154 : Int32) => a_154) (fo (fun (i_154 : Nat) (a_154 : Int32) => ((if (va_134 (nI i_154) i2 i3 V) = 0 then a_154 else (a_154 + 1)) : Int32)) 1500 a0))
set_option maxRecDepth 20000 in
/-- FrameCounty left, the loop at 26 -/
theorem lo_154_26 {G : ab_G} {L : Nat} {xs : Nat → Int32} {l : Launch} {d : Nat} {i2 : Int32} {i3 : Int32} {V : aa_V} {K : aa_K} {a0 : Int32} (hp1 : zb (V 29 3) 1000000000) (hv1 : ∀ i_154 : Nat, i_154 < 1500 → ∀ i_134 : Nat, i_134 < ((V 29 3)).toNatClampNeg → (((nI i_154) / (300 : Int32)) = 0) → vp_in (nI i_134) 20) (hv2 : ∀ i_154 : Nat, i_154 < 1500 → ∀ i_134 : Nat, i_134 < ((V 29 3)).toNatClampNeg → ¬ (((nI i_154) / (300 : Int32)) = 0) → (((nI i_154) / (300 : Int32)) = 1) → vp_in (nI i_134) 20) (hv3 : ∀ i_154 : Nat, i_154 < 1500 → ∀ i_134 : Nat, i_134 < ((V 29 3)).toNatClampNeg → ¬ (((nI i_154) / (300 : Int32)) = 0) → ¬ (((nI i_154) / (300 : Int32)) = 1) → (((nI i_154) / (300 : Int32)) = 2) → vp_in (nI i_134) 20) (hv4 : ∀ i_154 : Nat, i_154 < 1500 → ∀ i_134 : Nat, i_134 < ((V 29 3)).toNatClampNeg → ¬ (((nI i_154) / (300 : Int32)) = 0) → ¬ (((nI i_154) / (300 : Int32)) = 1) → ¬ (((nI i_154) / (300 : Int32)) = 2) → (((nI i_154) / (300 : Int32)) = 3) → vp_in (nI i_134) 20) (hv5 : ∀ i_154 : Nat, i_154 < 1500 → ∀ i_134 : Nat, i_134 < ((V 29 3)).toNatClampNeg → ¬ (((nI i_154) / (300 : Int32)) = 0) → ¬ (((nI i_154) / (300 : Int32)) = 1) → ¬ (((nI i_154) / (300 : Int32)) = 2) → (((nI i_154) / (300 : Int32)) = 3) → vp_in (V 33 i_134) 8) (hv6 : ∀ i_154 : Nat, i_154 < 1500 → ∀ i_134 : Nat, i_134 < ((V 29 3)).toNatClampNeg → ¬ (((nI i_154) / (300 : Int32)) = 0) → ¬ (((nI i_154) / (300 : Int32)) = 1) → ¬ (((nI i_154) / (300 : Int32)) = 2) → ¬ (((nI i_154) / (300 : Int32)) = 3) → vp_in (nI i_134) 20) (hv7 : ∀ i_154 : Nat, i_154 < 1500 → ∀ i_134 : Nat, i_134 < ((V 29 3)).toNatClampNeg → ¬ (((nI i_154) / (300 : Int32)) = 0) → ¬ (((nI i_154) / (300 : Int32)) = 1) → ¬ (((nI i_154) / (300 : Int32)) = 2) → ¬ (((nI i_154) / (300 : Int32)) = 3) → vp_in (V 33 i_134) 8) (h : K (some (.int (vl_154_26 i2 i3 V a0))) V) :
    ab_J G (ac_ST L xs) l (d + 4) 154 26 [some (.ref 0), some (.int a0), some (.int i2), some (.int i3), some (.int (0 : Int32))] [] ac_SK V ac_SK K := by
  obtain ⟨n, hn, hm, hN⟩ : ∃ n : Nat, (1500 : Int32) = nI n ∧ n ≤ 1500 ∧ n = 1500 := ⟨1500, by decide +kernel, Nat.le_refl _, rfl⟩
  have hvl : vl_154_26 i2 i3 V a0 = ((fun (a_154 : Int32) => a_154) (fo (fun (i_154 : Nat) (a_154 : Int32) => ((if (va_134 (nI i_154) i2 i3 V) = 0 then a_154 else (a_154 + 1)) : Int32)) n a0)) := by
    subst hN
    rfl
  rw [hvl] at h
  have hlt : ∀ i_154, i_154 < n → i_154 < 1500 := fun i_154 q => by omega
  refine zz_fo (fun (i_154 : Nat) (a_154 : Int32) => ((if (va_134 (nI i_154) i2 i3 V) = 0 then a_154 else (a_154 + 1)) : Int32)) (fun i_154 a_154 => ab_J G (ac_ST L xs) l (d + 4) 154 26 [some (.ref 0), some (.int a_154), some (.int i2), some (.int i3), some (.int (nI i_154))] [] ac_SK V ac_SK K) n a0 ?_ ?_
  · refine iv_154_26 ⟨fun q => absurd q (zz_ge hn), fun _ => ?_⟩
    try dsimp only at h
    generalize hfo : fo (fun (i_154 : Nat) (a_154 : Int32) => ((if (va_134 (nI i_154) i2 i3 V) = 0 then a_154 else (a_154 + 1)) : Int32)) n a0 = a_154 at h ⊢
    subst hN
    exact h
  · intro i_154 hi ih
    have e : (nI i_154).toNatClampNeg = i_154 := zz_ix (by omega)
    rw [fo_s, nI_succ] at ih
    refine iv_154_26 ⟨fun _ => ?_, fun q => absurd (zz_gl hn hi (by omega)) q⟩
    try simp only [e, ac_zs0, ac_zs1]
    refine sp_134 hp1 (by first | exact (hv1 i_154 (hlt i_154 hi)) | (simp only [e]; exact (hv1 i_154 (hlt i_154 hi))) | (simp only [hN]; exact (hv1 i_154 (hlt i_154 hi)))) (by first | exact (hv2 i_154 (hlt i_154 hi)) | (simp only [e]; exact (hv2 i_154 (hlt i_154 hi))) | (simp only [hN]; exact (hv2 i_154 (hlt i_154 hi)))) (by first | exact (hv3 i_154 (hlt i_154 hi)) | (simp only [e]; exact (hv3 i_154 (hlt i_154 hi))) | (simp only [hN]; exact (hv3 i_154 (hlt i_154 hi)))) (by first | exact (hv4 i_154 (hlt i_154 hi)) | (simp only [e]; exact (hv4 i_154 (hlt i_154 hi))) | (simp only [hN]; exact (hv4 i_154 (hlt i_154 hi)))) (by first | exact (hv5 i_154 (hlt i_154 hi)) | (simp only [e]; exact (hv5 i_154 (hlt i_154 hi))) | (simp only [hN]; exact (hv5 i_154 (hlt i_154 hi)))) (by first | exact (hv6 i_154 (hlt i_154 hi)) | (simp only [e]; exact (hv6 i_154 (hlt i_154 hi))) | (simp only [hN]; exact (hv6 i_154 (hlt i_154 hi)))) (by first | exact (hv7 i_154 (hlt i_154 hi)) | (simp only [e]; exact (hv7 i_154 (hlt i_154 hi))) | (simp only [hN]; exact (hv7 i_154 (hlt i_154 hi)))) (fun hb1 => ?_)
    dsimp only [aa_rI, aa_rL]
    refine ⟨fun c2 => ?_, fun c2 => ?_⟩
    · rw [if_pos c2] at ih
      exact ih
    · rw [if_neg c2] at ih
      exact ih

def va_154  (V : aa_V) : Int32 := (vl_154_26 (va_129 (V 0 13) V) (va_130 (va_129 (V 0 13) V) V) V (0 : Int32))
set_option maxRecDepth 20000 in
/-- FrameCounty left -/
theorem sp_154 {G : ab_G} {L : Nat} {xs : Nat → Int32} {l : Launch} {d : Nat} {V : aa_V} {K : aa_K} (hw1 : zb (V 29 3) 20) (hw2 : zb (V 29 3) 1000000000) (hw3 : ∀ i_154 : Nat, i_154 < 1500 → ∀ i_134 : Nat, i_134 < ((V 29 3)).toNatClampNeg → (((nI i_154) / (300 : Int32)) = 0) → vp_in (nI i_134) 20) (hw4 : ∀ i_154 : Nat, i_154 < 1500 → ∀ i_134 : Nat, i_134 < ((V 29 3)).toNatClampNeg → ¬ (((nI i_154) / (300 : Int32)) = 0) → (((nI i_154) / (300 : Int32)) = 1) → vp_in (nI i_134) 20) (hw5 : ∀ i_154 : Nat, i_154 < 1500 → ∀ i_134 : Nat, i_134 < ((V 29 3)).toNatClampNeg → ¬ (((nI i_154) / (300 : Int32)) = 0) → ¬ (((nI i_154) / (300 : Int32)) = 1) → (((nI i_154) / (300 : Int32)) = 2) → vp_in (nI i_134) 20) (hw6 : ∀ i_154 : Nat, i_154 < 1500 → ∀ i_134 : Nat, i_134 < ((V 29 3)).toNatClampNeg → ¬ (((nI i_154) / (300 : Int32)) = 0) → ¬ (((nI i_154) / (300 : Int32)) = 1) → ¬ (((nI i_154) / (300 : Int32)) = 2) → (((nI i_154) / (300 : Int32)) = 3) → vp_in (nI i_134) 20) (hw7 : ∀ i_154 : Nat, i_154 < 1500 → ∀ i_134 : Nat, i_134 < ((V 29 3)).toNatClampNeg → ¬ (((nI i_154) / (300 : Int32)) = 0) → ¬ (((nI i_154) / (300 : Int32)) = 1) → ¬ (((nI i_154) / (300 : Int32)) = 2) → (((nI i_154) / (300 : Int32)) = 3) → vp_in (V 33 i_134) 8) (hw8 : ∀ i_154 : Nat, i_154 < 1500 → ∀ i_134 : Nat, i_134 < ((V 29 3)).toNatClampNeg → ¬ (((nI i_154) / (300 : Int32)) = 0) → ¬ (((nI i_154) / (300 : Int32)) = 1) → ¬ (((nI i_154) / (300 : Int32)) = 2) → ¬ (((nI i_154) / (300 : Int32)) = 3) → vp_in (nI i_134) 20) (hw9 : ∀ i_154 : Nat, i_154 < 1500 → ∀ i_134 : Nat, i_134 < ((V 29 3)).toNatClampNeg → ¬ (((nI i_154) / (300 : Int32)) = 0) → ¬ (((nI i_154) / (300 : Int32)) = 1) → ¬ (((nI i_154) / (300 : Int32)) = 2) → ¬ (((nI i_154) / (300 : Int32)) = 3) → vp_in (V 33 i_134) 8) (h : K (some (.int (va_154  V))) V) :
    ab_E G (ac_ST L xs) l (d + 4) ac_SK 154 [.ref 0] V K := by
  rw [va_154] at h
  refine iv_154_0 ?_
  refine sp_129 hw1 ?_
  dsimp only [aa_rI, aa_rL, aa_rV]
  refine sp_130 hw1 ?_
  dsimp only [aa_rI, aa_rL, aa_rV]
  exact lo_154_26 hw2 hw3 hw4 hw5 hw6 hw7 hw8 hw9 h

def vl_155_33 (i3 : Int32) (i4 : Int32) (V : aa_V) (a0 : Int32) : Int32 := (match fe (fun (i_155 : Nat) (a_155 : Int32) => ((if (va_134 (nI i_155) i3 i4 V) = 0 then .inl a_155 else (if a_155 = 0 then .inr (nI i_155) else .inl (a_155 + (-1)))) : Int32 ⊕ Int32)) 1500 a0 with
  | .inl a_155 => (-1 : Int32)
  | .inr b => b)
set_option maxRecDepth 20000 in
/-- FrameCounty form, the loop at 33 -/
theorem lo_155_33 {G : ab_G} {L : Nat} {xs : Nat → Int32} {l : Launch} {d : Nat} {i3 : Int32} {i4 : Int32} {V : aa_V} {K : aa_K} {a0 : Int32} (hp1 : zb (V 29 3) 1000000000) (hv1 : ∀ i_155 : Nat, i_155 < 1500 → ∀ i_134 : Nat, i_134 < ((V 29 3)).toNatClampNeg → (((nI i_155) / (300 : Int32)) = 0) → vp_in (nI i_134) 20) (hv2 : ∀ i_155 : Nat, i_155 < 1500 → ∀ i_134 : Nat, i_134 < ((V 29 3)).toNatClampNeg → ¬ (((nI i_155) / (300 : Int32)) = 0) → (((nI i_155) / (300 : Int32)) = 1) → vp_in (nI i_134) 20) (hv3 : ∀ i_155 : Nat, i_155 < 1500 → ∀ i_134 : Nat, i_134 < ((V 29 3)).toNatClampNeg → ¬ (((nI i_155) / (300 : Int32)) = 0) → ¬ (((nI i_155) / (300 : Int32)) = 1) → (((nI i_155) / (300 : Int32)) = 2) → vp_in (nI i_134) 20) (hv4 : ∀ i_155 : Nat, i_155 < 1500 → ∀ i_134 : Nat, i_134 < ((V 29 3)).toNatClampNeg → ¬ (((nI i_155) / (300 : Int32)) = 0) → ¬ (((nI i_155) / (300 : Int32)) = 1) → ¬ (((nI i_155) / (300 : Int32)) = 2) → (((nI i_155) / (300 : Int32)) = 3) → vp_in (nI i_134) 20) (hv5 : ∀ i_155 : Nat, i_155 < 1500 → ∀ i_134 : Nat, i_134 < ((V 29 3)).toNatClampNeg → ¬ (((nI i_155) / (300 : Int32)) = 0) → ¬ (((nI i_155) / (300 : Int32)) = 1) → ¬ (((nI i_155) / (300 : Int32)) = 2) → (((nI i_155) / (300 : Int32)) = 3) → vp_in (V 33 i_134) 8) (hv6 : ∀ i_155 : Nat, i_155 < 1500 → ∀ i_134 : Nat, i_134 < ((V 29 3)).toNatClampNeg → ¬ (((nI i_155) / (300 : Int32)) = 0) → ¬ (((nI i_155) / (300 : Int32)) = 1) → ¬ (((nI i_155) / (300 : Int32)) = 2) → ¬ (((nI i_155) / (300 : Int32)) = 3) → vp_in (nI i_134) 20) (hv7 : ∀ i_155 : Nat, i_155 < 1500 → ∀ i_134 : Nat, i_134 < ((V 29 3)).toNatClampNeg → ¬ (((nI i_155) / (300 : Int32)) = 0) → ¬ (((nI i_155) / (300 : Int32)) = 1) → ¬ (((nI i_155) / (300 : Int32)) = 2) → ¬ (((nI i_155) / (300 : Int32)) = 3) → vp_in (V 33 i_134) 8) (h : K (some (.int (vl_155_33 i3 i4 V a0))) V) :
    ab_J G (ac_ST L xs) l (d + 4) 155 33 [some (.ref 0), none, some (.int a0), some (.int i3), some (.int i4), some (.int (0 : Int32))] [] ac_SK V ac_SK K := by
  obtain ⟨n, hn, hm, hN⟩ : ∃ n : Nat, (1500 : Int32) = nI n ∧ n ≤ 1500 ∧ n = 1500 := ⟨1500, by decide +kernel, Nat.le_refl _, rfl⟩
  have hvl : vl_155_33 i3 i4 V a0 = (match fe (fun (i_155 : Nat) (a_155 : Int32) => ((if (va_134 (nI i_155) i3 i4 V) = 0 then .inl a_155 else (if a_155 = 0 then .inr (nI i_155) else .inl (a_155 + (-1)))) : Int32 ⊕ Int32)) n a0 with
  | .inl a_155 => (-1 : Int32)
  | .inr b => b) := by
    subst hN
    rfl
  rw [hvl] at h
  have hlt : ∀ i_155, i_155 < n → i_155 < 1500 := fun i_155 q => by omega
  refine zz_fe (fun (i_155 : Nat) (a_155 : Int32) => ((if (va_134 (nI i_155) i3 i4 V) = 0 then .inl a_155 else (if a_155 = 0 then .inr (nI i_155) else .inl (a_155 + (-1)))) : Int32 ⊕ Int32)) (fun i_155 a_155 => ab_J G (ac_ST L xs) l (d + 4) 155 33 [some (.ref 0), none, some (.int a_155), some (.int i3), some (.int i4), some (.int (nI i_155))] [] ac_SK V ac_SK K) (fun b => K (some (.int b)) V) n a0 ?_ ?_ ?_
  · intro a_155 hfo
    rw [hfo] at h
    refine iv_155_33 ⟨fun q => absurd q (zz_ge hn), fun _ => ?_⟩
    subst hN
    exact h
  · intro i_155 a_155 hi hfe hnx hex
    have e : (nI i_155).toNatClampNeg = i_155 := zz_ix (by omega)
    rw [nI_succ] at hnx
    refine iv_155_33 ⟨fun _ => ?_, fun q => absurd (zz_gl hn hi (by omega)) q⟩
    try simp only [e, ac_zs0, ac_zs1]
    refine sp_134 hp1 (by first | exact (hv1 i_155 (hlt i_155 hi)) | (simp only [e]; exact (hv1 i_155 (hlt i_155 hi))) | (simp only [hN]; exact (hv1 i_155 (hlt i_155 hi)))) (by first | exact (hv2 i_155 (hlt i_155 hi)) | (simp only [e]; exact (hv2 i_155 (hlt i_155 hi))) | (simp only [hN]; exact (hv2 i_155 (hlt i_155 hi)))) (by first | exact (hv3 i_155 (hlt i_155 hi)) | (simp only [e]; exact (hv3 i_155 (hlt i_155 hi))) | (simp only [hN]; exact (hv3 i_155 (hlt i_155 hi)))) (by first | exact (hv4 i_155 (hlt i_155 hi)) | (simp only [e]; exact (hv4 i_155 (hlt i_155 hi))) | (simp only [hN]; exact (hv4 i_155 (hlt i_155 hi)))) (by first | exact (hv5 i_155 (hlt i_155 hi)) | (simp only [e]; exact (hv5 i_155 (hlt i_155 hi))) | (simp only [hN]; exact (hv5 i_155 (hlt i_155 hi)))) (by first | exact (hv6 i_155 (hlt i_155 hi)) | (simp only [e]; exact (hv6 i_155 (hlt i_155 hi))) | (simp only [hN]; exact (hv6 i_155 (hlt i_155 hi)))) (by first | exact (hv7 i_155 (hlt i_155 hi)) | (simp only [e]; exact (hv7 i_155 (hlt i_155 hi))) | (simp only [hN]; exact (hv7 i_155 (hlt i_155 hi)))) (fun hb1 => ?_)
    dsimp only [aa_rI, aa_rL]
    refine ⟨fun c2 => ?_, fun c2 => ?_⟩
    · exact hnx _ ((if_pos c2).trans rfl)
    · refine ⟨fun c3 => ?_, fun c3 => ?_⟩
      · exact hex _ ((if_neg c2).trans ((if_pos c3).trans rfl))
      · exact hnx _ ((if_neg c2).trans ((if_neg c3).trans rfl))
  · intro b hb
    rw [hb] at h
    exact h

def va_155 (i1 : Int32) (V : aa_V) : Int32 := (if i1 < 0 then (-1 : Int32) else (vl_155_33 (va_129 (V 0 13) V) (va_130 (va_129 (V 0 13) V) V) V i1))
set_option maxRecDepth 20000 in
/-- FrameCounty form -/
theorem sp_155 {G : ab_G} {L : Nat} {xs : Nat → Int32} {l : Launch} {d : Nat} {i1 : Int32} {V : aa_V} {K : aa_K} (hw1 : zb (V 29 3) 20) (hw2 : zb (V 29 3) 1000000000) (hw3 : ∀ i_155 : Nat, i_155 < 1500 → ∀ i_134 : Nat, i_134 < ((V 29 3)).toNatClampNeg → (((nI i_155) / (300 : Int32)) = 0) → vp_in (nI i_134) 20) (hw4 : ∀ i_155 : Nat, i_155 < 1500 → ∀ i_134 : Nat, i_134 < ((V 29 3)).toNatClampNeg → ¬ (((nI i_155) / (300 : Int32)) = 0) → (((nI i_155) / (300 : Int32)) = 1) → vp_in (nI i_134) 20) (hw5 : ∀ i_155 : Nat, i_155 < 1500 → ∀ i_134 : Nat, i_134 < ((V 29 3)).toNatClampNeg → ¬ (((nI i_155) / (300 : Int32)) = 0) → ¬ (((nI i_155) / (300 : Int32)) = 1) → (((nI i_155) / (300 : Int32)) = 2) → vp_in (nI i_134) 20) (hw6 : ∀ i_155 : Nat, i_155 < 1500 → ∀ i_134 : Nat, i_134 < ((V 29 3)).toNatClampNeg → ¬ (((nI i_155) / (300 : Int32)) = 0) → ¬ (((nI i_155) / (300 : Int32)) = 1) → ¬ (((nI i_155) / (300 : Int32)) = 2) → (((nI i_155) / (300 : Int32)) = 3) → vp_in (nI i_134) 20) (hw7 : ∀ i_155 : Nat, i_155 < 1500 → ∀ i_134 : Nat, i_134 < ((V 29 3)).toNatClampNeg → ¬ (((nI i_155) / (300 : Int32)) = 0) → ¬ (((nI i_155) / (300 : Int32)) = 1) → ¬ (((nI i_155) / (300 : Int32)) = 2) → (((nI i_155) / (300 : Int32)) = 3) → vp_in (V 33 i_134) 8) (hw8 : ∀ i_155 : Nat, i_155 < 1500 → ∀ i_134 : Nat, i_134 < ((V 29 3)).toNatClampNeg → ¬ (((nI i_155) / (300 : Int32)) = 0) → ¬ (((nI i_155) / (300 : Int32)) = 1) → ¬ (((nI i_155) / (300 : Int32)) = 2) → ¬ (((nI i_155) / (300 : Int32)) = 3) → vp_in (nI i_134) 20) (hw9 : ∀ i_155 : Nat, i_155 < 1500 → ∀ i_134 : Nat, i_134 < ((V 29 3)).toNatClampNeg → ¬ (((nI i_155) / (300 : Int32)) = 0) → ¬ (((nI i_155) / (300 : Int32)) = 1) → ¬ (((nI i_155) / (300 : Int32)) = 2) → ¬ (((nI i_155) / (300 : Int32)) = 3) → vp_in (V 33 i_134) 8) (h : K (some (.int (va_155 i1 V))) V) :
    ab_E G (ac_ST L xs) l (d + 4) ac_SK 155 [.ref 0, .int i1] V K := by
  rw [va_155] at h
  refine iv_155_0 ?_
  refine ⟨fun g1 => ?_, fun g1 => ?_⟩
  · simp only [if_pos g1] at h
    exact h
  · refine sp_129 hw1 ?_
    dsimp only [aa_rI, aa_rL, aa_rV]
    refine sp_130 hw1 ?_
    dsimp only [aa_rI, aa_rL, aa_rV]
    simp only [if_neg g1] at h
    exact lo_155_33 hw2 hw3 hw4 hw5 hw6 hw7 hw8 hw9 h

def va_159 (i1 : Int32) (i2 : Int32) (i3 : Int32) (i4 : Int32) (V : aa_V) : Int32 := (if i1 < (0 : Int32) then (-2 : Int32) else (if ((V 42 2) - (1 : Int32)) < i1 then (-2 : Int32) else (if i2 < (0 : Int32) then (-2 : Int32) else (if (7 : Int32) < i2 then (-2 : Int32) else (if i4 < (0 : Int32) then (-2 : Int32) else (if (V 0 13) < i4 then (-2 : Int32) else (if i3 < 0 then (-2 : Int32) else (if (i3 / (100 : Int32)) < (0 : Int32) then (-2 : Int32) else (if (399 : Int32) < (i3 / (100 : Int32)) then (-2 : Int32) else (if (i3 - i3 / (100 : Int32) * (100 : Int32)) < (0 : Int32) then (-2 : Int32) else (if (11 : Int32) < (i3 - i3 / (100 : Int32) * (100 : Int32)) then (-2 : Int32) else (if (va_87 i1 i2 (i3 / (100 : Int32)) (i3 - i3 / (100 : Int32) * (100 : Int32)) i4 V) = 0 then (0 : Int32) else (1 : Int32)))))))))))))
set_option maxRecDepth 20000 in
/-- FrameCounty canBe -/
theorem sp_159 {G : ab_G} {L : Nat} {xs : Nat → Int32} {l : Launch} {d : Nat} {i1 : Int32} {i2 : Int32} {i3 : Int32} {i4 : Int32} {V : aa_V} {K : aa_K} (hw1 : ¬ (i1 < (0 : Int32)) → ¬ (((V 42 2) - (1 : Int32)) < i1) → ¬ (i2 < (0 : Int32)) → ¬ ((7 : Int32) < i2) → ¬ (i4 < (0 : Int32)) → ¬ ((V 0 13) < i4) → ¬ (i3 < 0) → ¬ ((i3 / (100 : Int32)) < (0 : Int32)) → ¬ ((399 : Int32) < (i3 / (100 : Int32))) → ¬ ((i3 - i3 / (100 : Int32) * (100 : Int32)) < (0 : Int32)) → ¬ ((11 : Int32) < (i3 - i3 / (100 : Int32) * (100 : Int32))) → vp_in i1 12) (hw2 : ¬ (i1 < (0 : Int32)) → ¬ (((V 42 2) - (1 : Int32)) < i1) → ¬ (i2 < (0 : Int32)) → ¬ ((7 : Int32) < i2) → ¬ (i4 < (0 : Int32)) → ¬ ((V 0 13) < i4) → ¬ (i3 < 0) → ¬ ((i3 / (100 : Int32)) < (0 : Int32)) → ¬ ((399 : Int32) < (i3 / (100 : Int32))) → ¬ ((i3 - i3 / (100 : Int32) * (100 : Int32)) < (0 : Int32)) → ¬ ((11 : Int32) < (i3 - i3 / (100 : Int32) * (100 : Int32))) → (((i3 / (100 : Int32)) - (i3 / (100 : Int32)) / (30 : Int32) * (30 : Int32)) < (8 : Int32)) → vp_in (V 43 ((i1).toNatClampNeg)) 8) (hw3 : ¬ (i1 < (0 : Int32)) → ¬ (((V 42 2) - (1 : Int32)) < i1) → ¬ (i2 < (0 : Int32)) → ¬ ((7 : Int32) < i2) → ¬ (i4 < (0 : Int32)) → ¬ ((V 0 13) < i4) → ¬ (i3 < 0) → ¬ ((i3 / (100 : Int32)) < (0 : Int32)) → ¬ ((399 : Int32) < (i3 / (100 : Int32))) → ¬ ((i3 - i3 / (100 : Int32) * (100 : Int32)) < (0 : Int32)) → ¬ ((11 : Int32) < (i3 - i3 / (100 : Int32) * (100 : Int32))) → (((i3 / (100 : Int32)) - (i3 / (100 : Int32)) / (30 : Int32) * (30 : Int32)) < (8 : Int32)) → vp_in i2 8) (hw4 : ¬ (i1 < (0 : Int32)) → ¬ (((V 42 2) - (1 : Int32)) < i1) → ¬ (i2 < (0 : Int32)) → ¬ ((7 : Int32) < i2) → ¬ (i4 < (0 : Int32)) → ¬ ((V 0 13) < i4) → ¬ (i3 < 0) → ¬ ((i3 / (100 : Int32)) < (0 : Int32)) → ¬ ((399 : Int32) < (i3 / (100 : Int32))) → ¬ ((i3 - i3 / (100 : Int32) * (100 : Int32)) < (0 : Int32)) → ¬ ((11 : Int32) < (i3 - i3 / (100 : Int32) * (100 : Int32))) → ¬ (((i3 / (100 : Int32)) - (i3 / (100 : Int32)) / (30 : Int32) * (30 : Int32)) < (8 : Int32)) → ((22 : Int32) < ((i3 / (100 : Int32)) - (i3 / (100 : Int32)) / (30 : Int32) * (30 : Int32))) → vp_in (V 43 ((i1).toNatClampNeg)) 8) (hw5 : ¬ (i1 < (0 : Int32)) → ¬ (((V 42 2) - (1 : Int32)) < i1) → ¬ (i2 < (0 : Int32)) → ¬ ((7 : Int32) < i2) → ¬ (i4 < (0 : Int32)) → ¬ ((V 0 13) < i4) → ¬ (i3 < 0) → ¬ ((i3 / (100 : Int32)) < (0 : Int32)) → ¬ ((399 : Int32) < (i3 / (100 : Int32))) → ¬ ((i3 - i3 / (100 : Int32) * (100 : Int32)) < (0 : Int32)) → ¬ ((11 : Int32) < (i3 - i3 / (100 : Int32) * (100 : Int32))) → ¬ (((i3 / (100 : Int32)) - (i3 / (100 : Int32)) / (30 : Int32) * (30 : Int32)) < (8 : Int32)) → ((22 : Int32) < ((i3 / (100 : Int32)) - (i3 / (100 : Int32)) / (30 : Int32) * (30 : Int32))) → vp_in i2 8) (hw6 : ¬ (i1 < (0 : Int32)) → ¬ (((V 42 2) - (1 : Int32)) < i1) → ¬ (i2 < (0 : Int32)) → ¬ ((7 : Int32) < i2) → ¬ (i4 < (0 : Int32)) → ¬ ((V 0 13) < i4) → ¬ (i3 < 0) → ¬ ((i3 / (100 : Int32)) < (0 : Int32)) → ¬ ((399 : Int32) < (i3 / (100 : Int32))) → ¬ ((i3 - i3 / (100 : Int32) * (100 : Int32)) < (0 : Int32)) → ¬ ((11 : Int32) < (i3 - i3 / (100 : Int32) * (100 : Int32))) → ¬ (((i3 / (100 : Int32)) - (i3 / (100 : Int32)) / (30 : Int32) * (30 : Int32)) < (8 : Int32)) → ¬ ((22 : Int32) < ((i3 / (100 : Int32)) - (i3 / (100 : Int32)) / (30 : Int32) * (30 : Int32))) → vp_in (V 43 ((i1).toNatClampNeg)) 8) (hw7 : ¬ (i1 < (0 : Int32)) → ¬ (((V 42 2) - (1 : Int32)) < i1) → ¬ (i2 < (0 : Int32)) → ¬ ((7 : Int32) < i2) → ¬ (i4 < (0 : Int32)) → ¬ ((V 0 13) < i4) → ¬ (i3 < 0) → ¬ ((i3 / (100 : Int32)) < (0 : Int32)) → ¬ ((399 : Int32) < (i3 / (100 : Int32))) → ¬ ((i3 - i3 / (100 : Int32) * (100 : Int32)) < (0 : Int32)) → ¬ ((11 : Int32) < (i3 - i3 / (100 : Int32) * (100 : Int32))) → ¬ (((i3 / (100 : Int32)) - (i3 / (100 : Int32)) / (30 : Int32) * (30 : Int32)) < (8 : Int32)) → ¬ ((22 : Int32) < ((i3 / (100 : Int32)) - (i3 / (100 : Int32)) / (30 : Int32) * (30 : Int32))) → vp_in i2 8) (hw8 : zb (V 42 4) 40) (hw9 : ∀ i_87 : Nat, i_87 < ((V 42 4)).toNatClampNeg → (((i3 / (100 : Int32)) - (i3 / (100 : Int32)) / (30 : Int32) * (30 : Int32)) < (8 : Int32)) → vp_in (V 45 i_87) 8) (hw10 : ∀ i_87 : Nat, i_87 < ((V 42 4)).toNatClampNeg → ¬ (((i3 / (100 : Int32)) - (i3 / (100 : Int32)) / (30 : Int32) * (30 : Int32)) < (8 : Int32)) → ((22 : Int32) < ((i3 / (100 : Int32)) - (i3 / (100 : Int32)) / (30 : Int32) * (30 : Int32))) → vp_in (V 45 i_87) 8) (hw11 : ∀ i_87 : Nat, i_87 < ((V 42 4)).toNatClampNeg → ¬ (((i3 / (100 : Int32)) - (i3 / (100 : Int32)) / (30 : Int32) * (30 : Int32)) < (8 : Int32)) → ¬ ((22 : Int32) < ((i3 / (100 : Int32)) - (i3 / (100 : Int32)) / (30 : Int32) * (30 : Int32))) → vp_in (V 45 i_87) 8) (h : K (some (.int (va_159 i1 i2 i3 i4 V))) V) :
    ab_E G (ac_ST L xs) l (d + 4) ac_SK 159 [.ref 0, .int i1, .int i2, .int i3, .int i4] V K := by
  rw [va_159] at h
  refine iv_159_0 ?_
  refine ⟨fun g1 => ?_, fun g1 => ?_⟩
  · simp only [if_pos g1] at h
    exact h
  · refine ⟨fun g2 => ?_, fun g2 => ?_⟩
    · simp only [if_neg g1, if_pos g2] at h
      exact h
    · refine ⟨fun g3 => ?_, fun g3 => ?_⟩
      · simp only [if_neg g1, if_neg g2, if_pos g3] at h
        exact h
      · refine ⟨fun g4 => ?_, fun g4 => ?_⟩
        · simp only [if_neg g1, if_neg g2, if_neg g3, if_pos g4] at h
          exact h
        · refine ⟨fun g5 => ?_, fun g5 => ?_⟩
          · simp only [if_neg g1, if_neg g2, if_neg g3, if_neg g4, if_pos g5] at h
            exact h
          · refine ⟨fun g6 => ?_, fun g6 => ?_⟩
            · simp only [if_neg g1, if_neg g2, if_neg g3, if_neg g4, if_neg g5, if_pos g6] at h
              exact h
            · refine ⟨fun g7 => ?_, fun g7 => ?_⟩
              · simp only [if_neg g1, if_neg g2, if_neg g3, if_neg g4, if_neg g5, if_neg g6, if_pos g7] at h
                exact h
              · refine ⟨by decide, ?_⟩
                refine ⟨by decide, ?_⟩
                refine ⟨fun g8 => ?_, fun g8 => ?_⟩
                · simp only [if_neg g1, if_neg g2, if_neg g3, if_neg g4, if_neg g5, if_neg g6, if_neg g7, if_pos g8] at h
                  exact h
                · refine ⟨fun g9 => ?_, fun g9 => ?_⟩
                  · simp only [if_neg g1, if_neg g2, if_neg g3, if_neg g4, if_neg g5, if_neg g6, if_neg g7, if_neg g8, if_pos g9] at h
                    exact h
                  · refine ⟨fun g10 => ?_, fun g10 => ?_⟩
                    · simp only [if_neg g1, if_neg g2, if_neg g3, if_neg g4, if_neg g5, if_neg g6, if_neg g7, if_neg g8, if_neg g9, if_pos g10] at h
                      exact h
                    · refine ⟨fun g11 => ?_, fun g11 => ?_⟩
                      · simp only [if_neg g1, if_neg g2, if_neg g3, if_neg g4, if_neg g5, if_neg g6, if_neg g7, if_neg g8, if_neg g9, if_neg g10, if_pos g11] at h
                        exact h
                      · refine sp_87 (hw1 g1 g2 g3 g4 g5 g6 g7 g8 g9 g10 g11) (hw2 g1 g2 g3 g4 g5 g6 g7 g8 g9 g10 g11) (hw3 g1 g2 g3 g4 g5 g6 g7 g8 g9 g10 g11) (hw4 g1 g2 g3 g4 g5 g6 g7 g8 g9 g10 g11) (hw5 g1 g2 g3 g4 g5 g6 g7 g8 g9 g10 g11) (hw6 g1 g2 g3 g4 g5 g6 g7 g8 g9 g10 g11) (hw7 g1 g2 g3 g4 g5 g6 g7 g8 g9 g10 g11) hw8 hw9 hw10 hw11 (fun hb12 => ?_)
                        dsimp only [aa_rI, aa_rL, aa_rV]
                        refine ⟨fun g13 => ?_, fun g13 => ?_⟩
                        · simp only [if_neg g1, if_neg g2, if_neg g3, if_neg g4, if_neg g5, if_neg g6, if_neg g7, if_neg g8, if_neg g9, if_neg g10, if_neg g11, if_pos g13] at h
                          exact h
                        · simp only [if_neg g1, if_neg g2, if_neg g3, if_neg g4, if_neg g5, if_neg g6, if_neg g7, if_neg g8, if_neg g9, if_neg g10, if_neg g11, if_neg g13] at h
                          exact h

def va_173 (i1 : Int32) (i2 : Int32) (V : aa_V) : Int32 := (if i1 < (-999 : Int32) then (-2 : Int32) else (if (999 : Int32) < i1 then (-2 : Int32) else (if i2 < (-999 : Int32) then (-2 : Int32) else (if (999 : Int32) < i2 then (-2 : Int32) else (va_5 i1 i2 V)))))
set_option maxRecDepth 20000 in
/-- FrameCounty offer -/
theorem sp_173 {G : ab_G} {L : Nat} {xs : Nat → Int32} {l : Launch} {d : Nat} {i1 : Int32} {i2 : Int32} {V : aa_V} {K : aa_K} (hw1 : zb ((1 : Int32) <<< ((V 60 0) &&& 31)) 1000000000) (hw2 : zb (V 60 0) 8) (hw3 : aa_sh ac_SK 61 = some (100, 8, [])) (hw4 : aa_sh ac_SK 62 = some (100, 8, [])) (h : K (some (.int (va_173 i1 i2 V))) V) :
    ab_E G (ac_ST L xs) l (d + 4) ac_SK 173 [.ref 0, .int i1, .int i2] V K := by
  rw [va_173] at h
  refine iv_173_0 ?_
  refine ⟨fun g1 => ?_, fun g1 => ?_⟩
  · simp only [if_pos g1] at h
    exact h
  · refine ⟨fun g2 => ?_, fun g2 => ?_⟩
    · simp only [if_neg g1, if_pos g2] at h
      exact h
    · refine ⟨fun g3 => ?_, fun g3 => ?_⟩
      · simp only [if_neg g1, if_neg g2, if_pos g3] at h
        exact h
      · refine ⟨fun g4 => ?_, fun g4 => ?_⟩
        · simp only [if_neg g1, if_neg g2, if_neg g3, if_pos g4] at h
          exact h
        · refine sp_5 hw1 hw2 hw3 hw4 ?_
          dsimp only [aa_rI, aa_rL, aa_rV]
          simp only [if_neg g1, if_neg g2, if_neg g3, if_neg g4] at h
          exact h

def vl_190_6 (i1 : Int32) (i2 : Int32) (i3 : Int32) (V : aa_V) (a0 : Int32) : Int32 := ((fun (a_190 : Int32) => a_190) (fo (fun (i_190 : Nat) (a_190 : Int32) => ((if (va_53 i1 (V 30 i_190) i2 i3 V) = 0 then a_190 else (a_190 + 1)) : Int32)) ((V 29 0)).toNatClampNeg a0))
set_option maxRecDepth 20000 in
/-- FrameCounty shopsReached, the loop at 6 -/
theorem lo_190_6 {G : ab_G} {L : Nat} {xs : Nat → Int32} {l : Launch} {d : Nat} {i1 : Int32} {i2 : Int32} {i3 : Int32} {V : aa_V} {K : aa_K} {a0 : Int32} (hz : zb (V 29 0) 8) (hp1 : ∀ i_53 : Nat, i_53 < 8 → ((i3 - i3 / (30 : Int32) * (30 : Int32)) < (8 : Int32)) → vp_in (nI i_53) 8) (hp2 : ∀ i_53 : Nat, i_53 < 8 → ¬ ((i3 - i3 / (30 : Int32) * (30 : Int32)) < (8 : Int32)) → ((22 : Int32) < (i3 - i3 / (30 : Int32) * (30 : Int32))) → vp_in (nI i_53) 8) (hp3 : ∀ i_53 : Nat, i_53 < 8 → ¬ ((i3 - i3 / (30 : Int32) * (30 : Int32)) < (8 : Int32)) → ¬ ((22 : Int32) < (i3 - i3 / (30 : Int32) * (30 : Int32))) → vp_in (nI i_53) 8) (hv1 : ∀ i_190 : Nat, i_190 < ((V 29 0)).toNatClampNeg → ((i3 - i3 / (30 : Int32) * (30 : Int32)) < (8 : Int32)) → vp_in (V 30 i_190) 8) (hv2 : ∀ i_190 : Nat, i_190 < ((V 29 0)).toNatClampNeg → ¬ ((i3 - i3 / (30 : Int32) * (30 : Int32)) < (8 : Int32)) → ((22 : Int32) < (i3 - i3 / (30 : Int32) * (30 : Int32))) → vp_in (V 30 i_190) 8) (hv3 : ∀ i_190 : Nat, i_190 < ((V 29 0)).toNatClampNeg → ¬ ((i3 - i3 / (30 : Int32) * (30 : Int32)) < (8 : Int32)) → ¬ ((22 : Int32) < (i3 - i3 / (30 : Int32) * (30 : Int32))) → vp_in (V 30 i_190) 8) (h : K (some (.int (vl_190_6 i1 i2 i3 V a0))) V) :
    ab_J G (ac_ST L xs) l (d + 4) 190 6 [some (.ref 0), some (.int i1), some (.int i2), some (.int i3), some (.int a0), some (.int (0 : Int32))] [] ac_SK V ac_SK K := by
  obtain ⟨n, hn, hm⟩ : ∃ n : Nat, (V 29 0) = nI n ∧ n ≤ 8 := ⟨_, hz.1, hz.2⟩
  have hN : ((V 29 0)).toNatClampNeg = n := by rw [hn]; exact zz_ix (by omega)
  rw [vl_190_6] at h
  rw [hN] at h
  try simp only [hN] at hv1
  try simp only [hN] at hv2
  try simp only [hN] at hv3
  refine zz_fo (fun (i_190 : Nat) (a_190 : Int32) => ((if (va_53 i1 (V 30 i_190) i2 i3 V) = 0 then a_190 else (a_190 + 1)) : Int32)) (fun i_190 a_190 => ab_J G (ac_ST L xs) l (d + 4) 190 6 [some (.ref 0), some (.int i1), some (.int i2), some (.int i3), some (.int a_190), some (.int (nI i_190))] [] ac_SK V ac_SK K) n a0 ?_ ?_
  · refine iv_190_6 ⟨fun q => absurd q (zz_ge hn), fun _ => ?_⟩
    try dsimp only at h
    generalize hfo : fo (fun (i_190 : Nat) (a_190 : Int32) => ((if (va_53 i1 (V 30 i_190) i2 i3 V) = 0 then a_190 else (a_190 + 1)) : Int32)) n a0 = a_190 at h ⊢
    exact h
  · intro i_190 hi ih
    have e : (nI i_190).toNatClampNeg = i_190 := zz_ix (by omega)
    rw [fo_s, nI_succ] at ih
    refine iv_190_6 ⟨fun _ => ?_, fun q => absurd (zz_gl hn hi (by omega)) q⟩
    try simp only [e, ac_zs0, ac_zs1]
    refine ⟨vp_in_nI (by omega) (by decide), ?_⟩
    refine sp_53 (by first | exact (hv1 i_190 hi) | (simp only [e]; exact (hv1 i_190 hi)) | (simp only [hN]; exact (hv1 i_190 hi))) (by first | exact (hv2 i_190 hi) | (simp only [e]; exact (hv2 i_190 hi)) | (simp only [hN]; exact (hv2 i_190 hi))) (by first | exact (hv3 i_190 hi) | (simp only [e]; exact (hv3 i_190 hi)) | (simp only [hN]; exact (hv3 i_190 hi))) hp1 hp2 hp3 (fun hb1 => ?_)
    dsimp only [aa_rI, aa_rL]
    refine ⟨fun c2 => ?_, fun c2 => ?_⟩
    · rw [if_pos c2] at ih
      exact ih
    · rw [if_neg c2] at ih
      exact ih

def va_190 (i1 : Int32) (i2 : Int32) (i3 : Int32) (V : aa_V) : Int32 := (vl_190_6 i1 i2 i3 V (0 : Int32))
set_option maxRecDepth 20000 in
/-- FrameCounty shopsReached -/
theorem sp_190 {G : ab_G} {L : Nat} {xs : Nat → Int32} {l : Launch} {d : Nat} {i1 : Int32} {i2 : Int32} {i3 : Int32} {V : aa_V} {K : aa_K} (hw1 : zb (V 29 0) 8) (hw2 : ∀ i_53 : Nat, i_53 < 8 → ((i3 - i3 / (30 : Int32) * (30 : Int32)) < (8 : Int32)) → vp_in (nI i_53) 8) (hw3 : ∀ i_53 : Nat, i_53 < 8 → ¬ ((i3 - i3 / (30 : Int32) * (30 : Int32)) < (8 : Int32)) → ((22 : Int32) < (i3 - i3 / (30 : Int32) * (30 : Int32))) → vp_in (nI i_53) 8) (hw4 : ∀ i_53 : Nat, i_53 < 8 → ¬ ((i3 - i3 / (30 : Int32) * (30 : Int32)) < (8 : Int32)) → ¬ ((22 : Int32) < (i3 - i3 / (30 : Int32) * (30 : Int32))) → vp_in (nI i_53) 8) (hw5 : ∀ i_190 : Nat, i_190 < ((V 29 0)).toNatClampNeg → ((i3 - i3 / (30 : Int32) * (30 : Int32)) < (8 : Int32)) → vp_in (V 30 i_190) 8) (hw6 : ∀ i_190 : Nat, i_190 < ((V 29 0)).toNatClampNeg → ¬ ((i3 - i3 / (30 : Int32) * (30 : Int32)) < (8 : Int32)) → ((22 : Int32) < (i3 - i3 / (30 : Int32) * (30 : Int32))) → vp_in (V 30 i_190) 8) (hw7 : ∀ i_190 : Nat, i_190 < ((V 29 0)).toNatClampNeg → ¬ ((i3 - i3 / (30 : Int32) * (30 : Int32)) < (8 : Int32)) → ¬ ((22 : Int32) < (i3 - i3 / (30 : Int32) * (30 : Int32))) → vp_in (V 30 i_190) 8) (h : K (some (.int (va_190 i1 i2 i3 V))) V) :
    ab_E G (ac_ST L xs) l (d + 4) ac_SK 190 [.ref 0, .int i1, .int i2, .int i3] V K := by
  rw [va_190] at h
  refine iv_190_0 ?_
  exact lo_190_6 hw1 hw2 hw3 hw4 hw5 hw6 hw7 h

def va_234 (i1 : Int32) (V : aa_V) : Int32 := (if i1 = 0 then (va_232 V) else (if i1 = (1 : Int32) then (va_233 V) else (-2 : Int32)))
set_option maxRecDepth 20000 in
/-- FrameCountyModel pattern -/
theorem sp_234 {G : ab_G} {L : Nat} {xs : Nat → Int32} {l : Launch} {d : Nat} {i1 : Int32} {V : aa_V} {K : aa_K} (hw1 : zb (V 105 12) 20) (hw2 : ∀ i_233 : Nat, i_233 < ((V 105 12)).toNatClampNeg → ∀ a_231 : Int32, fo (fun (i_231 : Nat) (a_231 : Int32) => ((if a_231 = 0 then (if (V 111 i_231) = (V 111 i_233) then (if (V 114 i_231) = (1 : Int32) then (if (V 115 i_231) = (V 105 2) then (1 : Int32) else (0 : Int32)) else (0 : Int32)) else (0 : Int32)) else (1 : Int32)) : Int32)) ((V 105 12)).toNatClampNeg (0 : Int32) = a_231 → aa_bit a_231) (h : K (some (.int (va_234 i1 V))) V) :
    ab_E G (ac_ST L xs) l (d + 4) ac_SK 234 [.ref 105, .int i1] V K := by
  rw [va_234] at h
  refine iv_234_0 ?_
  refine ⟨fun g1 => ?_, fun g1 => ?_⟩
  · refine sp_232 hw1 ?_
    dsimp only [aa_rI, aa_rL, aa_rV]
    simp only [if_pos g1] at h
    exact h
  · refine ⟨fun g3 => ?_, fun g3 => ?_⟩
    · refine sp_233 hw1 hw2 ?_
      dsimp only [aa_rI, aa_rL, aa_rV]
      simp only [if_neg g1, if_pos g3] at h
      exact h
    · simp only [if_neg g1, if_neg g3] at h
      exact h

