/-! pure methods as functions, 1: printed by den.py -/

def vl_216_18 (l1 : Int64) (i3 : Int32) (V : aa_V) (a0 : Unit) : Int32 := (match fe (fun (i_216 : Nat) (a_216 : Unit) => ((if (lg_cmp ((V 116 ((((V 105 27) + (nI i_216))).toNatClampNeg)).toInt64) ((l1 >>> (((8 : Int32) * ((i3 - (1 : Int32)) - (nI i_216))).toInt64 &&& 63)) &&& (255 : Int64))) = 0 then .inl () else .inr (0 : Int32)) : Unit ⊕ Int32)) (i3).toNatClampNeg a0 with
  | .inl a_216 => (1 : Int32)
  | .inr b => b)
set_option maxRecDepth 20000 in
/-- FrameCountyModel isWord, the loop at 18 -/
theorem lo_216_18 {G : ab_G} {L : Nat} {xs : Nat → Int32} {l : Launch} {d : Nat} {l1 : Int64} {i3 : Int32} {V : aa_V} {K : aa_K} {a0 : Unit} (hz : zb i3 1000000000) (hv1 : ∀ i_216 : Nat, i_216 < (i3).toNatClampNeg → vp_in ((V 105 27) + (nI i_216)) 160) (h : aa_bit (vl_216_18 l1 i3 V a0) → K (some (.int (vl_216_18 l1 i3 V a0))) V) :
    ab_J G (ac_ST L xs) l (d + 1) 216 18 [some (.ref 105), some (.long l1), none, some (.int i3), some (.int (0 : Int32))] [] ac_SK V ac_SK K := by
  obtain ⟨n, hn, hm⟩ : ∃ n : Nat, i3 = nI n ∧ n ≤ 1000000000 := ⟨_, hz.1, hz.2⟩
  have hN : (i3).toNatClampNeg = n := by rw [hn]; exact zz_ix (by omega)
  rw [vl_216_18] at h
  rw [hN] at h
  try simp only [hN] at hv1
  refine zz_fe (fun (i_216 : Nat) (a_216 : Unit) => ((if (lg_cmp ((V 116 ((((V 105 27) + (nI i_216))).toNatClampNeg)).toInt64) ((l1 >>> (((8 : Int32) * ((i3 - (1 : Int32)) - (nI i_216))).toInt64 &&& 63)) &&& (255 : Int64))) = 0 then .inl () else .inr (0 : Int32)) : Unit ⊕ Int32)) (fun i_216 a_216 => ab_J G (ac_ST L xs) l (d + 1) 216 18 [some (.ref 105), some (.long l1), none, some (.int i3), some (.int (nI i_216))] [] ac_SK V ac_SK K) (fun b => aa_bit b → K (some (.int b)) V) n a0 ?_ ?_ ?_
  · intro a_216 hfo
    rw [hfo] at h
    refine iv_216_18 ⟨fun q => absurd q (zz_ge hn), fun _ => ?_⟩
    exact h (Or.inr rfl)
  · intro i_216 a_216 hi hfe hnx hex
    have e : (nI i_216).toNatClampNeg = i_216 := zz_ix (by omega)
    rw [nI_succ] at hnx
    refine iv_216_18 ⟨fun _ => ?_, fun q => absurd (zz_gl hn hi (by omega)) q⟩
    try simp only [e, ac_zs0, ac_zs1]
    refine ⟨(hv1 i_216 hi), ?_⟩
    refine ⟨fun c1 => ?_, fun c1 => ?_⟩
    · exact hnx _ ((if_pos c1).trans rfl)
    · exact hex _ ((if_neg c1).trans rfl) (Or.inl rfl)
  · intro b hb
    rw [hb] at h
    exact h

def va_216 (l1 : Int64) (i3 : Int32) (V : aa_V) : Int32 := (if ((V 105 22) - (V 105 27)) = i3 then (vl_216_18 l1 i3 V ()) else (0 : Int32))
set_option maxRecDepth 20000 in
/-- FrameCountyModel isWord -/
theorem sp_216 {G : ab_G} {L : Nat} {xs : Nat → Int32} {l : Launch} {d : Nat} {l1 : Int64} {i3 : Int32} {V : aa_V} {K : aa_K} (hw1 : zb i3 1000000000) (hw2 : ∀ i_216 : Nat, i_216 < (i3).toNatClampNeg → vp_in ((V 105 27) + (nI i_216)) 160) (h : aa_bit (va_216 l1 i3 V) → K (some (.int (va_216 l1 i3 V))) V) :
    ab_E G (ac_ST L xs) l (d + 1) ac_SK 216 [.ref 105, .long l1, .int i3] V K := by
  rw [va_216] at h
  refine iv_216_0 ?_
  refine ⟨fun g1 => ?_, fun g1 => ?_⟩
  · simp only [if_pos g1] at h
    exact lo_216_18 hw1 hw2 h
  · simp only [if_neg g1] at h
    exact h (Or.inl rfl)

def va_226 (i0 : Int32) (i1 : Int32) (i2 : Int32) (V : aa_V) : Int32 := (if i0 = 2 then (if i1 = 0 then (if i2 = 0 then (0 : Int32) else (1 : Int32)) else (1 : Int32)) else (if i0 = 3 then (if i1 = 0 then (0 : Int32) else (if i2 = 0 then (0 : Int32) else (1 : Int32))) else (if i0 = 5 then (if i1 < i2 then (1 : Int32) else (0 : Int32)) else (if i0 = 6 then (if i1 = i2 then (1 : Int32) else (0 : Int32)) else (if i0 = 7 then (i1 + i2) else (if i0 = 8 then (i1 - i2) else (i1 * i2)))))))
set_option maxRecDepth 20000 in
/-- FrameCountyModel worked -/
theorem sp_226 {G : ab_G} {L : Nat} {xs : Nat → Int32} {l : Launch} {d : Nat} {i0 : Int32} {i1 : Int32} {i2 : Int32} {V : aa_V} {K : aa_K} (h : K (some (.int (va_226 i0 i1 i2 V))) V) :
    ab_E G (ac_ST L xs) l (d + 1) ac_SK 226 [.int i0, .int i1, .int i2] V K := by
  rw [va_226] at h
  refine iv_226_0 ?_
  refine ⟨fun g1 => ?_, fun g1 => ?_⟩
  · refine ⟨fun g2 => ?_, fun g2 => ?_⟩
    · refine ⟨fun g3 => ?_, fun g3 => ?_⟩
      · simp only [if_pos g1, if_pos g2, if_pos g3] at h
        exact h
      · simp only [if_pos g1, if_pos g2, if_neg g3] at h
        exact h
    · simp only [if_pos g1, if_neg g2] at h
      exact h
  · refine ⟨fun g4 => ?_, fun g4 => ?_⟩
    · refine ⟨fun g5 => ?_, fun g5 => ?_⟩
      · simp only [if_neg g1, if_pos g4, if_pos g5] at h
        exact h
      · refine ⟨fun g6 => ?_, fun g6 => ?_⟩
        · simp only [if_neg g1, if_pos g4, if_neg g5, if_pos g6] at h
          exact h
        · simp only [if_neg g1, if_pos g4, if_neg g5, if_neg g6] at h
          exact h
    · refine ⟨fun g7 => ?_, fun g7 => ?_⟩
      · refine ⟨fun g8 => ?_, fun g8 => ?_⟩
        · simp only [if_neg g1, if_neg g4, if_pos g7, if_pos g8] at h
          exact h
        · simp only [if_neg g1, if_neg g4, if_pos g7, if_neg g8] at h
          exact h
      · refine ⟨fun g9 => ?_, fun g9 => ?_⟩
        · refine ⟨fun g10 => ?_, fun g10 => ?_⟩
          · simp only [if_neg g1, if_neg g4, if_neg g7, if_pos g9, if_pos g10] at h
            exact h
          · simp only [if_neg g1, if_neg g4, if_neg g7, if_pos g9, if_neg g10] at h
            exact h
        · refine ⟨fun g11 => ?_, fun g11 => ?_⟩
          · simp only [if_neg g1, if_neg g4, if_neg g7, if_neg g9, if_pos g11] at h
            exact h
          · refine ⟨fun g12 => ?_, fun g12 => ?_⟩
            · simp only [if_neg g1, if_neg g4, if_neg g7, if_neg g9, if_neg g11, if_pos g12] at h
              exact h
            · simp only [if_neg g1, if_neg g4, if_neg g7, if_neg g9, if_neg g11, if_neg g12] at h
              exact h

def va_235 (i1 : Int32) (i2 : Int32) (V : aa_V) : Int32 := (if (i1 / (300 : Int32)) = 0 then (if ((i1 / (100 : Int32)) - (i1 / (100 : Int32)) / (3 : Int32) * (3 : Int32)) = 0 then (if (V 112 ((i2).toNatClampNeg)) < (i1 - i1 / (100 : Int32) * (100 : Int32)) then (1 : Int32) else (0 : Int32)) else (if ((i1 / (100 : Int32)) - (i1 / (100 : Int32)) / (3 : Int32) * (3 : Int32)) = (1 : Int32) then (if (V 112 ((i2).toNatClampNeg)) = (i1 - i1 / (100 : Int32) * (100 : Int32)) then (1 : Int32) else (0 : Int32)) else (if (i1 - i1 / (100 : Int32) * (100 : Int32)) < (V 112 ((i2).toNatClampNeg)) then (1 : Int32) else (0 : Int32)))) else (if (i1 / (300 : Int32)) = (1 : Int32) then (if ((i1 / (100 : Int32)) - (i1 / (100 : Int32)) / (3 : Int32) * (3 : Int32)) = 0 then (if (V 113 ((i2).toNatClampNeg)) < (i1 - i1 / (100 : Int32) * (100 : Int32)) then (1 : Int32) else (0 : Int32)) else (if ((i1 / (100 : Int32)) - (i1 / (100 : Int32)) / (3 : Int32) * (3 : Int32)) = (1 : Int32) then (if (V 113 ((i2).toNatClampNeg)) = (i1 - i1 / (100 : Int32) * (100 : Int32)) then (1 : Int32) else (0 : Int32)) else (if (i1 - i1 / (100 : Int32) * (100 : Int32)) < (V 113 ((i2).toNatClampNeg)) then (1 : Int32) else (0 : Int32)))) else (if (i1 / (300 : Int32)) = (2 : Int32) then (if ((i1 / (100 : Int32)) - (i1 / (100 : Int32)) / (3 : Int32) * (3 : Int32)) = 0 then (if (V 110 ((i2).toNatClampNeg)) < (i1 - i1 / (100 : Int32) * (100 : Int32)) then (1 : Int32) else (0 : Int32)) else (if ((i1 / (100 : Int32)) - (i1 / (100 : Int32)) / (3 : Int32) * (3 : Int32)) = (1 : Int32) then (if (V 110 ((i2).toNatClampNeg)) = (i1 - i1 / (100 : Int32) * (100 : Int32)) then (1 : Int32) else (0 : Int32)) else (if (i1 - i1 / (100 : Int32) * (100 : Int32)) < (V 110 ((i2).toNatClampNeg)) then (1 : Int32) else (0 : Int32)))) else (if (i1 / (300 : Int32)) = (3 : Int32) then (if ((i1 / (100 : Int32)) - (i1 / (100 : Int32)) / (3 : Int32) * (3 : Int32)) = 0 then (if (V 109 (((V 111 ((i2).toNatClampNeg))).toNatClampNeg)) < (i1 - i1 / (100 : Int32) * (100 : Int32)) then (1 : Int32) else (0 : Int32)) else (if ((i1 / (100 : Int32)) - (i1 / (100 : Int32)) / (3 : Int32) * (3 : Int32)) = (1 : Int32) then (if (V 109 (((V 111 ((i2).toNatClampNeg))).toNatClampNeg)) = (i1 - i1 / (100 : Int32) * (100 : Int32)) then (1 : Int32) else (0 : Int32)) else (if (i1 - i1 / (100 : Int32) * (100 : Int32)) < (V 109 (((V 111 ((i2).toNatClampNeg))).toNatClampNeg)) then (1 : Int32) else (0 : Int32)))) else (if ((i1 / (100 : Int32)) - (i1 / (100 : Int32)) / (3 : Int32) * (3 : Int32)) = 0 then (if (V 108 (((V 111 ((i2).toNatClampNeg))).toNatClampNeg)) < (i1 - i1 / (100 : Int32) * (100 : Int32)) then (1 : Int32) else (0 : Int32)) else (if ((i1 / (100 : Int32)) - (i1 / (100 : Int32)) / (3 : Int32) * (3 : Int32)) = (1 : Int32) then (if (V 108 (((V 111 ((i2).toNatClampNeg))).toNatClampNeg)) = (i1 - i1 / (100 : Int32) * (100 : Int32)) then (1 : Int32) else (0 : Int32)) else (if (i1 - i1 / (100 : Int32) * (100 : Int32)) < (V 108 (((V 111 ((i2).toNatClampNeg))).toNatClampNeg)) then (1 : Int32) else (0 : Int32))))))))
set_option maxRecDepth 20000 in
/-- FrameCountyModel fits -/
theorem sp_235 {G : ab_G} {L : Nat} {xs : Nat → Int32} {l : Launch} {d : Nat} {i1 : Int32} {i2 : Int32} {V : aa_V} {K : aa_K} (hw1 : ((i1 / (300 : Int32)) = 0) → vp_in i2 20) (hw2 : ¬ ((i1 / (300 : Int32)) = 0) → ((i1 / (300 : Int32)) = (1 : Int32)) → vp_in i2 20) (hw3 : ¬ ((i1 / (300 : Int32)) = 0) → ¬ ((i1 / (300 : Int32)) = (1 : Int32)) → ((i1 / (300 : Int32)) = (2 : Int32)) → vp_in i2 20) (hw4 : ¬ ((i1 / (300 : Int32)) = 0) → ¬ ((i1 / (300 : Int32)) = (1 : Int32)) → ¬ ((i1 / (300 : Int32)) = (2 : Int32)) → ((i1 / (300 : Int32)) = (3 : Int32)) → vp_in i2 20) (hw5 : ¬ ((i1 / (300 : Int32)) = 0) → ¬ ((i1 / (300 : Int32)) = (1 : Int32)) → ¬ ((i1 / (300 : Int32)) = (2 : Int32)) → ((i1 / (300 : Int32)) = (3 : Int32)) → vp_in (V 111 ((i2).toNatClampNeg)) 8) (hw6 : ¬ ((i1 / (300 : Int32)) = 0) → ¬ ((i1 / (300 : Int32)) = (1 : Int32)) → ¬ ((i1 / (300 : Int32)) = (2 : Int32)) → ¬ ((i1 / (300 : Int32)) = (3 : Int32)) → vp_in i2 20) (hw7 : ¬ ((i1 / (300 : Int32)) = 0) → ¬ ((i1 / (300 : Int32)) = (1 : Int32)) → ¬ ((i1 / (300 : Int32)) = (2 : Int32)) → ¬ ((i1 / (300 : Int32)) = (3 : Int32)) → vp_in (V 111 ((i2).toNatClampNeg)) 8) (h : aa_bit (va_235 i1 i2 V) → K (some (.int (va_235 i1 i2 V))) V) :
    ab_E G (ac_ST L xs) l (d + 1) ac_SK 235 [.ref 105, .int i1, .int i2] V K := by
  rw [va_235] at h
  refine iv_235_0 ?_
  refine ⟨by decide, ?_⟩
  refine ⟨fun g1 => ?_, fun g1 => ?_⟩
  · refine ⟨(hw1 g1), ?_⟩
    refine ⟨by decide, ?_⟩
    refine ⟨by decide, ?_⟩
    refine ⟨fun g2 => ?_, fun g2 => ?_⟩
    · refine ⟨by decide, ?_⟩
      refine ⟨fun g3 => ?_, fun g3 => ?_⟩
      · simp only [if_pos g1, if_pos g2, if_pos g3] at h
        exact h (Or.inr rfl)
      · simp only [if_pos g1, if_pos g2, if_neg g3] at h
        exact h (Or.inl rfl)
    · refine ⟨fun g4 => ?_, fun g4 => ?_⟩
      · refine ⟨by decide, ?_⟩
        refine ⟨fun g5 => ?_, fun g5 => ?_⟩
        · simp only [if_pos g1, if_neg g2, if_pos g4, if_pos g5] at h
          exact h (Or.inr rfl)
        · simp only [if_pos g1, if_neg g2, if_pos g4, if_neg g5] at h
          exact h (Or.inl rfl)
      · refine ⟨by decide, ?_⟩
        refine ⟨fun g6 => ?_, fun g6 => ?_⟩
        · simp only [if_pos g1, if_neg g2, if_neg g4, if_pos g6] at h
          exact h (Or.inr rfl)
        · simp only [if_pos g1, if_neg g2, if_neg g4, if_neg g6] at h
          exact h (Or.inl rfl)
  · refine ⟨by decide, ?_⟩
    refine ⟨fun g7 => ?_, fun g7 => ?_⟩
    · refine ⟨(hw2 g1 g7), ?_⟩
      refine ⟨by decide, ?_⟩
      refine ⟨by decide, ?_⟩
      refine ⟨fun g8 => ?_, fun g8 => ?_⟩
      · refine ⟨by decide, ?_⟩
        refine ⟨fun g9 => ?_, fun g9 => ?_⟩
        · simp only [if_neg g1, if_pos g7, if_pos g8, if_pos g9] at h
          exact h (Or.inr rfl)
        · simp only [if_neg g1, if_pos g7, if_pos g8, if_neg g9] at h
          exact h (Or.inl rfl)
      · refine ⟨fun g10 => ?_, fun g10 => ?_⟩
        · refine ⟨by decide, ?_⟩
          refine ⟨fun g11 => ?_, fun g11 => ?_⟩
          · simp only [if_neg g1, if_pos g7, if_neg g8, if_pos g10, if_pos g11] at h
            exact h (Or.inr rfl)
          · simp only [if_neg g1, if_pos g7, if_neg g8, if_pos g10, if_neg g11] at h
            exact h (Or.inl rfl)
        · refine ⟨by decide, ?_⟩
          refine ⟨fun g12 => ?_, fun g12 => ?_⟩
          · simp only [if_neg g1, if_pos g7, if_neg g8, if_neg g10, if_pos g12] at h
            exact h (Or.inr rfl)
          · simp only [if_neg g1, if_pos g7, if_neg g8, if_neg g10, if_neg g12] at h
            exact h (Or.inl rfl)
    · refine ⟨by decide, ?_⟩
      refine ⟨fun g13 => ?_, fun g13 => ?_⟩
      · refine ⟨(hw3 g1 g7 g13), ?_⟩
        refine ⟨by decide, ?_⟩
        refine ⟨by decide, ?_⟩
        refine ⟨fun g14 => ?_, fun g14 => ?_⟩
        · refine ⟨by decide, ?_⟩
          refine ⟨fun g15 => ?_, fun g15 => ?_⟩
          · simp only [if_neg g1, if_neg g7, if_pos g13, if_pos g14, if_pos g15] at h
            exact h (Or.inr rfl)
          · simp only [if_neg g1, if_neg g7, if_pos g13, if_pos g14, if_neg g15] at h
            exact h (Or.inl rfl)
        · refine ⟨fun g16 => ?_, fun g16 => ?_⟩
          · refine ⟨by decide, ?_⟩
            refine ⟨fun g17 => ?_, fun g17 => ?_⟩
            · simp only [if_neg g1, if_neg g7, if_pos g13, if_neg g14, if_pos g16, if_pos g17] at h
              exact h (Or.inr rfl)
            · simp only [if_neg g1, if_neg g7, if_pos g13, if_neg g14, if_pos g16, if_neg g17] at h
              exact h (Or.inl rfl)
          · refine ⟨by decide, ?_⟩
            refine ⟨fun g18 => ?_, fun g18 => ?_⟩
            · simp only [if_neg g1, if_neg g7, if_pos g13, if_neg g14, if_neg g16, if_pos g18] at h
              exact h (Or.inr rfl)
            · simp only [if_neg g1, if_neg g7, if_pos g13, if_neg g14, if_neg g16, if_neg g18] at h
              exact h (Or.inl rfl)
      · refine ⟨by decide, ?_⟩
        refine ⟨fun g19 => ?_, fun g19 => ?_⟩
        · refine ⟨(hw4 g1 g7 g13 g19), ?_⟩
          refine ⟨(hw5 g1 g7 g13 g19), ?_⟩
          refine ⟨by decide, ?_⟩
          refine ⟨by decide, ?_⟩
          refine ⟨fun g20 => ?_, fun g20 => ?_⟩
          · refine ⟨by decide, ?_⟩
            refine ⟨fun g21 => ?_, fun g21 => ?_⟩
            · simp only [if_neg g1, if_neg g7, if_neg g13, if_pos g19, if_pos g20, if_pos g21] at h
              exact h (Or.inr rfl)
            · simp only [if_neg g1, if_neg g7, if_neg g13, if_pos g19, if_pos g20, if_neg g21] at h
              exact h (Or.inl rfl)
          · refine ⟨fun g22 => ?_, fun g22 => ?_⟩
            · refine ⟨by decide, ?_⟩
              refine ⟨fun g23 => ?_, fun g23 => ?_⟩
              · simp only [if_neg g1, if_neg g7, if_neg g13, if_pos g19, if_neg g20, if_pos g22, if_pos g23] at h
                exact h (Or.inr rfl)
              · simp only [if_neg g1, if_neg g7, if_neg g13, if_pos g19, if_neg g20, if_pos g22, if_neg g23] at h
                exact h (Or.inl rfl)
            · refine ⟨by decide, ?_⟩
              refine ⟨fun g24 => ?_, fun g24 => ?_⟩
              · simp only [if_neg g1, if_neg g7, if_neg g13, if_pos g19, if_neg g20, if_neg g22, if_pos g24] at h
                exact h (Or.inr rfl)
              · simp only [if_neg g1, if_neg g7, if_neg g13, if_pos g19, if_neg g20, if_neg g22, if_neg g24] at h
                exact h (Or.inl rfl)
        · refine ⟨(hw6 g1 g7 g13 g19), ?_⟩
          refine ⟨(hw7 g1 g7 g13 g19), ?_⟩
          refine ⟨by decide, ?_⟩
          refine ⟨by decide, ?_⟩
          refine ⟨fun g25 => ?_, fun g25 => ?_⟩
          · refine ⟨by decide, ?_⟩
            refine ⟨fun g26 => ?_, fun g26 => ?_⟩
            · simp only [if_neg g1, if_neg g7, if_neg g13, if_neg g19, if_pos g25, if_pos g26] at h
              exact h (Or.inr rfl)
            · simp only [if_neg g1, if_neg g7, if_neg g13, if_neg g19, if_pos g25, if_neg g26] at h
              exact h (Or.inl rfl)
          · refine ⟨fun g27 => ?_, fun g27 => ?_⟩
            · refine ⟨by decide, ?_⟩
              refine ⟨fun g28 => ?_, fun g28 => ?_⟩
              · simp only [if_neg g1, if_neg g7, if_neg g13, if_neg g19, if_neg g25, if_pos g27, if_pos g28] at h
                exact h (Or.inr rfl)
              · simp only [if_neg g1, if_neg g7, if_neg g13, if_neg g19, if_neg g25, if_pos g27, if_neg g28] at h
                exact h (Or.inl rfl)
            · refine ⟨by decide, ?_⟩
              refine ⟨fun g29 => ?_, fun g29 => ?_⟩
              · simp only [if_neg g1, if_neg g7, if_neg g13, if_neg g19, if_neg g25, if_neg g27, if_pos g29] at h
                exact h (Or.inr rfl)
              · simp only [if_neg g1, if_neg g7, if_neg g13, if_neg g19, if_neg g25, if_neg g27, if_neg g29] at h
                exact h (Or.inl rfl)

def vl_259_5 (i2 : Int32) (V : aa_V) (a0 : Int32) : Int32 := ((fun (a_259 : Int32) => a_259) (fo (fun (i_259 : Nat) (a_259 : Int32) => ((if i2 < (V 140 (((V 141 i_259)).toNatClampNeg)) then a_259 else (if (((a_259 >>> ((V 138 (((V 141 i_259)).toNatClampNeg)) &&& 31)) ||| (a_259 >>> ((V 139 (((V 141 i_259)).toNatClampNeg)) &&& 31))) &&& (1 : Int32)) = (1 : Int32) then (a_259 ||| (((1 : Int32) <<< ((V 138 (((V 141 i_259)).toNatClampNeg)) &&& 31)) ||| ((1 : Int32) <<< ((V 139 (((V 141 i_259)).toNatClampNeg)) &&& 31)))) else a_259)) : Int32)) ((V 105 54)).toNatClampNeg a0))
set_option maxRecDepth 20000 in
/-- FrameCountyModel swornBy, the loop at 5 -/
theorem lo_259_5 {G : ab_G} {L : Nat} {xs : Nat → Int32} {l : Launch} {d : Nat} {i2 : Int32} {V : aa_V} {K : aa_K} {a0 : Int32} (hz : zb (V 105 54) 40) (hv1 : ∀ i_259 : Nat, i_259 < ((V 105 54)).toNatClampNeg → vp_in (V 141 i_259) 40) (h : K (some (.int (vl_259_5 i2 V a0))) V) :
    ab_J G (ac_ST L xs) l (d + 1) 259 5 [some (.ref 105), none, some (.int i2), some (.int a0), some (.int (0 : Int32)), none] [] ac_SK V ac_SK K := by
  obtain ⟨n, hn, hm⟩ : ∃ n : Nat, (V 105 54) = nI n ∧ n ≤ 40 := ⟨_, hz.1, hz.2⟩
  have hN : ((V 105 54)).toNatClampNeg = n := by rw [hn]; exact zz_ix (by omega)
  rw [vl_259_5] at h
  rw [hN] at h
  try simp only [hN] at hv1
  refine zz_fo (fun (i_259 : Nat) (a_259 : Int32) => ((if i2 < (V 140 (((V 141 i_259)).toNatClampNeg)) then a_259 else (if (((a_259 >>> ((V 138 (((V 141 i_259)).toNatClampNeg)) &&& 31)) ||| (a_259 >>> ((V 139 (((V 141 i_259)).toNatClampNeg)) &&& 31))) &&& (1 : Int32)) = (1 : Int32) then (a_259 ||| (((1 : Int32) <<< ((V 138 (((V 141 i_259)).toNatClampNeg)) &&& 31)) ||| ((1 : Int32) <<< ((V 139 (((V 141 i_259)).toNatClampNeg)) &&& 31)))) else a_259)) : Int32)) (fun i_259 a_259 => ab_J G (ac_ST L xs) l (d + 1) 259 5 [some (.ref 105), none, some (.int i2), some (.int a_259), some (.int (nI i_259)), none] [] ac_SK V ac_SK K) n a0 ?_ ?_
  · refine iv_259_5 ⟨fun q => absurd q (zz_ge hn), fun _ => ?_⟩
    try dsimp only at h
    generalize hfo : fo (fun (i_259 : Nat) (a_259 : Int32) => ((if i2 < (V 140 (((V 141 i_259)).toNatClampNeg)) then a_259 else (if (((a_259 >>> ((V 138 (((V 141 i_259)).toNatClampNeg)) &&& 31)) ||| (a_259 >>> ((V 139 (((V 141 i_259)).toNatClampNeg)) &&& 31))) &&& (1 : Int32)) = (1 : Int32) then (a_259 ||| (((1 : Int32) <<< ((V 138 (((V 141 i_259)).toNatClampNeg)) &&& 31)) ||| ((1 : Int32) <<< ((V 139 (((V 141 i_259)).toNatClampNeg)) &&& 31)))) else a_259)) : Int32)) n a0 = a_259 at h ⊢
    exact h
  · intro i_259 hi ih
    have e : (nI i_259).toNatClampNeg = i_259 := zz_ix (by omega)
    rw [fo_s, nI_succ] at ih
    refine iv_259_5 ⟨fun _ => ?_, fun q => absurd (zz_gl hn hi (by omega)) q⟩
    try simp only [e, ac_zs0, ac_zs1]
    refine ⟨vp_in_nI (by omega) (by decide), ?_⟩
    refine ⟨(hv1 i_259 hi), ?_⟩
    refine ⟨fun c1 => ?_, fun c1 => ?_⟩
    · rw [if_pos c1] at ih
      exact ih
    · refine ⟨(hv1 i_259 hi), ?_⟩
      refine ⟨(hv1 i_259 hi), ?_⟩
      refine ⟨fun c2 => ?_, fun c2 => ?_⟩
      · refine ⟨(hv1 i_259 hi), ?_⟩
        refine ⟨(hv1 i_259 hi), ?_⟩
        rw [if_neg c1, if_pos c2] at ih
        exact ih
      · rw [if_neg c1, if_neg c2] at ih
        exact ih

def va_259 (i1 : Int32) (i2 : Int32) (V : aa_V) : Int32 := (vl_259_5 i2 V i1)
set_option maxRecDepth 20000 in
/-- FrameCountyModel swornBy -/
theorem sp_259 {G : ab_G} {L : Nat} {xs : Nat → Int32} {l : Launch} {d : Nat} {i1 : Int32} {i2 : Int32} {V : aa_V} {K : aa_K} (hw1 : zb (V 105 54) 40) (hw2 : ∀ i_259 : Nat, i_259 < ((V 105 54)).toNatClampNeg → vp_in (V 141 i_259) 40) (h : K (some (.int (va_259 i1 i2 V))) V) :
    ab_E G (ac_ST L xs) l (d + 1) ac_SK 259 [.ref 105, .int i1, .int i2] V K := by
  rw [va_259] at h
  refine iv_259_0 ?_
  exact lo_259_5 hw1 hw2 h

def vl_261_4 (i0 : Int32) (V : aa_V) (a0 : Int32) : Int32 := ((fun (a_261 : Int32) => a_261) (fo (fun (i_261 : Nat) (a_261 : Int32) => ((a_261 + ((i0 >>> ((nI i_261) &&& 31)) &&& (1 : Int32))) : Int32)) 31 a0))
set_option maxRecDepth 20000 in
/-- FrameCountyModel bits, the loop at 4 -/
theorem lo_261_4 {G : ab_G} {L : Nat} {xs : Nat → Int32} {l : Launch} {d : Nat} {i0 : Int32} {V : aa_V} {K : aa_K} {a0 : Int32} (h : K (some (.int (vl_261_4 i0 V a0))) V) :
    ab_J G (ac_ST L xs) l (d + 1) 261 4 [some (.int i0), some (.int a0), some (.int (0 : Int32))] [] ac_SK V ac_SK K := by
  obtain ⟨n, hn, hm, hN⟩ : ∃ n : Nat, (31 : Int32) = nI n ∧ n ≤ 31 ∧ n = 31 := ⟨31, by decide +kernel, Nat.le_refl _, rfl⟩
  have hvl : vl_261_4 i0 V a0 = ((fun (a_261 : Int32) => a_261) (fo (fun (i_261 : Nat) (a_261 : Int32) => ((a_261 + ((i0 >>> ((nI i_261) &&& 31)) &&& (1 : Int32))) : Int32)) n a0)) := by
    subst hN
    rfl
  rw [hvl] at h
  have hlt : ∀ i_261, i_261 < n → i_261 < 31 := fun i_261 q => by omega
  refine zz_fo (fun (i_261 : Nat) (a_261 : Int32) => ((a_261 + ((i0 >>> ((nI i_261) &&& 31)) &&& (1 : Int32))) : Int32)) (fun i_261 a_261 => ab_J G (ac_ST L xs) l (d + 1) 261 4 [some (.int i0), some (.int a_261), some (.int (nI i_261))] [] ac_SK V ac_SK K) n a0 ?_ ?_
  · refine iv_261_4 ⟨fun q => absurd q (zz_ge hn), fun _ => ?_⟩
    try dsimp only at h
    generalize hfo : fo (fun (i_261 : Nat) (a_261 : Int32) => ((a_261 + ((i0 >>> ((nI i_261) &&& 31)) &&& (1 : Int32))) : Int32)) n a0 = a_261 at h ⊢
    subst hN
    exact h
  · intro i_261 hi ih
    have e : (nI i_261).toNatClampNeg = i_261 := zz_ix (by omega)
    rw [fo_s, nI_succ] at ih
    refine iv_261_4 ⟨fun _ => ?_, fun q => absurd (zz_gl hn hi (by omega)) q⟩
    try simp only [e, ac_zs0, ac_zs1]
    skip
    exact ih

def va_261 (i0 : Int32) (V : aa_V) : Int32 := (vl_261_4 i0 V (0 : Int32))
set_option maxRecDepth 20000 in
/-- FrameCountyModel bits -/
theorem sp_261 {G : ab_G} {L : Nat} {xs : Nat → Int32} {l : Launch} {d : Nat} {i0 : Int32} {V : aa_V} {K : aa_K} (h : K (some (.int (va_261 i0 V))) V) :
    ab_E G (ac_ST L xs) l (d + 1) ac_SK 261 [.int i0] V K := by
  rw [va_261] at h
  refine iv_261_0 ?_
  exact lo_261_4  h

def vl_265_3 (i1 : Int32) (i2 : Int32) (i3 : Int32) (V : aa_V) (a0 : Unit) : Int32 := (match fe (fun (i_265 : Nat) (a_265 : Unit) => ((if ((i3 >>> ((nI i_265) &&& 31)) &&& (1 : Int32)) = (1 : Int32) then (if (V 107 (((((8 : Int32) * (nI i_265)) + i1)).toNatClampNeg)) < (99 : Int32) then (if i2 < (V 107 (((((8 : Int32) * (nI i_265)) + i1)).toNatClampNeg)) then .inl () else .inr (1 : Int32)) else .inl ()) else .inl ()) : Unit ⊕ Int32)) 8 a0 with
  | .inl a_265 => (0 : Int32)
  | .inr b => b)
set_option maxRecDepth 20000 in
/-- FrameCountyModel isReached, the loop at 3 -/
theorem lo_265_3 {G : ab_G} {L : Nat} {xs : Nat → Int32} {l : Launch} {d : Nat} {i1 : Int32} {i2 : Int32} {i3 : Int32} {V : aa_V} {K : aa_K} {a0 : Unit} (hv1 : ∀ i_265 : Nat, i_265 < 8 → vp_in (((8 : Int32) * (nI i_265)) + i1) 64) (h : aa_bit (vl_265_3 i1 i2 i3 V a0) → K (some (.int (vl_265_3 i1 i2 i3 V a0))) V) :
    ab_J G (ac_ST L xs) l (d + 1) 265 3 [some (.ref 105), some (.int i1), some (.int i2), some (.int i3), some (.int (0 : Int32))] [] ac_SK V ac_SK K := by
  obtain ⟨n, hn, hm, hN⟩ : ∃ n : Nat, (8 : Int32) = nI n ∧ n ≤ 8 ∧ n = 8 := ⟨8, by decide +kernel, Nat.le_refl _, rfl⟩
  have hvl : vl_265_3 i1 i2 i3 V a0 = (match fe (fun (i_265 : Nat) (a_265 : Unit) => ((if ((i3 >>> ((nI i_265) &&& 31)) &&& (1 : Int32)) = (1 : Int32) then (if (V 107 (((((8 : Int32) * (nI i_265)) + i1)).toNatClampNeg)) < (99 : Int32) then (if i2 < (V 107 (((((8 : Int32) * (nI i_265)) + i1)).toNatClampNeg)) then .inl () else .inr (1 : Int32)) else .inl ()) else .inl ()) : Unit ⊕ Int32)) n a0 with
  | .inl a_265 => (0 : Int32)
  | .inr b => b) := by
    subst hN
    rfl
  rw [hvl] at h
  have hlt : ∀ i_265, i_265 < n → i_265 < 8 := fun i_265 q => by omega
  refine zz_fe (fun (i_265 : Nat) (a_265 : Unit) => ((if ((i3 >>> ((nI i_265) &&& 31)) &&& (1 : Int32)) = (1 : Int32) then (if (V 107 (((((8 : Int32) * (nI i_265)) + i1)).toNatClampNeg)) < (99 : Int32) then (if i2 < (V 107 (((((8 : Int32) * (nI i_265)) + i1)).toNatClampNeg)) then .inl () else .inr (1 : Int32)) else .inl ()) else .inl ()) : Unit ⊕ Int32)) (fun i_265 a_265 => ab_J G (ac_ST L xs) l (d + 1) 265 3 [some (.ref 105), some (.int i1), some (.int i2), some (.int i3), some (.int (nI i_265))] [] ac_SK V ac_SK K) (fun b => aa_bit b → K (some (.int b)) V) n a0 ?_ ?_ ?_
  · intro a_265 hfo
    rw [hfo] at h
    refine iv_265_3 ⟨fun q => absurd q (zz_ge hn), fun _ => ?_⟩
    subst hN
    exact h (Or.inl rfl)
  · intro i_265 a_265 hi hfe hnx hex
    have e : (nI i_265).toNatClampNeg = i_265 := zz_ix (by omega)
    rw [nI_succ] at hnx
    refine iv_265_3 ⟨fun _ => ?_, fun q => absurd (zz_gl hn hi (by omega)) q⟩
    try simp only [e, ac_zs0, ac_zs1]
    refine ⟨fun c1 => ?_, fun c1 => ?_⟩
    · refine ⟨(hv1 i_265 (hlt i_265 hi)), ?_⟩
      refine ⟨fun c2 => ?_, fun c2 => ?_⟩
      · refine ⟨(hv1 i_265 (hlt i_265 hi)), ?_⟩
        refine ⟨fun c3 => ?_, fun c3 => ?_⟩
        · exact hnx _ ((if_pos c1).trans ((if_pos c2).trans ((if_pos c3).trans rfl)))
        · exact hex _ ((if_pos c1).trans ((if_pos c2).trans ((if_neg c3).trans rfl))) (Or.inr rfl)
      · exact hnx _ ((if_pos c1).trans ((if_neg c2).trans rfl))
    · exact hnx _ ((if_neg c1).trans rfl)
  · intro b hb
    rw [hb] at h
    exact h

def va_265 (i1 : Int32) (i2 : Int32) (i3 : Int32) (V : aa_V) : Int32 := (vl_265_3 i1 i2 i3 V ())
set_option maxRecDepth 20000 in
/-- FrameCountyModel isReached -/
theorem sp_265 {G : ab_G} {L : Nat} {xs : Nat → Int32} {l : Launch} {d : Nat} {i1 : Int32} {i2 : Int32} {i3 : Int32} {V : aa_V} {K : aa_K} (hw1 : ∀ i_265 : Nat, i_265 < 8 → vp_in (((8 : Int32) * (nI i_265)) + i1) 64) (h : aa_bit (va_265 i1 i2 i3 V) → K (some (.int (va_265 i1 i2 i3 V))) V) :
    ab_E G (ac_ST L xs) l (d + 1) ac_SK 265 [.ref 105, .int i1, .int i2, .int i3] V K := by
  rw [va_265] at h
  refine iv_265_0 ?_
  exact lo_265_3 hw1 h

def vl_270_4 (i0 : Int32) (V : aa_V) (a0 : Int32) : Int32 := ((fun (a_270 : Int32) => a_270) (fo (fun (i_270 : Nat) (a_270 : Int32) => ((a_270 * (3 : Int32)) : Int32)) (i0).toNatClampNeg a0))
set_option maxRecDepth 20000 in
/-- FrameCountyModel three, the loop at 4 -/
theorem lo_270_4 {G : ab_G} {L : Nat} {xs : Nat → Int32} {l : Launch} {d : Nat} {i0 : Int32} {V : aa_V} {K : aa_K} {a0 : Int32} (hz : zb i0 1000000000) (h : K (some (.int (vl_270_4 i0 V a0))) V) :
    ab_J G (ac_ST L xs) l (d + 1) 270 4 [some (.int i0), some (.int a0), some (.int (0 : Int32))] [] ac_SK V ac_SK K := by
  obtain ⟨n, hn, hm⟩ : ∃ n : Nat, i0 = nI n ∧ n ≤ 1000000000 := ⟨_, hz.1, hz.2⟩
  have hN : (i0).toNatClampNeg = n := by rw [hn]; exact zz_ix (by omega)
  rw [vl_270_4] at h
  rw [hN] at h
  refine zz_fo (fun (i_270 : Nat) (a_270 : Int32) => ((a_270 * (3 : Int32)) : Int32)) (fun i_270 a_270 => ab_J G (ac_ST L xs) l (d + 1) 270 4 [some (.int i0), some (.int a_270), some (.int (nI i_270))] [] ac_SK V ac_SK K) n a0 ?_ ?_
  · refine iv_270_4 ⟨fun q => absurd q (zz_ge hn), fun _ => ?_⟩
    try dsimp only at h
    generalize hfo : fo (fun (i_270 : Nat) (a_270 : Int32) => ((a_270 * (3 : Int32)) : Int32)) n a0 = a_270 at h ⊢
    exact h
  · intro i_270 hi ih
    have e : (nI i_270).toNatClampNeg = i_270 := zz_ix (by omega)
    rw [fo_s, nI_succ] at ih
    refine iv_270_4 ⟨fun _ => ?_, fun q => absurd (zz_gl hn hi (by omega)) q⟩
    try simp only [e, ac_zs0, ac_zs1]
    skip
    exact ih

def va_270 (i0 : Int32) (V : aa_V) : Int32 := (vl_270_4 i0 V (1 : Int32))
set_option maxRecDepth 20000 in
/-- FrameCountyModel three -/
theorem sp_270 {G : ab_G} {L : Nat} {xs : Nat → Int32} {l : Launch} {d : Nat} {i0 : Int32} {V : aa_V} {K : aa_K} (hw1 : zb i0 1000000000) (h : K (some (.int (va_270 i0 V))) V) :
    ab_E G (ac_ST L xs) l (d + 1) ac_SK 270 [.int i0] V K := by
  rw [va_270] at h
  refine iv_270_0 ?_
  exact lo_270_4 hw1 h

def vl_275_4 (i1 : Int32) (V : aa_V) (a0 : Int32) : Int32 := ((fun (a_275 : Int32) => a_275) (fo (fun (i_275 : Nat) (a_275 : Int32) => ((if (V 114 i_275) = i1 then (a_275 + (1 : Int32)) else (a_275 + (0 : Int32))) : Int32)) ((V 105 12)).toNatClampNeg a0))
set_option maxRecDepth 20000 in
/-- FrameCountyModel thatAre, the loop at 4 -/
theorem lo_275_4 {G : ab_G} {L : Nat} {xs : Nat → Int32} {l : Launch} {d : Nat} {i1 : Int32} {V : aa_V} {K : aa_K} {a0 : Int32} (hz : zb (V 105 12) 20) (h : K (some (.int (vl_275_4 i1 V a0))) V) :
    ab_J G (ac_ST L xs) l (d + 1) 275 4 [some (.ref 105), some (.int i1), some (.int a0), some (.int (0 : Int32))] [] ac_SK V ac_SK K := by
  obtain ⟨n, hn, hm⟩ : ∃ n : Nat, (V 105 12) = nI n ∧ n ≤ 20 := ⟨_, hz.1, hz.2⟩
  have hN : ((V 105 12)).toNatClampNeg = n := by rw [hn]; exact zz_ix (by omega)
  rw [vl_275_4] at h
  rw [hN] at h
  refine zz_fo (fun (i_275 : Nat) (a_275 : Int32) => ((if (V 114 i_275) = i1 then (a_275 + (1 : Int32)) else (a_275 + (0 : Int32))) : Int32)) (fun i_275 a_275 => ab_J G (ac_ST L xs) l (d + 1) 275 4 [some (.ref 105), some (.int i1), some (.int a_275), some (.int (nI i_275))] [] ac_SK V ac_SK K) n a0 ?_ ?_
  · refine iv_275_4 ⟨fun q => absurd q (zz_ge hn), fun _ => ?_⟩
    try dsimp only at h
    generalize hfo : fo (fun (i_275 : Nat) (a_275 : Int32) => ((if (V 114 i_275) = i1 then (a_275 + (1 : Int32)) else (a_275 + (0 : Int32))) : Int32)) n a0 = a_275 at h ⊢
    exact h
  · intro i_275 hi ih
    have e : (nI i_275).toNatClampNeg = i_275 := zz_ix (by omega)
    rw [fo_s, nI_succ] at ih
    refine iv_275_4 ⟨fun _ => ?_, fun q => absurd (zz_gl hn hi (by omega)) q⟩
    try simp only [e, ac_zs0, ac_zs1]
    refine ⟨vp_in_nI (by omega) (by decide), ?_⟩
    refine ⟨fun c1 => ?_, fun c1 => ?_⟩
    · rw [if_pos c1] at ih
      exact ih
    · rw [if_neg c1] at ih
      exact ih

def va_275 (i1 : Int32) (V : aa_V) : Int32 := (vl_275_4 i1 V (0 : Int32))
set_option maxRecDepth 20000 in
/-- FrameCountyModel thatAre -/
theorem sp_275 {G : ab_G} {L : Nat} {xs : Nat → Int32} {l : Launch} {d : Nat} {i1 : Int32} {V : aa_V} {K : aa_K} (hw1 : zb (V 105 12) 20) (h : K (some (.int (va_275 i1 V))) V) :
    ab_E G (ac_ST L xs) l (d + 1) ac_SK 275 [.ref 105, .int i1] V K := by
  rw [va_275] at h
  refine iv_275_0 ?_
  exact lo_275_4 hw1 h

def va_283 (i0 : Int32) (V : aa_V) : Int32 := (if i0 < (3 : Int32) then (if i0 = 0 then (-1 : Int32) else (0 : Int32)) else (if i0 = (4 : Int32) then (2 : Int32) else (1 : Int32)))
set_option maxRecDepth 20000 in
/-- FrameCountyModel parent -/
theorem sp_283 {G : ab_G} {L : Nat} {xs : Nat → Int32} {l : Launch} {d : Nat} {i0 : Int32} {V : aa_V} {K : aa_K} (h : K (some (.int (va_283 i0 V))) V) :
    ab_E G (ac_ST L xs) l (d + 1) ac_SK 283 [.int i0] V K := by
  rw [va_283] at h
  refine iv_283_0 ?_
  refine ⟨fun g1 => ?_, fun g1 => ?_⟩
  · refine ⟨fun g2 => ?_, fun g2 => ?_⟩
    · simp only [if_pos g1, if_pos g2] at h
      exact h
    · simp only [if_pos g1, if_neg g2] at h
      exact h
  · refine ⟨fun g3 => ?_, fun g3 => ?_⟩
    · simp only [if_neg g1, if_pos g3] at h
      exact h
    · simp only [if_neg g1, if_neg g3] at h
      exact h

def va_285 (i0 : Int32) (V : aa_V) : Int32 := ((((((((i0 - (((i0.toUInt32 >>> ((1 : Int32).toUInt32 &&& Int32.toUInt32 31)).toInt32) &&& (1431655765 : Int32))) &&& (858993459 : Int32)) + ((((i0 - (((i0.toUInt32 >>> ((1 : Int32).toUInt32 &&& Int32.toUInt32 31)).toInt32) &&& (1431655765 : Int32))).toUInt32 >>> ((2 : Int32).toUInt32 &&& Int32.toUInt32 31)).toInt32) &&& (858993459 : Int32))) + (((((i0 - (((i0.toUInt32 >>> ((1 : Int32).toUInt32 &&& Int32.toUInt32 31)).toInt32) &&& (1431655765 : Int32))) &&& (858993459 : Int32)) + ((((i0 - (((i0.toUInt32 >>> ((1 : Int32).toUInt32 &&& Int32.toUInt32 31)).toInt32) &&& (1431655765 : Int32))).toUInt32 >>> ((2 : Int32).toUInt32 &&& Int32.toUInt32 31)).toInt32) &&& (858993459 : Int32))).toUInt32 >>> ((4 : Int32).toUInt32 &&& Int32.toUInt32 31)).toInt32)) &&& (252645135 : Int32)) + (((((((i0 - (((i0.toUInt32 >>> ((1 : Int32).toUInt32 &&& Int32.toUInt32 31)).toInt32) &&& (1431655765 : Int32))) &&& (858993459 : Int32)) + ((((i0 - (((i0.toUInt32 >>> ((1 : Int32).toUInt32 &&& Int32.toUInt32 31)).toInt32) &&& (1431655765 : Int32))).toUInt32 >>> ((2 : Int32).toUInt32 &&& Int32.toUInt32 31)).toInt32) &&& (858993459 : Int32))) + (((((i0 - (((i0.toUInt32 >>> ((1 : Int32).toUInt32 &&& Int32.toUInt32 31)).toInt32) &&& (1431655765 : Int32))) &&& (858993459 : Int32)) + ((((i0 - (((i0.toUInt32 >>> ((1 : Int32).toUInt32 &&& Int32.toUInt32 31)).toInt32) &&& (1431655765 : Int32))).toUInt32 >>> ((2 : Int32).toUInt32 &&& Int32.toUInt32 31)).toInt32) &&& (858993459 : Int32))).toUInt32 >>> ((4 : Int32).toUInt32 &&& Int32.toUInt32 31)).toInt32)) &&& (252645135 : Int32)).toUInt32 >>> ((8 : Int32).toUInt32 &&& Int32.toUInt32 31)).toInt32)) + ((((((((i0 - (((i0.toUInt32 >>> ((1 : Int32).toUInt32 &&& Int32.toUInt32 31)).toInt32) &&& (1431655765 : Int32))) &&& (858993459 : Int32)) + ((((i0 - (((i0.toUInt32 >>> ((1 : Int32).toUInt32 &&& Int32.toUInt32 31)).toInt32) &&& (1431655765 : Int32))).toUInt32 >>> ((2 : Int32).toUInt32 &&& Int32.toUInt32 31)).toInt32) &&& (858993459 : Int32))) + (((((i0 - (((i0.toUInt32 >>> ((1 : Int32).toUInt32 &&& Int32.toUInt32 31)).toInt32) &&& (1431655765 : Int32))) &&& (858993459 : Int32)) + ((((i0 - (((i0.toUInt32 >>> ((1 : Int32).toUInt32 &&& Int32.toUInt32 31)).toInt32) &&& (1431655765 : Int32))).toUInt32 >>> ((2 : Int32).toUInt32 &&& Int32.toUInt32 31)).toInt32) &&& (858993459 : Int32))).toUInt32 >>> ((4 : Int32).toUInt32 &&& Int32.toUInt32 31)).toInt32)) &&& (252645135 : Int32)) + (((((((i0 - (((i0.toUInt32 >>> ((1 : Int32).toUInt32 &&& Int32.toUInt32 31)).toInt32) &&& (1431655765 : Int32))) &&& (858993459 : Int32)) + ((((i0 - (((i0.toUInt32 >>> ((1 : Int32).toUInt32 &&& Int32.toUInt32 31)).toInt32) &&& (1431655765 : Int32))).toUInt32 >>> ((2 : Int32).toUInt32 &&& Int32.toUInt32 31)).toInt32) &&& (858993459 : Int32))) + (((((i0 - (((i0.toUInt32 >>> ((1 : Int32).toUInt32 &&& Int32.toUInt32 31)).toInt32) &&& (1431655765 : Int32))) &&& (858993459 : Int32)) + ((((i0 - (((i0.toUInt32 >>> ((1 : Int32).toUInt32 &&& Int32.toUInt32 31)).toInt32) &&& (1431655765 : Int32))).toUInt32 >>> ((2 : Int32).toUInt32 &&& Int32.toUInt32 31)).toInt32) &&& (858993459 : Int32))).toUInt32 >>> ((4 : Int32).toUInt32 &&& Int32.toUInt32 31)).toInt32)) &&& (252645135 : Int32)).toUInt32 >>> ((8 : Int32).toUInt32 &&& Int32.toUInt32 31)).toInt32)).toUInt32 >>> ((16 : Int32).toUInt32 &&& Int32.toUInt32 31)).toInt32)) &&& (63 : Int32))
set_option maxRecDepth 20000 in
/-- java/lang/Integer bitCount -/
theorem sp_285 {G : ab_G} {L : Nat} {xs : Nat → Int32} {l : Launch} {d : Nat} {i0 : Int32} {V : aa_V} {K : aa_K} (h : K (some (.int (va_285 i0 V))) V) :
    ab_E G (ac_ST L xs) l (d + 1) ac_SK 285 [.int i0] V K := by
  rw [va_285] at h
  refine iv_285_0 ?_
  exact h

def va_6 (i1 : Int32) (i2 : Int32) (V : aa_V) : Int32 := (if ((va_8 62 i1 V) - (va_8 62 i2 V)) = 0 then (if ((va_8 61 i1 V) - (va_8 61 i2 V)) = 0 then (if 0 < ((va_285 i2 V) - (va_285 i1 V)) then (1 : Int32) else (0 : Int32)) else (if 0 < ((va_8 61 i1 V) - (va_8 61 i2 V)) then (1 : Int32) else (0 : Int32))) else (if 0 < ((va_8 62 i1 V) - (va_8 62 i2 V)) then (1 : Int32) else (0 : Int32)))
set_option maxRecDepth 20000 in
/-- FrameCounty$Bargain isBetter -/
theorem sp_6 {G : ab_G} {L : Nat} {xs : Nat → Int32} {l : Launch} {d : Nat} {i1 : Int32} {i2 : Int32} {V : aa_V} {K : aa_K} (hw1 : zb (V 60 0) 8) (hw2 : aa_sh ac_SK 62 = some (100, 8, [])) (hw3 : aa_sh ac_SK 61 = some (100, 8, [])) (h : aa_bit (va_6 i1 i2 V) → K (some (.int (va_6 i1 i2 V))) V) :
    ab_E G (ac_ST L xs) l (d + 2) ac_SK 6 [.ref 60, .int i1, .int i2] V K := by
  rw [va_6] at h
  refine iv_6_0 ?_
  refine sp_8 hw1 hw2 ?_
  dsimp only [aa_rI, aa_rL, aa_rV]
  refine sp_8 hw1 hw2 ?_
  dsimp only [aa_rI, aa_rL, aa_rV]
  refine ⟨fun g3 => ?_, fun g3 => ?_⟩
  · refine sp_8 hw1 hw3 ?_
    dsimp only [aa_rI, aa_rL, aa_rV]
    refine sp_8 hw1 hw3 ?_
    dsimp only [aa_rI, aa_rL, aa_rV]
    refine ⟨fun g6 => ?_, fun g6 => ?_⟩
    · refine sp_285  ?_
      dsimp only [aa_rI, aa_rL, aa_rV]
      refine sp_285  ?_
      dsimp only [aa_rI, aa_rL, aa_rV]
      refine ⟨fun g9 => ?_, fun g9 => ?_⟩
      · simp only [if_pos g3, if_pos g6, if_pos g9] at h
        exact h (Or.inr rfl)
      · simp only [if_pos g3, if_pos g6, if_neg g9] at h
        exact h (Or.inl rfl)
    · refine ⟨fun g10 => ?_, fun g10 => ?_⟩
      · simp only [if_pos g3, if_neg g6, if_pos g10] at h
        exact h (Or.inr rfl)
      · simp only [if_pos g3, if_neg g6, if_neg g10] at h
        exact h (Or.inl rfl)
  · refine ⟨fun q => absurd q g3, fun _ => ?_⟩
    refine ⟨fun g11 => ?_, fun g11 => ?_⟩
    · simp only [if_neg g3, if_pos g11] at h
      exact h (Or.inr rfl)
    · simp only [if_neg g3, if_neg g11] at h
      exact h (Or.inl rfl)

def vl_15_5 (i1 : Int32) (i2 : Int32) (V : aa_V) (a0 : Int32) : Int32 := ((fun (a_15 : Int32) => a_15) (fo (fun (i_15 : Nat) (a_15 : Int32) => ((if (V 58 i_15) = (-1 : Int32) then a_15 else (a_15 ||| ((va_13 ((1 : Int32) <<< (i1 &&& 31)) (V 58 i_15) V) &&& ((1 : Int32) <<< ((nI i_15) &&& 31))))) : Int32)) (i2).toNatClampNeg a0))
set_option maxRecDepth 20000 in
/-- FrameCounty$Oaths takersReachedFrom, the loop at 5 -/
theorem lo_15_5 {G : ab_G} {L : Nat} {xs : Nat → Int32} {l : Launch} {d : Nat} {i1 : Int32} {i2 : Int32} {V : aa_V} {K : aa_K} {a0 : Int32} (hz : zb i2 12) (hp1 : zb (V 54 0) 40) (h : K (some (.int (vl_15_5 i1 i2 V a0))) V) :
    ab_J G (ac_ST L xs) l (d + 2) 15 5 [some (.ref 54), some (.int i1), some (.int i2), some (.int a0), some (.int (0 : Int32))] [] ac_SK V ac_SK K := by
  obtain ⟨n, hn, hm⟩ : ∃ n : Nat, i2 = nI n ∧ n ≤ 12 := ⟨_, hz.1, hz.2⟩
  have hN : (i2).toNatClampNeg = n := by rw [hn]; exact zz_ix (by omega)
  rw [vl_15_5] at h
  rw [hN] at h
  refine zz_fo (fun (i_15 : Nat) (a_15 : Int32) => ((if (V 58 i_15) = (-1 : Int32) then a_15 else (a_15 ||| ((va_13 ((1 : Int32) <<< (i1 &&& 31)) (V 58 i_15) V) &&& ((1 : Int32) <<< ((nI i_15) &&& 31))))) : Int32)) (fun i_15 a_15 => ab_J G (ac_ST L xs) l (d + 2) 15 5 [some (.ref 54), some (.int i1), some (.int i2), some (.int a_15), some (.int (nI i_15))] [] ac_SK V ac_SK K) n a0 ?_ ?_
  · refine iv_15_5 ⟨fun q => absurd q (zz_ge hn), fun _ => ?_⟩
    try dsimp only at h
    generalize hfo : fo (fun (i_15 : Nat) (a_15 : Int32) => ((if (V 58 i_15) = (-1 : Int32) then a_15 else (a_15 ||| ((va_13 ((1 : Int32) <<< (i1 &&& 31)) (V 58 i_15) V) &&& ((1 : Int32) <<< ((nI i_15) &&& 31))))) : Int32)) n a0 = a_15 at h ⊢
    exact h
  · intro i_15 hi ih
    have e : (nI i_15).toNatClampNeg = i_15 := zz_ix (by omega)
    rw [fo_s, nI_succ] at ih
    refine iv_15_5 ⟨fun _ => ?_, fun q => absurd (zz_gl hn hi (by omega)) q⟩
    try simp only [e, ac_zs0, ac_zs1]
    refine ⟨vp_in_nI (by omega) (by decide), ?_⟩
    refine ⟨fun c1 => ?_, fun c1 => ?_⟩
    · rw [if_pos c1] at ih
      exact ih
    · refine ⟨vp_in_nI (by omega) (by decide), ?_⟩
      refine sp_13 hp1 ?_
      dsimp only [aa_rI, aa_rL]
      rw [if_neg c1] at ih
      exact ih

def va_15 (i1 : Int32) (i2 : Int32) (V : aa_V) : Int32 := (vl_15_5 i1 i2 V (0 : Int32))
set_option maxRecDepth 20000 in
/-- FrameCounty$Oaths takersReachedFrom -/
theorem sp_15 {G : ab_G} {L : Nat} {xs : Nat → Int32} {l : Launch} {d : Nat} {i1 : Int32} {i2 : Int32} {V : aa_V} {K : aa_K} (hw1 : zb i2 12) (hw2 : zb (V 54 0) 40) (h : K (some (.int (va_15 i1 i2 V))) V) :
    ab_E G (ac_ST L xs) l (d + 2) ac_SK 15 [.ref 54, .int i1, .int i2] V K := by
  rw [va_15] at h
  refine iv_15_0 ?_
  exact lo_15_5 hw1 hw2 h

def va_49 (i0 : Int32) (V : aa_V) : Int32 := (if i0 < (1 : Int32) then (if i0 = (99 : Int32) then (1 : Int32) else (0 : Int32)) else (if (9 : Int32) < i0 then (if i0 = (99 : Int32) then (1 : Int32) else (0 : Int32)) else (1 : Int32)))
set_option maxRecDepth 20000 in
/-- FrameCounty$Roads canTake -/
theorem sp_49 {G : ab_G} {L : Nat} {xs : Nat → Int32} {l : Launch} {d : Nat} {i0 : Int32} {V : aa_V} {K : aa_K} (h : aa_bit (va_49 i0 V) → K (some (.int (va_49 i0 V))) V) :
    ab_E G (ac_ST L xs) l (d + 2) ac_SK 49 [.int i0] V K := by
  rw [va_49] at h
  refine iv_49_0 ?_
  refine ⟨fun g1 => ?_, fun g1 => ?_⟩
  · refine ⟨fun g2 => ?_, fun g2 => ?_⟩
    · simp only [if_pos g1, if_pos g2] at h
      exact h (Or.inr rfl)
    · simp only [if_pos g1, if_neg g2] at h
      exact h (Or.inl rfl)
  · refine ⟨fun g3 => ?_, fun g3 => ?_⟩
    · refine ⟨fun g4 => ?_, fun g4 => ?_⟩
      · simp only [if_neg g1, if_pos g3, if_pos g4] at h
        exact h (Or.inr rfl)
      · simp only [if_neg g1, if_pos g3, if_neg g4] at h
        exact h (Or.inl rfl)
    · simp only [if_neg g1, if_neg g3] at h
      exact h (Or.inr rfl)

def va_52 (i1 : Int32) (i2 : Int32) (i3 : Int32) (i4 : Int32) (V : aa_V) : Int32 := (if (va_51 i1 i2 i4 V) = (99 : Int32) then (0 : Int32) else (if i3 < (va_51 i1 i2 i4 V) then (0 : Int32) else (1 : Int32)))
set_option maxRecDepth 20000 in
/-- FrameCounty$Roads isReached -/
theorem sp_52 {G : ab_G} {L : Nat} {xs : Nat → Int32} {l : Launch} {d : Nat} {i1 : Int32} {i2 : Int32} {i3 : Int32} {i4 : Int32} {V : aa_V} {K : aa_K} (hw1 : ((i4 - i4 / (30 : Int32) * (30 : Int32)) < (8 : Int32)) → vp_in i1 8) (hw2 : ((i4 - i4 / (30 : Int32) * (30 : Int32)) < (8 : Int32)) → vp_in i2 8) (hw3 : ¬ ((i4 - i4 / (30 : Int32) * (30 : Int32)) < (8 : Int32)) → ((22 : Int32) < (i4 - i4 / (30 : Int32) * (30 : Int32))) → vp_in i1 8) (hw4 : ¬ ((i4 - i4 / (30 : Int32) * (30 : Int32)) < (8 : Int32)) → ((22 : Int32) < (i4 - i4 / (30 : Int32) * (30 : Int32))) → vp_in i2 8) (hw5 : ¬ ((i4 - i4 / (30 : Int32) * (30 : Int32)) < (8 : Int32)) → ¬ ((22 : Int32) < (i4 - i4 / (30 : Int32) * (30 : Int32))) → vp_in i1 8) (hw6 : ¬ ((i4 - i4 / (30 : Int32) * (30 : Int32)) < (8 : Int32)) → ¬ ((22 : Int32) < (i4 - i4 / (30 : Int32) * (30 : Int32))) → vp_in i2 8) (h : aa_bit (va_52 i1 i2 i3 i4 V) → K (some (.int (va_52 i1 i2 i3 i4 V))) V) :
    ab_E G (ac_ST L xs) l (d + 2) ac_SK 52 [.ref 1, .int i1, .int i2, .int i3, .int i4] V K := by
  rw [va_52] at h
  refine iv_52_0 ?_
  refine sp_51 hw1 hw2 hw3 hw4 hw5 hw6 ?_
  dsimp only [aa_rI, aa_rL, aa_rV]
  refine ⟨fun g2 => ?_, fun g2 => ?_⟩
  · simp only [if_pos g2] at h
    exact h (Or.inl rfl)
  · refine ⟨fun g3 => ?_, fun g3 => ?_⟩
    · simp only [if_neg g2, if_pos g3] at h
      exact h (Or.inl rfl)
    · simp only [if_neg g2, if_neg g3] at h
      exact h (Or.inr rfl)

def va_61 (i1 : Int32) (i2 : Int32) (i3 : Int32) (V : aa_V) : Int32 := (if i3 < 0 then (0 : Int32) else (if i2 < (0 : Int32) then (0 : Int32) else (if ((V 74 ((i1).toNatClampNeg)) - i3) < i2 then (0 : Int32) else (1 : Int32))))
set_option maxRecDepth 20000 in
/-- FrameCounty$Sheets isStretch -/
theorem sp_61 {G : ab_G} {L : Nat} {xs : Nat → Int32} {l : Launch} {d : Nat} {i1 : Int32} {i2 : Int32} {i3 : Int32} {V : aa_V} {K : aa_K} (hw1 : ¬ (i3 < 0) → vp_in i1 4) (h : aa_bit (va_61 i1 i2 i3 V) → K (some (.int (va_61 i1 i2 i3 V))) V) :
    ab_E G (ac_ST L xs) l (d + 2) ac_SK 61 [.ref 72, .int i1, .int i2, .int i3] V K := by
  rw [va_61] at h
  refine iv_61_0 ?_
  refine ⟨fun g1 => ?_, fun g1 => ?_⟩
  · simp only [if_pos g1] at h
    exact h (Or.inl rfl)
  · refine ⟨(hw1 g1), ?_⟩
    refine ⟨fun g2 => ?_, fun g2 => ?_⟩
    · simp only [if_neg g1, if_pos g2] at h
      exact h (Or.inl rfl)
    · refine ⟨fun g3 => ?_, fun g3 => ?_⟩
      · simp only [if_neg g1, if_neg g2, if_pos g3] at h
        exact h (Or.inl rfl)
      · simp only [if_neg g1, if_neg g2, if_neg g3] at h
        exact h (Or.inr rfl)

def vl_101_9 (i1 : Int32) (i2 : Int32) (i3 : Int32) (V : aa_V) (a0 : Int32 × Int32) : Int32 := ((fun (a_101 : Int32 × Int32) => a_101.1) (fo (fun (i_101 : Nat) (a_101 : Int32 × Int32) => ((if ((i2 / (ac_zr1 (((i3 - (1 : Int32)) - (nI i_101))).toNatClampNeg)) - (i2 / (ac_zr1 (((i3 - (1 : Int32)) - (nI i_101))).toNatClampNeg)) / (3 : Int32) * (3 : Int32)) = (1 : Int32) then ((a_101.1 + (((V (66 + (i1).toNatClampNeg) i_101) + (1 : Int32)) / (2 : Int32))), ((i2 / (ac_zr1 (((i3 - (1 : Int32)) - (nI i_101))).toNatClampNeg)) - (i2 / (ac_zr1 (((i3 - (1 : Int32)) - (nI i_101))).toNatClampNeg)) / (3 : Int32) * (3 : Int32))) else (if ((i2 / (ac_zr1 (((i3 - (1 : Int32)) - (nI i_101))).toNatClampNeg)) - (i2 / (ac_zr1 (((i3 - (1 : Int32)) - (nI i_101))).toNatClampNeg)) / (3 : Int32) * (3 : Int32)) = (2 : Int32) then (if a_101.2 = (2 : Int32) then ((a_101.1 + (V (66 + (i1).toNatClampNeg) i_101)), ((i2 / (ac_zr1 (((i3 - (1 : Int32)) - (nI i_101))).toNatClampNeg)) - (i2 / (ac_zr1 (((i3 - (1 : Int32)) - (nI i_101))).toNatClampNeg)) / (3 : Int32) * (3 : Int32))) else ((a_101.1 + (((V (66 + (i1).toNatClampNeg) i_101) + (2 : Int32)) / (3 : Int32))), ((i2 / (ac_zr1 (((i3 - (1 : Int32)) - (nI i_101))).toNatClampNeg)) - (i2 / (ac_zr1 (((i3 - (1 : Int32)) - (nI i_101))).toNatClampNeg)) / (3 : Int32) * (3 : Int32)))) else ((a_101.1 + (V (66 + (i1).toNatClampNeg) i_101)), ((i2 / (ac_zr1 (((i3 - (1 : Int32)) - (nI i_101))).toNatClampNeg)) - (i2 / (ac_zr1 (((i3 - (1 : Int32)) - (nI i_101))).toNatClampNeg)) / (3 : Int32) * (3 : Int32))))) : Int32 × Int32)) (i3).toNatClampNeg a0))
set_option maxRecDepth 20000 in
/-- FrameCounty$Weeks broken, the loop at 9 -/
theorem lo_101_9 {G : ab_G} {L : Nat} {xs : Nat → Int32} {l : Launch} {d : Nat} {i1 : Int32} {i2 : Int32} {i3 : Int32} {V : aa_V} {K : aa_K} {a0 : Int32 × Int32} (hz : zb i3 5) (hp1 : vp_in i1 6) (hv1 : ∀ i_101 : Nat, i_101 < (i3).toNatClampNeg → vp_in ((i3 - (1 : Int32)) - (nI i_101)) (ac_ST L xs 1).2.1) (hv2 : ∀ i_101 : Nat, i_101 < (i3).toNatClampNeg → ¬ (ac_zr1 (((i3 - (1 : Int32)) - (nI i_101))).toNatClampNeg) = 0) (h : K (some (.int (vl_101_9 i1 i2 i3 V a0))) V) :
    ab_J G (ac_ST L xs) l (d + 2) 101 9 [some (.ref 64), some (.int i1), some (.int i2), some (.int i3), some (.int a0.1), some (.int a0.2), some (.int (0 : Int32)), none, none] [] ac_SK V ac_SK K := by
  obtain ⟨n, hn, hm⟩ : ∃ n : Nat, i3 = nI n ∧ n ≤ 5 := ⟨_, hz.1, hz.2⟩
  have hN : (i3).toNatClampNeg = n := by rw [hn]; exact zz_ix (by omega)
  rw [vl_101_9] at h
  rw [hN] at h
  try simp only [hN] at hv1
  try simp only [hN] at hv2
  refine zz_fo (fun (i_101 : Nat) (a_101 : Int32 × Int32) => ((if ((i2 / (ac_zr1 (((i3 - (1 : Int32)) - (nI i_101))).toNatClampNeg)) - (i2 / (ac_zr1 (((i3 - (1 : Int32)) - (nI i_101))).toNatClampNeg)) / (3 : Int32) * (3 : Int32)) = (1 : Int32) then ((a_101.1 + (((V (66 + (i1).toNatClampNeg) i_101) + (1 : Int32)) / (2 : Int32))), ((i2 / (ac_zr1 (((i3 - (1 : Int32)) - (nI i_101))).toNatClampNeg)) - (i2 / (ac_zr1 (((i3 - (1 : Int32)) - (nI i_101))).toNatClampNeg)) / (3 : Int32) * (3 : Int32))) else (if ((i2 / (ac_zr1 (((i3 - (1 : Int32)) - (nI i_101))).toNatClampNeg)) - (i2 / (ac_zr1 (((i3 - (1 : Int32)) - (nI i_101))).toNatClampNeg)) / (3 : Int32) * (3 : Int32)) = (2 : Int32) then (if a_101.2 = (2 : Int32) then ((a_101.1 + (V (66 + (i1).toNatClampNeg) i_101)), ((i2 / (ac_zr1 (((i3 - (1 : Int32)) - (nI i_101))).toNatClampNeg)) - (i2 / (ac_zr1 (((i3 - (1 : Int32)) - (nI i_101))).toNatClampNeg)) / (3 : Int32) * (3 : Int32))) else ((a_101.1 + (((V (66 + (i1).toNatClampNeg) i_101) + (2 : Int32)) / (3 : Int32))), ((i2 / (ac_zr1 (((i3 - (1 : Int32)) - (nI i_101))).toNatClampNeg)) - (i2 / (ac_zr1 (((i3 - (1 : Int32)) - (nI i_101))).toNatClampNeg)) / (3 : Int32) * (3 : Int32)))) else ((a_101.1 + (V (66 + (i1).toNatClampNeg) i_101)), ((i2 / (ac_zr1 (((i3 - (1 : Int32)) - (nI i_101))).toNatClampNeg)) - (i2 / (ac_zr1 (((i3 - (1 : Int32)) - (nI i_101))).toNatClampNeg)) / (3 : Int32) * (3 : Int32))))) : Int32 × Int32)) (fun i_101 a_101 => ab_J G (ac_ST L xs) l (d + 2) 101 9 [some (.ref 64), some (.int i1), some (.int i2), some (.int i3), some (.int a_101.1), some (.int a_101.2), some (.int (nI i_101)), none, none] [] ac_SK V ac_SK K) n a0 ?_ ?_
  · refine iv_101_9 ⟨fun q => absurd q (zz_ge hn), fun _ => ?_⟩
    try dsimp only at h
    generalize hfo : fo (fun (i_101 : Nat) (a_101 : Int32 × Int32) => ((if ((i2 / (ac_zr1 (((i3 - (1 : Int32)) - (nI i_101))).toNatClampNeg)) - (i2 / (ac_zr1 (((i3 - (1 : Int32)) - (nI i_101))).toNatClampNeg)) / (3 : Int32) * (3 : Int32)) = (1 : Int32) then ((a_101.1 + (((V (66 + (i1).toNatClampNeg) i_101) + (1 : Int32)) / (2 : Int32))), ((i2 / (ac_zr1 (((i3 - (1 : Int32)) - (nI i_101))).toNatClampNeg)) - (i2 / (ac_zr1 (((i3 - (1 : Int32)) - (nI i_101))).toNatClampNeg)) / (3 : Int32) * (3 : Int32))) else (if ((i2 / (ac_zr1 (((i3 - (1 : Int32)) - (nI i_101))).toNatClampNeg)) - (i2 / (ac_zr1 (((i3 - (1 : Int32)) - (nI i_101))).toNatClampNeg)) / (3 : Int32) * (3 : Int32)) = (2 : Int32) then (if a_101.2 = (2 : Int32) then ((a_101.1 + (V (66 + (i1).toNatClampNeg) i_101)), ((i2 / (ac_zr1 (((i3 - (1 : Int32)) - (nI i_101))).toNatClampNeg)) - (i2 / (ac_zr1 (((i3 - (1 : Int32)) - (nI i_101))).toNatClampNeg)) / (3 : Int32) * (3 : Int32))) else ((a_101.1 + (((V (66 + (i1).toNatClampNeg) i_101) + (2 : Int32)) / (3 : Int32))), ((i2 / (ac_zr1 (((i3 - (1 : Int32)) - (nI i_101))).toNatClampNeg)) - (i2 / (ac_zr1 (((i3 - (1 : Int32)) - (nI i_101))).toNatClampNeg)) / (3 : Int32) * (3 : Int32)))) else ((a_101.1 + (V (66 + (i1).toNatClampNeg) i_101)), ((i2 / (ac_zr1 (((i3 - (1 : Int32)) - (nI i_101))).toNatClampNeg)) - (i2 / (ac_zr1 (((i3 - (1 : Int32)) - (nI i_101))).toNatClampNeg)) / (3 : Int32) * (3 : Int32))))) : Int32 × Int32)) n a0 = a_101 at h ⊢
    exact h
  · intro i_101 hi ih
    have e : (nI i_101).toNatClampNeg = i_101 := zz_ix (by omega)
    rw [fo_s, nI_succ] at ih
    refine iv_101_9 ⟨fun _ => ?_, fun q => absurd (zz_gl hn hi (by omega)) q⟩
    try simp only [e, ac_zs0, ac_zs1]
    refine ⟨(hv1 i_101 hi), ?_⟩
    refine ⟨(hv2 i_101 hi), ?_⟩
    refine ⟨by decide, ?_⟩
    refine ⟨6, _, _, rfl, hp1, zq_65 hp1, ?_⟩
    refine ⟨5, [], zs_65 hp1, (vp_in_nI (by omega) (by decide)), ?_⟩
    refine ⟨fun c1 => ?_, fun c1 => ?_⟩
    · refine ⟨by decide, ?_⟩
      rw [if_pos c1] at ih
      exact ih
    · refine ⟨fun c2 => ?_, fun c2 => ?_⟩
      · refine ⟨fun c3 => ?_, fun c3 => ?_⟩
        · rw [if_neg c1, if_pos c2, if_pos c3] at ih
          exact ih
        · refine ⟨by decide, ?_⟩
          rw [if_neg c1, if_pos c2, if_neg c3] at ih
          exact ih
      · rw [if_neg c1, if_neg c2] at ih
        exact ih

def va_101 (i1 : Int32) (i2 : Int32) (i3 : Int32) (V : aa_V) : Int32 := (vl_101_9 i1 i2 i3 V ((0 : Int32), (0 : Int32)))
set_option maxRecDepth 20000 in
/-- FrameCounty$Weeks broken -/
theorem sp_101 {G : ab_G} {L : Nat} {xs : Nat → Int32} {l : Launch} {d : Nat} {i1 : Int32} {i2 : Int32} {i3 : Int32} {V : aa_V} {K : aa_K} (hw1 : zb i3 5) (hw2 : vp_in i1 6) (hw3 : ∀ i_101 : Nat, i_101 < (i3).toNatClampNeg → vp_in ((i3 - (1 : Int32)) - (nI i_101)) (ac_ST L xs 1).2.1) (hw4 : ∀ i_101 : Nat, i_101 < (i3).toNatClampNeg → ¬ (ac_zr1 (((i3 - (1 : Int32)) - (nI i_101))).toNatClampNeg) = 0) (h : K (some (.int (va_101 i1 i2 i3 V))) V) :
    ab_E G (ac_ST L xs) l (d + 2) ac_SK 101 [.ref 64, .int i1, .int i2, .int i3] V K := by
  rw [va_101] at h
  refine iv_101_0 ?_
  exact lo_101_9 hw1 hw2 hw3 hw4 h

def vl_102_4 (i0 : Int32) (i1 : Int32) (V : aa_V) (a0 : Int32) : Int32 := ((fun (a_102 : Int32) => a_102) (fo (fun (i_102 : Nat) (a_102 : Int32) => ((if ((i0 / (ac_zr1 (((i1 - (1 : Int32)) - (nI i_102))).toNatClampNeg)) - (i0 / (ac_zr1 (((i1 - (1 : Int32)) - (nI i_102))).toNatClampNeg)) / (3 : Int32) * (3 : Int32)) = (1 : Int32) then (a_102 + 1) else a_102) : Int32)) (i1).toNatClampNeg a0))
set_option maxRecDepth 20000 in
/-- FrameCounty$Weeks weeksWithSoldiers, the loop at 4 -/
theorem lo_102_4 {G : ab_G} {L : Nat} {xs : Nat → Int32} {l : Launch} {d : Nat} {i0 : Int32} {i1 : Int32} {V : aa_V} {K : aa_K} {a0 : Int32} (hz : zb i1 1000000000) (hv1 : ∀ i_102 : Nat, i_102 < (i1).toNatClampNeg → vp_in ((i1 - (1 : Int32)) - (nI i_102)) (ac_ST L xs 1).2.1) (hv2 : ∀ i_102 : Nat, i_102 < (i1).toNatClampNeg → ¬ (ac_zr1 (((i1 - (1 : Int32)) - (nI i_102))).toNatClampNeg) = 0) (h : K (some (.int (vl_102_4 i0 i1 V a0))) V) :
    ab_J G (ac_ST L xs) l (d + 2) 102 4 [some (.int i0), some (.int i1), some (.int a0), some (.int (0 : Int32))] [] ac_SK V ac_SK K := by
  obtain ⟨n, hn, hm⟩ : ∃ n : Nat, i1 = nI n ∧ n ≤ 1000000000 := ⟨_, hz.1, hz.2⟩
  have hN : (i1).toNatClampNeg = n := by rw [hn]; exact zz_ix (by omega)
  rw [vl_102_4] at h
  rw [hN] at h
  try simp only [hN] at hv1
  try simp only [hN] at hv2
  refine zz_fo (fun (i_102 : Nat) (a_102 : Int32) => ((if ((i0 / (ac_zr1 (((i1 - (1 : Int32)) - (nI i_102))).toNatClampNeg)) - (i0 / (ac_zr1 (((i1 - (1 : Int32)) - (nI i_102))).toNatClampNeg)) / (3 : Int32) * (3 : Int32)) = (1 : Int32) then (a_102 + 1) else a_102) : Int32)) (fun i_102 a_102 => ab_J G (ac_ST L xs) l (d + 2) 102 4 [some (.int i0), some (.int i1), some (.int a_102), some (.int (nI i_102))] [] ac_SK V ac_SK K) n a0 ?_ ?_
  · refine iv_102_4 ⟨fun q => absurd q (zz_ge hn), fun _ => ?_⟩
    try dsimp only at h
    generalize hfo : fo (fun (i_102 : Nat) (a_102 : Int32) => ((if ((i0 / (ac_zr1 (((i1 - (1 : Int32)) - (nI i_102))).toNatClampNeg)) - (i0 / (ac_zr1 (((i1 - (1 : Int32)) - (nI i_102))).toNatClampNeg)) / (3 : Int32) * (3 : Int32)) = (1 : Int32) then (a_102 + 1) else a_102) : Int32)) n a0 = a_102 at h ⊢
    exact h
  · intro i_102 hi ih
    have e : (nI i_102).toNatClampNeg = i_102 := zz_ix (by omega)
    rw [fo_s, nI_succ] at ih
    refine iv_102_4 ⟨fun _ => ?_, fun q => absurd (zz_gl hn hi (by omega)) q⟩
    try simp only [e, ac_zs0, ac_zs1]
    refine ⟨(hv1 i_102 hi), ?_⟩
    refine ⟨(hv2 i_102 hi), ?_⟩
    refine ⟨by decide, ?_⟩
    refine ⟨fun c1 => ?_, fun c1 => ?_⟩
    · rw [if_pos c1] at ih
      exact ih
    · rw [if_neg c1] at ih
      exact ih

def va_102 (i0 : Int32) (i1 : Int32) (V : aa_V) : Int32 := (vl_102_4 i0 i1 V (0 : Int32))
set_option maxRecDepth 20000 in
/-- FrameCounty$Weeks weeksWithSoldiers -/
theorem sp_102 {G : ab_G} {L : Nat} {xs : Nat → Int32} {l : Launch} {d : Nat} {i0 : Int32} {i1 : Int32} {V : aa_V} {K : aa_K} (hw1 : zb i1 1000000000) (hw2 : ∀ i_102 : Nat, i_102 < (i1).toNatClampNeg → vp_in ((i1 - (1 : Int32)) - (nI i_102)) (ac_ST L xs 1).2.1) (hw3 : ∀ i_102 : Nat, i_102 < (i1).toNatClampNeg → ¬ (ac_zr1 (((i1 - (1 : Int32)) - (nI i_102))).toNatClampNeg) = 0) (h : K (some (.int (va_102 i0 i1 V))) V) :
    ab_E G (ac_ST L xs) l (d + 2) ac_SK 102 [.int i0, .int i1] V K := by
  rw [va_102] at h
  refine iv_102_0 ?_
  exact lo_102_4 hw1 hw2 hw3 h

def vl_130_11 (i2 : Int32) (V : aa_V) (a0 : Int32) : Int32 := ((fun (a_130 : Int32) => a_130) (fo (fun (i_130 : Nat) (a_130 : Int32) => ((if (V 36 i_130) = 0 then (if ((i2 >>> ((V 33 i_130) &&& 31)) &&& (1 : Int32)) = (1 : Int32) then (a_130 ||| ((1 : Int32) <<< ((nI i_130) &&& 31))) else a_130) else a_130) : Int32)) ((V 29 3)).toNatClampNeg a0))
set_option maxRecDepth 20000 in
/-- FrameCounty$Works sparedBy, the loop at 11 -/
theorem lo_130_11 {G : ab_G} {L : Nat} {xs : Nat → Int32} {l : Launch} {d : Nat} {i2 : Int32} {V : aa_V} {K : aa_K} {a0 : Int32} (hz : zb (V 29 3) 20) (h : K (some (.int (vl_130_11 i2 V a0))) V) :
    ab_J G (ac_ST L xs) l (d + 2) 130 11 [some (.ref 29), none, some (.int i2), some (.int a0), some (.int (0 : Int32))] [] ac_SK V ac_SK K := by
  obtain ⟨n, hn, hm⟩ : ∃ n : Nat, (V 29 3) = nI n ∧ n ≤ 20 := ⟨_, hz.1, hz.2⟩
  have hN : ((V 29 3)).toNatClampNeg = n := by rw [hn]; exact zz_ix (by omega)
  rw [vl_130_11] at h
  rw [hN] at h
  refine zz_fo (fun (i_130 : Nat) (a_130 : Int32) => ((if (V 36 i_130) = 0 then (if ((i2 >>> ((V 33 i_130) &&& 31)) &&& (1 : Int32)) = (1 : Int32) then (a_130 ||| ((1 : Int32) <<< ((nI i_130) &&& 31))) else a_130) else a_130) : Int32)) (fun i_130 a_130 => ab_J G (ac_ST L xs) l (d + 2) 130 11 [some (.ref 29), none, some (.int i2), some (.int a_130), some (.int (nI i_130))] [] ac_SK V ac_SK K) n a0 ?_ ?_
  · refine iv_130_11 ⟨fun q => absurd q (zz_ge hn), fun _ => ?_⟩
    try dsimp only at h
    generalize hfo : fo (fun (i_130 : Nat) (a_130 : Int32) => ((if (V 36 i_130) = 0 then (if ((i2 >>> ((V 33 i_130) &&& 31)) &&& (1 : Int32)) = (1 : Int32) then (a_130 ||| ((1 : Int32) <<< ((nI i_130) &&& 31))) else a_130) else a_130) : Int32)) n a0 = a_130 at h ⊢
    exact h
  · intro i_130 hi ih
    have e : (nI i_130).toNatClampNeg = i_130 := zz_ix (by omega)
    rw [fo_s, nI_succ] at ih
    refine iv_130_11 ⟨fun _ => ?_, fun q => absurd (zz_gl hn hi (by omega)) q⟩
    try simp only [e, ac_zs0, ac_zs1]
    refine ⟨vp_in_nI (by omega) (by decide), ?_⟩
    refine ⟨fun c1 => ?_, fun c1 => ?_⟩
    · refine ⟨vp_in_nI (by omega) (by decide), ?_⟩
      refine ⟨fun c2 => ?_, fun c2 => ?_⟩
      · rw [if_pos c1, if_pos c2] at ih
        exact ih
      · rw [if_pos c1, if_neg c2] at ih
        exact ih
    · rw [if_neg c1] at ih
      exact ih

def va_130 (i1 : Int32) (V : aa_V) : Int32 := (vl_130_11 (va_131 i1 V) V (0 : Int32))
set_option maxRecDepth 20000 in
/-- FrameCounty$Works sparedBy -/
theorem sp_130 {G : ab_G} {L : Nat} {xs : Nat → Int32} {l : Launch} {d : Nat} {i1 : Int32} {V : aa_V} {K : aa_K} (hw1 : zb (V 29 3) 20) (h : K (some (.int (va_130 i1 V))) V) :
    ab_E G (ac_ST L xs) l (d + 2) ac_SK 130 [.ref 29, .int i1] V K := by
  rw [va_130] at h
  refine iv_130_0 ?_
  refine sp_131 hw1 ?_
  dsimp only [aa_rI, aa_rL, aa_rV]
  exact lo_130_11 hw1 h

def va_132 (i1 : Int32) (i2 : Int32) (V : aa_V) : Int32 := (if ((i1 / (100 : Int32)) - (i1 / (100 : Int32)) / (3 : Int32) * (3 : Int32)) = 0 then (if (va_133 (i1 / (300 : Int32)) i2 V) < (i1 - i1 / (100 : Int32) * (100 : Int32)) then (1 : Int32) else (0 : Int32)) else (if ((i1 / (100 : Int32)) - (i1 / (100 : Int32)) / (3 : Int32) * (3 : Int32)) = 1 then (if (va_133 (i1 / (300 : Int32)) i2 V) = (i1 - i1 / (100 : Int32) * (100 : Int32)) then (1 : Int32) else (0 : Int32)) else (if (i1 - i1 / (100 : Int32) * (100 : Int32)) < (va_133 (i1 / (300 : Int32)) i2 V) then (1 : Int32) else (0 : Int32))))
set_option maxRecDepth 20000 in
/-- FrameCounty$Works fits -/
theorem sp_132 {G : ab_G} {L : Nat} {xs : Nat → Int32} {l : Launch} {d : Nat} {i1 : Int32} {i2 : Int32} {V : aa_V} {K : aa_K} (hw1 : ((i1 / (300 : Int32)) = 0) → vp_in i2 20) (hw2 : ¬ ((i1 / (300 : Int32)) = 0) → ((i1 / (300 : Int32)) = 1) → vp_in i2 20) (hw3 : ¬ ((i1 / (300 : Int32)) = 0) → ¬ ((i1 / (300 : Int32)) = 1) → ((i1 / (300 : Int32)) = 2) → vp_in i2 20) (hw4 : ¬ ((i1 / (300 : Int32)) = 0) → ¬ ((i1 / (300 : Int32)) = 1) → ¬ ((i1 / (300 : Int32)) = 2) → ((i1 / (300 : Int32)) = 3) → vp_in i2 20) (hw5 : ¬ ((i1 / (300 : Int32)) = 0) → ¬ ((i1 / (300 : Int32)) = 1) → ¬ ((i1 / (300 : Int32)) = 2) → ((i1 / (300 : Int32)) = 3) → vp_in (V 33 ((i2).toNatClampNeg)) 8) (hw6 : ¬ ((i1 / (300 : Int32)) = 0) → ¬ ((i1 / (300 : Int32)) = 1) → ¬ ((i1 / (300 : Int32)) = 2) → ¬ ((i1 / (300 : Int32)) = 3) → vp_in i2 20) (hw7 : ¬ ((i1 / (300 : Int32)) = 0) → ¬ ((i1 / (300 : Int32)) = 1) → ¬ ((i1 / (300 : Int32)) = 2) → ¬ ((i1 / (300 : Int32)) = 3) → vp_in (V 33 ((i2).toNatClampNeg)) 8) (h : aa_bit (va_132 i1 i2 V) → K (some (.int (va_132 i1 i2 V))) V) :
    ab_E G (ac_ST L xs) l (d + 2) ac_SK 132 [.ref 29, .int i1, .int i2] V K := by
  rw [va_132] at h
  refine iv_132_0 ?_
  refine ⟨by decide, ?_⟩
  refine sp_133 hw1 hw2 hw3 hw4 hw5 hw6 hw7 ?_
  dsimp only [aa_rI, aa_rL, aa_rV]
  refine ⟨by decide, ?_⟩
  refine ⟨by decide, ?_⟩
  refine ⟨by decide, ?_⟩
  refine ⟨fun g2 => ?_, fun g2 => ?_⟩
  · refine ⟨fun g3 => ?_, fun g3 => ?_⟩
    · simp only [if_pos g2, if_pos g3] at h
      exact h (Or.inr rfl)
    · simp only [if_pos g2, if_neg g3] at h
      exact h (Or.inl rfl)
  · refine ⟨fun g4 => ?_, fun g4 => ?_⟩
    · refine ⟨fun g5 => ?_, fun g5 => ?_⟩
      · simp only [if_neg g2, if_pos g4, if_pos g5] at h
        exact h (Or.inr rfl)
      · simp only [if_neg g2, if_pos g4, if_neg g5] at h
        exact h (Or.inl rfl)
    · refine ⟨fun g6 => ?_, fun g6 => ?_⟩
      · simp only [if_neg g2, if_neg g4, if_pos g6] at h
        exact h (Or.inr rfl)
      · simp only [if_neg g2, if_neg g4, if_neg g6] at h
        exact h (Or.inl rfl)

def va_138 (i1 : Int32) (V : aa_V) : Int32 := (if i1 < (1 : Int32) then (-2 : Int32) else (if (60 : Int32) < i1 then (-2 : Int32) else (if ((V 0 13) + i1) < (400 : Int32) then ((V 0 13) + i1) else (-4 : Int32))))
def vn_138 (i1 : Int32) (V : aa_V) : aa_V := (if i1 < (1 : Int32) then V else (if (60 : Int32) < i1 then V else (if ((V 0 13) + i1) < (400 : Int32) then (aa_up V 0 13 ((V 0 13) + i1)) else V)))
set_option maxRecDepth 20000 in
/-- FrameCounty pass -/
theorem sp_138 {G : ab_G} {L : Nat} {xs : Nat → Int32} {l : Launch} {d : Nat} {i1 : Int32} {V : aa_V} {K : aa_K} (h : K (some (.int (va_138 i1 V))) (vn_138 i1 V)) :
    ab_E G (ac_ST L xs) l (d + 2) ac_SK 138 [.ref 0, .int i1] V K := by
  rw [va_138, vn_138] at h
  refine iv_138_0 ?_
  refine ⟨fun g1 => ?_, fun g1 => ?_⟩
  · simp only [if_pos g1] at h
    exact h
  · refine ⟨fun g2 => ?_, fun g2 => ?_⟩
    · simp only [if_neg g1, if_pos g2] at h
      exact h
    · refine ⟨fun g3 => ?_, fun g3 => ?_⟩
      · simp only [if_neg g1, if_neg g2, if_pos g3] at h
        exact h
      · simp only [if_neg g1, if_neg g2, if_neg g3] at h
        exact h

