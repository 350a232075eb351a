/-! pure methods as functions, 3: printed by den.py -/

def va_276 (i1 : Int32) (V : aa_V) : Int32 := (if i1 = 0 then (V 105 2) else (if i1 = 1 then (V 105 11) else (if i1 = 2 then (V 105 12) else (if i1 = 3 then (V 105 34) else (if i1 = 4 then (V 105 46) else (if i1 = 5 then (V 105 47) else (if i1 = 6 then (V 105 48) else (if i1 = 7 then (V 105 54) else (if i1 = 8 then (V 105 58) else (if i1 = 9 then (V 105 60) else (if i1 = 10 then (V 105 20) else (if i1 = 11 then (V 105 19) else (if i1 = 12 then (V 105 21) else (if i1 = 13 then (va_275 (i1 - (13 : Int32)) V) else (if i1 = 14 then (va_275 (i1 - (13 : Int32)) V) else (if i1 = 15 then (va_275 (i1 - (13 : Int32)) V) else (-2 : Int32)))))))))))))))))
set_option maxRecDepth 20000 in
/-- FrameCountyModel count -/
theorem sp_276 {G : ab_G} {L : Nat} {xs : Nat → Int32} {l : Launch} {d : Nat} {i1 : Int32} {V : aa_V} {K : aa_K} (hw1 : zb (V 105 12) 20) (h : K (some (.int (va_276 i1 V))) V) :
    ab_E G (ac_ST L xs) l (d + 2) ac_SK 276 [.ref 105, .int i1] V K := by
  rw [va_276] at h
  refine iv_276_0 ?_
  refine ⟨fun g1 => ?_, fun g1 => ?_⟩
  · simp only [if_pos g1] at h
    exact h
  · refine ⟨fun g2 => ?_, fun g2 => ?_⟩
    · simp only [if_neg g1, if_pos g2] at h
      exact h
    · refine ⟨fun g3 => ?_, fun g3 => ?_⟩
      · simp only [if_neg g1, if_neg g2, if_pos g3] at h
        exact h
      · refine ⟨fun g4 => ?_, fun g4 => ?_⟩
        · simp only [if_neg g1, if_neg g2, if_neg g3, if_pos g4] at h
          exact h
        · refine ⟨fun g5 => ?_, fun g5 => ?_⟩
          · simp only [if_neg g1, if_neg g2, if_neg g3, if_neg g4, if_pos g5] at h
            exact h
          · refine ⟨fun g6 => ?_, fun g6 => ?_⟩
            · simp only [if_neg g1, if_neg g2, if_neg g3, if_neg g4, if_neg g5, if_pos g6] at h
              exact h
            · refine ⟨fun g7 => ?_, fun g7 => ?_⟩
              · simp only [if_neg g1, if_neg g2, if_neg g3, if_neg g4, if_neg g5, if_neg g6, if_pos g7] at h
                exact h
              · refine ⟨fun g8 => ?_, fun g8 => ?_⟩
                · simp only [if_neg g1, if_neg g2, if_neg g3, if_neg g4, if_neg g5, if_neg g6, if_neg g7, if_pos g8] at h
                  exact h
                · refine ⟨fun g9 => ?_, fun g9 => ?_⟩
                  · simp only [if_neg g1, if_neg g2, if_neg g3, if_neg g4, if_neg g5, if_neg g6, if_neg g7, if_neg g8, if_pos g9] at h
                    exact h
                  · refine ⟨fun g10 => ?_, fun g10 => ?_⟩
                    · simp only [if_neg g1, if_neg g2, if_neg g3, if_neg g4, if_neg g5, if_neg g6, if_neg g7, if_neg g8, if_neg g9, if_pos g10] at h
                      exact h
                    · refine ⟨fun g11 => ?_, fun g11 => ?_⟩
                      · simp only [if_neg g1, if_neg g2, if_neg g3, if_neg g4, if_neg g5, if_neg g6, if_neg g7, if_neg g8, if_neg g9, if_neg g10, if_pos g11] at h
                        exact h
                      · refine ⟨fun g12 => ?_, fun g12 => ?_⟩
                        · simp only [if_neg g1, if_neg g2, if_neg g3, if_neg g4, if_neg g5, if_neg g6, if_neg g7, if_neg g8, if_neg g9, if_neg g10, if_neg g11, if_pos g12] at h
                          exact h
                        · refine ⟨fun g13 => ?_, fun g13 => ?_⟩
                          · simp only [if_neg g1, if_neg g2, if_neg g3, if_neg g4, if_neg g5, if_neg g6, if_neg g7, if_neg g8, if_neg g9, if_neg g10, if_neg g11, if_neg g12, if_pos g13] at h
                            exact h
                          · refine ⟨fun g14 => ?_, fun g14 => ?_⟩
                            · refine sp_275 hw1 ?_
                              dsimp only [aa_rI, aa_rL, aa_rV]
                              simp only [if_neg g1, if_neg g2, if_neg g3, if_neg g4, if_neg g5, if_neg g6, if_neg g7, if_neg g8, if_neg g9, if_neg g10, if_neg g11, if_neg g12, if_neg g13, if_pos g14] at h
                              exact h
                            · refine ⟨fun g16 => ?_, fun g16 => ?_⟩
                              · refine sp_275 hw1 ?_
                                dsimp only [aa_rI, aa_rL, aa_rV]
                                simp only [if_neg g1, if_neg g2, if_neg g3, if_neg g4, if_neg g5, if_neg g6, if_neg g7, if_neg g8, if_neg g9, if_neg g10, if_neg g11, if_neg g12, if_neg g13, if_neg g14, if_pos g16] at h
                                exact h
                              · refine ⟨fun g18 => ?_, fun g18 => ?_⟩
                                · refine sp_275 hw1 ?_
                                  dsimp only [aa_rI, aa_rL, aa_rV]
                                  simp only [if_neg g1, if_neg g2, if_neg g3, if_neg g4, if_neg g5, if_neg g6, if_neg g7, if_neg g8, if_neg g9, if_neg g10, if_neg g11, if_neg g12, if_neg g13, if_neg g14, if_neg g16, if_pos g18] at h
                                  exact h
                                · simp only [if_neg g1, if_neg g2, if_neg g3, if_neg g4, if_neg g5, if_neg g6, if_neg g7, if_neg g8, if_neg g9, if_neg g10, if_neg g11, if_neg g12, if_neg g13, if_neg g14, if_neg g16, if_neg g18] at h
                                  exact h

def va_280 (i1 : Int32) (i2 : Int32) (i3 : Int32) (V : aa_V) : Int32 := (if i1 < 0 then (-2 : Int32) else (if i1 < (4 : Int32) then (if (V 147 ((i1).toNatClampNeg)) < 0 then (-11 : Int32) else (if i2 < (0 : Int32) then (-12 : Int32) else (if ((V 148 ((i1).toNatClampNeg)) - (1 : Int32)) < i2 then (-12 : Int32) else (if (V 147 ((i1).toNatClampNeg)) = 0 then (1 : Int32) else (if (V 147 ((i1).toNatClampNeg)) = (1 : Int32) then (1 : Int32) else (1 : Int32)))))) else (-2 : Int32)))
def vn_280 (i1 : Int32) (i2 : Int32) (i3 : Int32) (V : aa_V) : aa_V := (if i1 < 0 then V else (if i1 < (4 : Int32) then (if (V 147 ((i1).toNatClampNeg)) < 0 then V else (if i2 < (0 : Int32) then V else (if ((V 148 ((i1).toNatClampNeg)) - (1 : Int32)) < i2 then V else (if (V 147 ((i1).toNatClampNeg)) = 0 then (aa_up V 149 (((((40 : Int32) * i1) + i2)).toNatClampNeg) (i3.toInt8.toInt32)) else (if (V 147 ((i1).toNatClampNeg)) = (1 : Int32) then (aa_up V 149 (((((40 : Int32) * i1) + i2)).toNatClampNeg) (i3.toInt16.toInt32)) else (aa_up V 149 (((((40 : Int32) * i1) + i2)).toNatClampNeg) i3)))))) else V))
set_option maxRecDepth 20000 in
/-- FrameCountyModel cell -/
theorem sp_280 {G : ab_G} {L : Nat} {xs : Nat → Int32} {l : Launch} {d : Nat} {i1 : Int32} {i2 : Int32} {i3 : Int32} {V : aa_V} {K : aa_K} (hw1 : ¬ (i1 < 0) → (i1 < (4 : Int32)) → vp_in i1 4) (hw2 : ¬ (i1 < 0) → (i1 < (4 : Int32)) → ¬ ((V 147 ((i1).toNatClampNeg)) < 0) → ¬ (i2 < (0 : Int32)) → ¬ (((V 148 ((i1).toNatClampNeg)) - (1 : Int32)) < i2) → ((V 147 ((i1).toNatClampNeg)) = 0) → vp_in (((40 : Int32) * i1) + i2) 160) (hw3 : ¬ (i1 < 0) → (i1 < (4 : Int32)) → ¬ ((V 147 ((i1).toNatClampNeg)) < 0) → ¬ (i2 < (0 : Int32)) → ¬ (((V 148 ((i1).toNatClampNeg)) - (1 : Int32)) < i2) → ¬ ((V 147 ((i1).toNatClampNeg)) = 0) → ((V 147 ((i1).toNatClampNeg)) = (1 : Int32)) → vp_in (((40 : Int32) * i1) + i2) 160) (hw4 : ¬ (i1 < 0) → (i1 < (4 : Int32)) → ¬ ((V 147 ((i1).toNatClampNeg)) < 0) → ¬ (i2 < (0 : Int32)) → ¬ (((V 148 ((i1).toNatClampNeg)) - (1 : Int32)) < i2) → ¬ ((V 147 ((i1).toNatClampNeg)) = 0) → ¬ ((V 147 ((i1).toNatClampNeg)) = (1 : Int32)) → vp_in (((40 : Int32) * i1) + i2) 160) (h : K (some (.int (va_280 i1 i2 i3 V))) (vn_280 i1 i2 i3 V)) :
    ab_E G (ac_ST L xs) l (d + 2) ac_SK 280 [.ref 105, .int i1, .int i2, .int i3] V K := by
  rw [va_280, vn_280] at h
  refine iv_280_0 ?_
  refine ⟨fun g1 => ?_, fun g1 => ?_⟩
  · simp only [if_pos g1] at h
    exact h
  · refine ⟨fun g2 => ?_, fun g2 => ?_⟩
    · refine ⟨(hw1 g1 g2), ?_⟩
      refine ⟨fun g3 => ?_, fun g3 => ?_⟩
      · simp only [if_neg g1, if_pos g2, if_pos g3] at h
        exact h
      · refine ⟨(hw1 g1 g2), ?_⟩
        refine ⟨fun g4 => ?_, fun g4 => ?_⟩
        · simp only [if_neg g1, if_pos g2, if_neg g3, if_pos g4] at h
          exact h
        · refine ⟨fun g5 => ?_, fun g5 => ?_⟩
          · simp only [if_neg g1, if_pos g2, if_neg g3, if_neg g4, if_pos g5] at h
            exact h
          · refine ⟨(hw1 g1 g2), ?_⟩
            refine ⟨fun g6 => ?_, fun g6 => ?_⟩
            · refine ⟨(hw2 g1 g2 g3 g4 g5 g6), ?_⟩
              simp only [if_neg g1, if_pos g2, if_neg g3, if_neg g4, if_neg g5, if_pos g6] at h
              exact h
            · refine ⟨fun g7 => ?_, fun g7 => ?_⟩
              · refine ⟨(hw3 g1 g2 g3 g4 g5 g6 g7), ?_⟩
                simp only [if_neg g1, if_pos g2, if_neg g3, if_neg g4, if_neg g5, if_neg g6, if_pos g7] at h
                exact h
              · refine ⟨(hw4 g1 g2 g3 g4 g5 g6 g7), ?_⟩
                simp only [if_neg g1, if_pos g2, if_neg g3, if_neg g4, if_neg g5, if_neg g6, if_neg g7] at h
                exact h
    · simp only [if_neg g1, if_neg g2] at h
      exact h

def vl_5_5 (i1 : Int32) (i2 : Int32) (V : aa_V) (a0 : Int32) : Int32 := ((fun (a_5 : Int32) => a_5) (fo (fun (i_5 : Nat) (a_5 : Int32) => ((if (va_7 (nI i_5) V) = 0 then a_5 else (if (va_8 61 (nI i_5) V) < i1 then a_5 else (if (va_8 62 (nI i_5) V) < i2 then a_5 else (if a_5 = (-1 : Int32) then (nI i_5) else (if (va_6 (nI i_5) a_5 V) = 0 then a_5 else (nI i_5)))))) : Int32)) (((1 : Int32) <<< ((V 60 0) &&& 31))).toNatClampNeg a0))
set_option maxRecDepth 20000 in
/-- FrameCounty$Bargain bestSet, the loop at 5 -/
theorem lo_5_5 {G : ab_G} {L : Nat} {xs : Nat → Int32} {l : Launch} {d : Nat} {i1 : Int32} {i2 : Int32} {V : aa_V} {K : aa_K} {a0 : Int32} (hz : zb ((1 : Int32) <<< ((V 60 0) &&& 31)) 1000000000) (hp1 : zb (V 60 0) 8) (hp2 : aa_sh ac_SK 61 = some (100, 8, [])) (hp3 : aa_sh ac_SK 62 = some (100, 8, [])) (h : K (some (.int (vl_5_5 i1 i2 V a0))) V) :
    ab_J G (ac_ST L xs) l (d + 3) 5 5 [some (.ref 60), some (.int i1), some (.int i2), some (.int a0), some (.int (0 : Int32)), none] [] ac_SK V ac_SK K := by
  obtain ⟨n, hn, hm⟩ : ∃ n : Nat, ((1 : Int32) <<< ((V 60 0) &&& 31)) = nI n ∧ n ≤ 1000000000 := ⟨_, hz.1, hz.2⟩
  have hN : (((1 : Int32) <<< ((V 60 0) &&& 31))).toNatClampNeg = n := by rw [hn]; exact zz_ix (by omega)
  rw [vl_5_5] at h
  rw [hN] at h
  refine zz_fo (fun (i_5 : Nat) (a_5 : Int32) => ((if (va_7 (nI i_5) V) = 0 then a_5 else (if (va_8 61 (nI i_5) V) < i1 then a_5 else (if (va_8 62 (nI i_5) V) < i2 then a_5 else (if a_5 = (-1 : Int32) then (nI i_5) else (if (va_6 (nI i_5) a_5 V) = 0 then a_5 else (nI i_5)))))) : Int32)) (fun i_5 a_5 => ab_J G (ac_ST L xs) l (d + 3) 5 5 [some (.ref 60), some (.int i1), some (.int i2), some (.int a_5), some (.int (nI i_5)), none] [] ac_SK V ac_SK K) n a0 ?_ ?_
  · refine iv_5_5 ⟨fun q => absurd q (zz_ge hn), fun _ => ?_⟩
    try dsimp only at h
    generalize hfo : fo (fun (i_5 : Nat) (a_5 : Int32) => ((if (va_7 (nI i_5) V) = 0 then a_5 else (if (va_8 61 (nI i_5) V) < i1 then a_5 else (if (va_8 62 (nI i_5) V) < i2 then a_5 else (if a_5 = (-1 : Int32) then (nI i_5) else (if (va_6 (nI i_5) a_5 V) = 0 then a_5 else (nI i_5)))))) : Int32)) n a0 = a_5 at h ⊢
    exact h
  · intro i_5 hi ih
    have e : (nI i_5).toNatClampNeg = i_5 := zz_ix (by omega)
    rw [fo_s, nI_succ] at ih
    refine iv_5_5 ⟨fun _ => ?_, fun q => absurd (zz_gl hn hi (by omega)) q⟩
    try simp only [e, ac_zs0, ac_zs1]
    refine sp_7 hp1 (fun hb1 => ?_)
    dsimp only [aa_rI, aa_rL]
    refine ⟨fun c2 => ?_, fun c2 => ?_⟩
    · rw [if_pos c2] at ih
      exact ih
    · refine sp_8 hp1 hp2 ?_
      dsimp only [aa_rI, aa_rL]
      refine ⟨fun c4 => ?_, fun c4 => ?_⟩
      · rw [if_neg c2, if_pos c4] at ih
        exact ih
      · refine sp_8 hp1 hp3 ?_
        dsimp only [aa_rI, aa_rL]
        refine ⟨fun c6 => ?_, fun c6 => ?_⟩
        · rw [if_neg c2, if_neg c4, if_pos c6] at ih
          exact ih
        · refine ⟨fun c7 => ?_, fun c7 => ?_⟩
          · rw [if_neg c2, if_neg c4, if_neg c6, if_pos c7] at ih
            exact ih
          · refine sp_6 hp1 hp3 hp2 (fun hb8 => ?_)
            dsimp only [aa_rI, aa_rL]
            refine ⟨fun c9 => ?_, fun c9 => ?_⟩
            · rw [if_neg c2, if_neg c4, if_neg c6, if_neg c7, if_pos c9] at ih
              exact ih
            · rw [if_neg c2, if_neg c4, if_neg c6, if_neg c7, if_neg c9] at ih
              exact ih

def va_5 (i1 : Int32) (i2 : Int32) (V : aa_V) : Int32 := (vl_5_5 i1 i2 V (-1 : Int32))
set_option maxRecDepth 20000 in
/-- FrameCounty$Bargain bestSet -/
theorem sp_5 {G : ab_G} {L : Nat} {xs : Nat → Int32} {l : Launch} {d : Nat} {i1 : Int32} {i2 : Int32} {V : aa_V} {K : aa_K} (hw1 : zb ((1 : Int32) <<< ((V 60 0) &&& 31)) 1000000000) (hw2 : zb (V 60 0) 8) (hw3 : aa_sh ac_SK 61 = some (100, 8, [])) (hw4 : aa_sh ac_SK 62 = some (100, 8, [])) (h : K (some (.int (va_5 i1 i2 V))) V) :
    ab_E G (ac_ST L xs) l (d + 3) ac_SK 5 [.ref 60, .int i1, .int i2] V K := by
  rw [va_5] at h
  refine iv_5_0 ?_
  exact lo_5_5 hw1 hw2 hw3 hw4 h

def vl_53_3 (i1 : Int32) (i2 : Int32) (i3 : Int32) (i4 : Int32) (V : aa_V) (a0 : Unit) : Int32 := (match fe (fun (i_53 : Nat) (a_53 : Unit) => ((if ((i1 >>> ((nI i_53) &&& 31)) &&& (1 : Int32)) = (1 : Int32) then (if (va_52 (nI i_53) i2 i3 i4 V) = 0 then .inl () else .inr (1 : Int32)) else .inl ()) : Unit ⊕ Int32)) 8 a0 with
  | .inl a_53 => (0 : Int32)
  | .inr b => b)
set_option maxRecDepth 20000 in
/-- FrameCounty$Roads isReachedFromOne, the loop at 3 -/
theorem lo_53_3 {G : ab_G} {L : Nat} {xs : Nat → Int32} {l : Launch} {d : Nat} {i1 : Int32} {i2 : Int32} {i3 : Int32} {i4 : Int32} {V : aa_V} {K : aa_K} {a0 : Unit} (hp1 : ((i4 - i4 / (30 : Int32) * (30 : Int32)) < (8 : Int32)) → vp_in i2 8) (hp2 : ¬ ((i4 - i4 / (30 : Int32) * (30 : Int32)) < (8 : Int32)) → ((22 : Int32) < (i4 - i4 / (30 : Int32) * (30 : Int32))) → vp_in i2 8) (hp3 : ¬ ((i4 - i4 / (30 : Int32) * (30 : Int32)) < (8 : Int32)) → ¬ ((22 : Int32) < (i4 - i4 / (30 : Int32) * (30 : Int32))) → vp_in i2 8) (hv1 : ∀ i_53 : Nat, i_53 < 8 → ((i4 - i4 / (30 : Int32) * (30 : Int32)) < (8 : Int32)) → vp_in (nI i_53) 8) (hv2 : ∀ i_53 : Nat, i_53 < 8 → ¬ ((i4 - i4 / (30 : Int32) * (30 : Int32)) < (8 : Int32)) → ((22 : Int32) < (i4 - i4 / (30 : Int32) * (30 : Int32))) → vp_in (nI i_53) 8) (hv3 : ∀ i_53 : Nat, i_53 < 8 → ¬ ((i4 - i4 / (30 : Int32) * (30 : Int32)) < (8 : Int32)) → ¬ ((22 : Int32) < (i4 - i4 / (30 : Int32) * (30 : Int32))) → vp_in (nI i_53) 8) (h : aa_bit (vl_53_3 i1 i2 i3 i4 V a0) → K (some (.int (vl_53_3 i1 i2 i3 i4 V a0))) V) :
    ab_J G (ac_ST L xs) l (d + 3) 53 3 [some (.ref 1), some (.int i1), some (.int i2), some (.int i3), some (.int i4), some (.int (0 : Int32))] [] ac_SK V ac_SK K := by
  obtain ⟨n, hn, hm, hN⟩ : ∃ n : Nat, (8 : Int32) = nI n ∧ n ≤ 8 ∧ n = 8 := ⟨8, by decide +kernel, Nat.le_refl _, rfl⟩
  have hvl : vl_53_3 i1 i2 i3 i4 V a0 = (match fe (fun (i_53 : Nat) (a_53 : Unit) => ((if ((i1 >>> ((nI i_53) &&& 31)) &&& (1 : Int32)) = (1 : Int32) then (if (va_52 (nI i_53) i2 i3 i4 V) = 0 then .inl () else .inr (1 : Int32)) else .inl ()) : Unit ⊕ Int32)) n a0 with
  | .inl a_53 => (0 : Int32)
  | .inr b => b) := by
    subst hN
    rfl
  rw [hvl] at h
  have hlt : ∀ i_53, i_53 < n → i_53 < 8 := fun i_53 q => by omega
  refine zz_fe (fun (i_53 : Nat) (a_53 : Unit) => ((if ((i1 >>> ((nI i_53) &&& 31)) &&& (1 : Int32)) = (1 : Int32) then (if (va_52 (nI i_53) i2 i3 i4 V) = 0 then .inl () else .inr (1 : Int32)) else .inl ()) : Unit ⊕ Int32)) (fun i_53 a_53 => ab_J G (ac_ST L xs) l (d + 3) 53 3 [some (.ref 1), some (.int i1), some (.int i2), some (.int i3), some (.int i4), some (.int (nI i_53))] [] ac_SK V ac_SK K) (fun b => aa_bit b → K (some (.int b)) V) n a0 ?_ ?_ ?_
  · intro a_53 hfo
    rw [hfo] at h
    refine iv_53_3 ⟨fun q => absurd q (zz_ge hn), fun _ => ?_⟩
    subst hN
    exact h (Or.inl rfl)
  · intro i_53 a_53 hi hfe hnx hex
    have e : (nI i_53).toNatClampNeg = i_53 := zz_ix (by omega)
    rw [nI_succ] at hnx
    refine iv_53_3 ⟨fun _ => ?_, fun q => absurd (zz_gl hn hi (by omega)) q⟩
    try simp only [e, ac_zs0, ac_zs1]
    refine ⟨fun c1 => ?_, fun c1 => ?_⟩
    · refine sp_52 (by first | exact (hv1 i_53 (hlt i_53 hi)) | (simp only [e]; exact (hv1 i_53 (hlt i_53 hi))) | (simp only [hN]; exact (hv1 i_53 (hlt i_53 hi)))) hp1 (by first | exact (hv2 i_53 (hlt i_53 hi)) | (simp only [e]; exact (hv2 i_53 (hlt i_53 hi))) | (simp only [hN]; exact (hv2 i_53 (hlt i_53 hi)))) hp2 (by first | exact (hv3 i_53 (hlt i_53 hi)) | (simp only [e]; exact (hv3 i_53 (hlt i_53 hi))) | (simp only [hN]; exact (hv3 i_53 (hlt i_53 hi)))) hp3 (fun hb2 => ?_)
      dsimp only [aa_rI, aa_rL]
      refine ⟨fun c3 => ?_, fun c3 => ?_⟩
      · exact hnx _ ((if_pos c1).trans ((if_pos c3).trans rfl))
      · exact hex _ ((if_pos c1).trans ((if_neg c3).trans rfl)) (Or.inr rfl)
    · exact hnx _ ((if_neg c1).trans rfl)
  · intro b hb
    rw [hb] at h
    exact h

def va_53 (i1 : Int32) (i2 : Int32) (i3 : Int32) (i4 : Int32) (V : aa_V) : Int32 := (vl_53_3 i1 i2 i3 i4 V ())
set_option maxRecDepth 20000 in
/-- FrameCounty$Roads isReachedFromOne -/
theorem sp_53 {G : ab_G} {L : Nat} {xs : Nat → Int32} {l : Launch} {d : Nat} {i1 : Int32} {i2 : Int32} {i3 : Int32} {i4 : Int32} {V : aa_V} {K : aa_K} (hw1 : ((i4 - i4 / (30 : Int32) * (30 : Int32)) < (8 : Int32)) → vp_in i2 8) (hw2 : ¬ ((i4 - i4 / (30 : Int32) * (30 : Int32)) < (8 : Int32)) → ((22 : Int32) < (i4 - i4 / (30 : Int32) * (30 : Int32))) → vp_in i2 8) (hw3 : ¬ ((i4 - i4 / (30 : Int32) * (30 : Int32)) < (8 : Int32)) → ¬ ((22 : Int32) < (i4 - i4 / (30 : Int32) * (30 : Int32))) → vp_in i2 8) (hw4 : ∀ i_53 : Nat, i_53 < 8 → ((i4 - i4 / (30 : Int32) * (30 : Int32)) < (8 : Int32)) → vp_in (nI i_53) 8) (hw5 : ∀ i_53 : Nat, i_53 < 8 → ¬ ((i4 - i4 / (30 : Int32) * (30 : Int32)) < (8 : Int32)) → ((22 : Int32) < (i4 - i4 / (30 : Int32) * (30 : Int32))) → vp_in (nI i_53) 8) (hw6 : ∀ i_53 : Nat, i_53 < 8 → ¬ ((i4 - i4 / (30 : Int32) * (30 : Int32)) < (8 : Int32)) → ¬ ((22 : Int32) < (i4 - i4 / (30 : Int32) * (30 : Int32))) → vp_in (nI i_53) 8) (h : aa_bit (va_53 i1 i2 i3 i4 V) → K (some (.int (va_53 i1 i2 i3 i4 V))) V) :
    ab_E G (ac_ST L xs) l (d + 3) ac_SK 53 [.ref 1, .int i1, .int i2, .int i3, .int i4] V K := by
  rw [va_53] at h
  refine iv_53_0 ?_
  exact lo_53_3 hw1 hw2 hw3 hw4 hw5 hw6 h

def vl_87_25 (i1 : Int32) (i2 : Int32) (i3 : Int32) (i4 : Int32) (i5 : Int32) (V : aa_V) (a0 : Unit) : Int32 := (match fe (fun (i_87 : Nat) (a_87 : Unit) => ((if (V 44 i_87) = i1 then (if (V 46 i_87) = i3 then (if i5 < (V 48 i_87) then .inl () else (if (va_52 (V 45 i_87) i2 (if 0 ≤ (i4 - (V 47 i_87)) then (i4 - (V 47 i_87)) else 0 - (i4 - (V 47 i_87))) i3 V) = 0 then .inr (0 : Int32) else .inl ())) else .inl ()) else .inl ()) : Unit ⊕ Int32)) ((V 42 4)).toNatClampNeg a0 with
  | .inl a_87 => (1 : Int32)
  | .inr b => b)
set_option maxRecDepth 20000 in
/-- FrameCounty$Watch isPossible, the loop at 25 -/
theorem lo_87_25 {G : ab_G} {L : Nat} {xs : Nat → Int32} {l : Launch} {d : Nat} {i1 : Int32} {i2 : Int32} {i3 : Int32} {i4 : Int32} {i5 : Int32} {V : aa_V} {K : aa_K} {a0 : Unit} (hz : zb (V 42 4) 40) (hp1 : ((i3 - i3 / (30 : Int32) * (30 : Int32)) < (8 : Int32)) → vp_in i2 8) (hp2 : ¬ ((i3 - i3 / (30 : Int32) * (30 : Int32)) < (8 : Int32)) → ((22 : Int32) < (i3 - i3 / (30 : Int32) * (30 : Int32))) → vp_in i2 8) (hp3 : ¬ ((i3 - i3 / (30 : Int32) * (30 : Int32)) < (8 : Int32)) → ¬ ((22 : Int32) < (i3 - i3 / (30 : Int32) * (30 : Int32))) → vp_in i2 8) (hv1 : ∀ i_87 : Nat, i_87 < ((V 42 4)).toNatClampNeg → ((i3 - i3 / (30 : Int32) * (30 : Int32)) < (8 : Int32)) → vp_in (V 45 i_87) 8) (hv2 : ∀ i_87 : Nat, i_87 < ((V 42 4)).toNatClampNeg → ¬ ((i3 - i3 / (30 : Int32) * (30 : Int32)) < (8 : Int32)) → ((22 : Int32) < (i3 - i3 / (30 : Int32) * (30 : Int32))) → vp_in (V 45 i_87) 8) (hv3 : ∀ i_87 : Nat, i_87 < ((V 42 4)).toNatClampNeg → ¬ ((i3 - i3 / (30 : Int32) * (30 : Int32)) < (8 : Int32)) → ¬ ((22 : Int32) < (i3 - i3 / (30 : Int32) * (30 : Int32))) → vp_in (V 45 i_87) 8) (h : aa_bit (vl_87_25 i1 i2 i3 i4 i5 V a0) → K (some (.int (vl_87_25 i1 i2 i3 i4 i5 V a0))) V) :
    ab_J G (ac_ST L xs) l (d + 3) 87 25 [some (.ref 42), some (.int i1), some (.int i2), some (.int i3), some (.int i4), some (.int i5), some (.int (0 : Int32)), none, none] [] ac_SK V ac_SK K := by
  obtain ⟨n, hn, hm⟩ : ∃ n : Nat, (V 42 4) = nI n ∧ n ≤ 40 := ⟨_, hz.1, hz.2⟩
  have hN : ((V 42 4)).toNatClampNeg = n := by rw [hn]; exact zz_ix (by omega)
  rw [vl_87_25] at h
  rw [hN] at h
  try simp only [hN] at hv1
  try simp only [hN] at hv2
  try simp only [hN] at hv3
  refine zz_fe (fun (i_87 : Nat) (a_87 : Unit) => ((if (V 44 i_87) = i1 then (if (V 46 i_87) = i3 then (if i5 < (V 48 i_87) then .inl () else (if (va_52 (V 45 i_87) i2 (if 0 ≤ (i4 - (V 47 i_87)) then (i4 - (V 47 i_87)) else 0 - (i4 - (V 47 i_87))) i3 V) = 0 then .inr (0 : Int32) else .inl ())) else .inl ()) else .inl ()) : Unit ⊕ Int32)) (fun i_87 a_87 => ab_J G (ac_ST L xs) l (d + 3) 87 25 [some (.ref 42), some (.int i1), some (.int i2), some (.int i3), some (.int i4), some (.int i5), some (.int (nI i_87)), none, none] [] ac_SK V ac_SK K) (fun b => aa_bit b → K (some (.int b)) V) n a0 ?_ ?_ ?_
  · intro a_87 hfo
    rw [hfo] at h
    refine iv_87_25 ⟨fun q => absurd q (zz_ge hn), fun _ => ?_⟩
    exact h (Or.inr rfl)
  · intro i_87 a_87 hi hfe hnx hex
    have e : (nI i_87).toNatClampNeg = i_87 := zz_ix (by omega)
    rw [nI_succ] at hnx
    refine iv_87_25 ⟨fun _ => ?_, fun q => absurd (zz_gl hn hi (by omega)) q⟩
    try simp only [e, ac_zs0, ac_zs1]
    refine ⟨vp_in_nI (by omega) (by decide), ?_⟩
    refine ⟨fun c1 => ?_, fun c1 => ?_⟩
    · refine ⟨vp_in_nI (by omega) (by decide), ?_⟩
      refine ⟨fun c2 => ?_, fun c2 => ?_⟩
      · refine ⟨vp_in_nI (by omega) (by decide), ?_⟩
        refine ⟨fun c3 => ?_, fun c3 => ?_⟩
        · refine ⟨vp_in_nI (by omega) (by decide), ?_⟩
          exact hnx _ ((if_pos c1).trans ((if_pos c2).trans ((if_pos c3).trans rfl)))
        · refine ⟨vp_in_nI (by omega) (by decide), ?_⟩
          refine ⟨vp_in_nI (by omega) (by decide), ?_⟩
          refine sp_52 (by first | exact (hv1 i_87 hi) | (simp only [e]; exact (hv1 i_87 hi)) | (simp only [hN]; exact (hv1 i_87 hi))) hp1 (by first | exact (hv2 i_87 hi) | (simp only [e]; exact (hv2 i_87 hi)) | (simp only [hN]; exact (hv2 i_87 hi))) hp2 (by first | exact (hv3 i_87 hi) | (simp only [e]; exact (hv3 i_87 hi)) | (simp only [hN]; exact (hv3 i_87 hi))) hp3 (fun hb4 => ?_)
          dsimp only [aa_rI, aa_rL]
          refine ⟨fun c5 => ?_, fun c5 => ?_⟩
          · exact hex _ ((if_pos c1).trans ((if_pos c2).trans ((if_neg c3).trans ((if_pos c5).trans rfl)))) (Or.inl rfl)
          · exact hnx _ ((if_pos c1).trans ((if_pos c2).trans ((if_neg c3).trans ((if_neg c5).trans rfl))))
      · refine ⟨vp_in_nI (by omega) (by decide), ?_⟩
        exact hnx _ ((if_pos c1).trans ((if_neg c2).trans rfl))
    · refine ⟨vp_in_nI (by omega) (by decide), ?_⟩
      exact hnx _ ((if_neg c1).trans rfl)
  · intro b hb
    rw [hb] at h
    exact h

def va_87 (i1 : Int32) (i2 : Int32) (i3 : Int32) (i4 : Int32) (i5 : Int32) (V : aa_V) : Int32 := (if (va_52 (V 43 ((i1).toNatClampNeg)) i2 i4 i3 V) = 0 then (0 : Int32) else (vl_87_25 i1 i2 i3 i4 i5 V ()))
set_option maxRecDepth 20000 in
/-- FrameCounty$Watch isPossible -/
theorem sp_87 {G : ab_G} {L : Nat} {xs : Nat → Int32} {l : Launch} {d : Nat} {i1 : Int32} {i2 : Int32} {i3 : Int32} {i4 : Int32} {i5 : Int32} {V : aa_V} {K : aa_K} (hw1 : vp_in i1 12) (hw2 : ((i3 - i3 / (30 : Int32) * (30 : Int32)) < (8 : Int32)) → vp_in (V 43 ((i1).toNatClampNeg)) 8) (hw3 : ((i3 - i3 / (30 : Int32) * (30 : Int32)) < (8 : Int32)) → vp_in i2 8) (hw4 : ¬ ((i3 - i3 / (30 : Int32) * (30 : Int32)) < (8 : Int32)) → ((22 : Int32) < (i3 - i3 / (30 : Int32) * (30 : Int32))) → vp_in (V 43 ((i1).toNatClampNeg)) 8) (hw5 : ¬ ((i3 - i3 / (30 : Int32) * (30 : Int32)) < (8 : Int32)) → ((22 : Int32) < (i3 - i3 / (30 : Int32) * (30 : Int32))) → vp_in i2 8) (hw6 : ¬ ((i3 - i3 / (30 : Int32) * (30 : Int32)) < (8 : Int32)) → ¬ ((22 : Int32) < (i3 - i3 / (30 : Int32) * (30 : Int32))) → vp_in (V 43 ((i1).toNatClampNeg)) 8) (hw7 : ¬ ((i3 - i3 / (30 : Int32) * (30 : Int32)) < (8 : Int32)) → ¬ ((22 : Int32) < (i3 - i3 / (30 : Int32) * (30 : Int32))) → vp_in i2 8) (hw8 : zb (V 42 4) 40) (hw9 : ∀ i_87 : Nat, i_87 < ((V 42 4)).toNatClampNeg → ((i3 - i3 / (30 : Int32) * (30 : Int32)) < (8 : Int32)) → vp_in (V 45 i_87) 8) (hw10 : ∀ i_87 : Nat, i_87 < ((V 42 4)).toNatClampNeg → ¬ ((i3 - i3 / (30 : Int32) * (30 : Int32)) < (8 : Int32)) → ((22 : Int32) < (i3 - i3 / (30 : Int32) * (30 : Int32))) → vp_in (V 45 i_87) 8) (hw11 : ∀ i_87 : Nat, i_87 < ((V 42 4)).toNatClampNeg → ¬ ((i3 - i3 / (30 : Int32) * (30 : Int32)) < (8 : Int32)) → ¬ ((22 : Int32) < (i3 - i3 / (30 : Int32) * (30 : Int32))) → vp_in (V 45 i_87) 8) (h : aa_bit (va_87 i1 i2 i3 i4 i5 V) → K (some (.int (va_87 i1 i2 i3 i4 i5 V))) V) :
    ab_E G (ac_ST L xs) l (d + 3) ac_SK 87 [.ref 42, .int i1, .int i2, .int i3, .int i4, .int i5] V K := by
  rw [va_87] at h
  refine iv_87_0 ?_
  refine ⟨hw1, ?_⟩
  refine sp_52 hw2 hw3 hw4 hw5 hw6 hw7 (fun hb1 => ?_)
  dsimp only [aa_rI, aa_rL, aa_rV]
  refine ⟨fun g2 => ?_, fun g2 => ?_⟩
  · simp only [if_pos g2] at h
    exact h (Or.inl rfl)
  · simp only [if_neg g2] at h
    exact lo_87_25 hw8 hw3 hw5 hw7 hw9 hw10 hw11 h

def vl_100_5 (i1 : Int32) (i2 : Int32) (V : aa_V) (a0 : Int32) : Int32 := ((fun (a_100 : Int32) => a_100) (fo (fun (i_100 : Nat) (a_100 : Int32) => ((if a_100 < (va_101 (nI i_100) i1 i2 V) then (va_101 (nI i_100) i1 i2 V) else a_100) : Int32)) ((V 64 0)).toNatClampNeg a0))
set_option maxRecDepth 20000 in
/-- FrameCounty$Weeks mostBroken, the loop at 5 -/
theorem lo_100_5 {G : ab_G} {L : Nat} {xs : Nat → Int32} {l : Launch} {d : Nat} {i1 : Int32} {i2 : Int32} {V : aa_V} {K : aa_K} {a0 : Int32} (hz : zb (V 64 0) 6) (hp1 : zb i2 5) (hp2 : ∀ i_101 : Nat, i_101 < (i2).toNatClampNeg → vp_in ((i2 - (1 : Int32)) - (nI i_101)) (ac_ST L xs 1).2.1) (hp3 : ∀ i_101 : Nat, i_101 < (i2).toNatClampNeg → ¬ (ac_zr1 (((i2 - (1 : Int32)) - (nI i_101))).toNatClampNeg) = 0) (h : K (some (.int (vl_100_5 i1 i2 V a0))) V) :
    ab_J G (ac_ST L xs) l (d + 3) 100 5 [some (.ref 64), some (.int i1), some (.int i2), some (.int a0), some (.int (0 : Int32))] [] ac_SK V ac_SK K := by
  obtain ⟨n, hn, hm⟩ : ∃ n : Nat, (V 64 0) = nI n ∧ n ≤ 6 := ⟨_, hz.1, hz.2⟩
  have hN : ((V 64 0)).toNatClampNeg = n := by rw [hn]; exact zz_ix (by omega)
  rw [vl_100_5] at h
  rw [hN] at h
  refine zz_fo (fun (i_100 : Nat) (a_100 : Int32) => ((if a_100 < (va_101 (nI i_100) i1 i2 V) then (va_101 (nI i_100) i1 i2 V) else a_100) : Int32)) (fun i_100 a_100 => ab_J G (ac_ST L xs) l (d + 3) 100 5 [some (.ref 64), some (.int i1), some (.int i2), some (.int a_100), some (.int (nI i_100))] [] ac_SK V ac_SK K) n a0 ?_ ?_
  · refine iv_100_5 ⟨fun q => absurd q (zz_ge hn), fun _ => ?_⟩
    try dsimp only at h
    generalize hfo : fo (fun (i_100 : Nat) (a_100 : Int32) => ((if a_100 < (va_101 (nI i_100) i1 i2 V) then (va_101 (nI i_100) i1 i2 V) else a_100) : Int32)) n a0 = a_100 at h ⊢
    exact h
  · intro i_100 hi ih
    have e : (nI i_100).toNatClampNeg = i_100 := zz_ix (by omega)
    rw [fo_s, nI_succ] at ih
    refine iv_100_5 ⟨fun _ => ?_, fun q => absurd (zz_gl hn hi (by omega)) q⟩
    try simp only [e, ac_zs0, ac_zs1]
    refine sp_101 hp1 (vp_in_nI (by omega) (by decide)) hp2 hp3 ?_
    dsimp only [aa_rI, aa_rL]
    skip
    exact ih

def va_100 (i1 : Int32) (i2 : Int32) (V : aa_V) : Int32 := (vl_100_5 i1 i2 V (0 : Int32))
set_option maxRecDepth 20000 in
/-- FrameCounty$Weeks mostBroken -/
theorem sp_100 {G : ab_G} {L : Nat} {xs : Nat → Int32} {l : Launch} {d : Nat} {i1 : Int32} {i2 : Int32} {V : aa_V} {K : aa_K} (hw1 : zb (V 64 0) 6) (hw2 : zb i2 5) (hw3 : ∀ i_101 : Nat, i_101 < (i2).toNatClampNeg → vp_in ((i2 - (1 : Int32)) - (nI i_101)) (ac_ST L xs 1).2.1) (hw4 : ∀ i_101 : Nat, i_101 < (i2).toNatClampNeg → ¬ (ac_zr1 (((i2 - (1 : Int32)) - (nI i_101))).toNatClampNeg) = 0) (h : K (some (.int (va_100 i1 i2 V))) V) :
    ab_E G (ac_ST L xs) l (d + 3) ac_SK 100 [.ref 64, .int i1, .int i2] V K := by
  rw [va_100] at h
  refine iv_100_0 ?_
  exact lo_100_5 hw1 hw2 hw3 hw4 h

def va_120 (i1 : Int32) (i2 : Int32) (V : aa_V) : Int64 := (if i2 = 0 then ((V 32 ((i1).toNatClampNeg)).toInt64) else (if i2 = 1 then ((V 33 ((i1).toNatClampNeg)).toInt64) else (if i2 = 2 then ((V 34 ((i1).toNatClampNeg)).toInt64) else (if i2 = 3 then ((V 35 ((i1).toNatClampNeg)).toInt64) else (if i2 = 4 then ((V 36 ((i1).toNatClampNeg)).toInt64) else (if i2 = 5 then ((va_126 i1 V).toInt64) else (if i2 = 6 then ((va_125 i1 V).toInt64) else (if i2 = 7 then (if (V 36 ((i1).toNatClampNeg)) = 0 then ((((va_126 i1 V) * (V 31 (((V 33 ((i1).toNatClampNeg))).toNatClampNeg))) - (va_125 i1 V)).toInt64) else (((0 : Int32) - (va_125 i1 V)).toInt64)) else (-4611686018427387904 : Int64)))))))))
set_option maxRecDepth 20000 in
/-- FrameCounty$Works tellOf -/
theorem sp_120 {G : ab_G} {L : Nat} {xs : Nat → Int32} {l : Launch} {d : Nat} {i1 : Int32} {i2 : Int32} {V : aa_V} {K : aa_K} (hw1 : (i2 = 0) → vp_in i1 20) (hw2 : ¬ (i2 = 0) → (i2 = 1) → vp_in i1 20) (hw3 : ¬ (i2 = 0) → ¬ (i2 = 1) → (i2 = 2) → vp_in i1 20) (hw4 : ¬ (i2 = 0) → ¬ (i2 = 1) → ¬ (i2 = 2) → (i2 = 3) → vp_in i1 20) (hw5 : ¬ (i2 = 0) → ¬ (i2 = 1) → ¬ (i2 = 2) → ¬ (i2 = 3) → (i2 = 4) → vp_in i1 20) (hw6 : ¬ (i2 = 0) → ¬ (i2 = 1) → ¬ (i2 = 2) → ¬ (i2 = 3) → ¬ (i2 = 4) → (i2 = 5) → vp_in i1 20) (hw7 : ¬ (i2 = 0) → ¬ (i2 = 1) → ¬ (i2 = 2) → ¬ (i2 = 3) → ¬ (i2 = 4) → ¬ (i2 = 5) → (i2 = 6) → vp_in i1 20) (hw8 : ¬ (i2 = 0) → ¬ (i2 = 1) → ¬ (i2 = 2) → ¬ (i2 = 3) → ¬ (i2 = 4) → ¬ (i2 = 5) → ¬ (i2 = 6) → (i2 = 7) → vp_in i1 20) (hw9 : ¬ (i2 = 0) → ¬ (i2 = 1) → ¬ (i2 = 2) → ¬ (i2 = 3) → ¬ (i2 = 4) → ¬ (i2 = 5) → ¬ (i2 = 6) → (i2 = 7) → ((V 36 ((i1).toNatClampNeg)) = 0) → vp_in (V 33 ((i1).toNatClampNeg)) 8) (h : K (some (.long (va_120 i1 i2 V))) V) :
    ab_E G (ac_ST L xs) l (d + 3) ac_SK 120 [.ref 29, .int i1, .int i2] V K := by
  rw [va_120] at h
  refine iv_120_0 ?_
  refine ⟨fun g1 => ?_, fun g1 => ?_⟩
  · refine ⟨(hw1 g1), ?_⟩
    simp only [if_pos g1] at h
    exact h
  · refine ⟨fun g2 => ?_, fun g2 => ?_⟩
    · refine ⟨(hw2 g1 g2), ?_⟩
      simp only [if_neg g1, if_pos g2] at h
      exact h
    · refine ⟨fun g3 => ?_, fun g3 => ?_⟩
      · refine ⟨(hw3 g1 g2 g3), ?_⟩
        simp only [if_neg g1, if_neg g2, if_pos g3] at h
        exact h
      · refine ⟨fun g4 => ?_, fun g4 => ?_⟩
        · refine ⟨(hw4 g1 g2 g3 g4), ?_⟩
          simp only [if_neg g1, if_neg g2, if_neg g3, if_pos g4] at h
          exact h
        · refine ⟨fun g5 => ?_, fun g5 => ?_⟩
          · refine ⟨(hw5 g1 g2 g3 g4 g5), ?_⟩
            simp only [if_neg g1, if_neg g2, if_neg g3, if_neg g4, if_pos g5] at h
            exact h
          · refine ⟨fun g6 => ?_, fun g6 => ?_⟩
            · refine sp_126 (hw6 g1 g2 g3 g4 g5 g6) ?_
              dsimp only [aa_rI, aa_rL, aa_rV]
              simp only [if_neg g1, if_neg g2, if_neg g3, if_neg g4, if_neg g5, if_pos g6] at h
              exact h
            · refine ⟨fun g8 => ?_, fun g8 => ?_⟩
              · refine sp_125 (hw7 g1 g2 g3 g4 g5 g6 g8) ?_
                dsimp only [aa_rI, aa_rL, aa_rV]
                simp only [if_neg g1, if_neg g2, if_neg g3, if_neg g4, if_neg g5, if_neg g6, if_pos g8] at h
                exact h
              · refine ⟨fun g10 => ?_, fun g10 => ?_⟩
                · refine ⟨(hw8 g1 g2 g3 g4 g5 g6 g8 g10), ?_⟩
                  refine ⟨fun g11 => ?_, fun g11 => ?_⟩
                  · refine sp_126 (hw8 g1 g2 g3 g4 g5 g6 g8 g10) ?_
                    dsimp only [aa_rI, aa_rL, aa_rV]
                    refine ⟨(hw8 g1 g2 g3 g4 g5 g6 g8 g10), ?_⟩
                    refine ⟨(hw9 g1 g2 g3 g4 g5 g6 g8 g10 g11), ?_⟩
                    refine sp_125 (hw8 g1 g2 g3 g4 g5 g6 g8 g10) ?_
                    dsimp only [aa_rI, aa_rL, aa_rV]
                    simp only [if_neg g1, if_neg g2, if_neg g3, if_neg g4, if_neg g5, if_neg g6, if_neg g8, if_pos g10, if_pos g11] at h
                    exact h
                  · refine sp_125 (hw8 g1 g2 g3 g4 g5 g6 g8 g10) ?_
                    dsimp only [aa_rI, aa_rL, aa_rV]
                    simp only [if_neg g1, if_neg g2, if_neg g3, if_neg g4, if_neg g5, if_neg g6, if_neg g8, if_pos g10, if_neg g11] at h
                    exact h
                · simp only [if_neg g1, if_neg g2, if_neg g3, if_neg g4, if_neg g5, if_neg g6, if_neg g8, if_neg g10] at h
                  exact h

def vl_128_4 (i1 : Int32) (V : aa_V) (a0 : Int32) : Int32 := ((fun (a_128 : Int32) => a_128) (fo (fun (i_128 : Nat) (a_128 : Int32) => ((if (V 33 i_128) = i1 then (if (V 36 i_128) = 0 then (a_128 + (((va_126 (nI i_128) V) * (V 31 (((V 33 i_128)).toNatClampNeg))) - (va_125 (nI i_128) V))) else (a_128 + ((0 : Int32) - (va_125 (nI i_128) V)))) else a_128) : Int32)) ((V 29 3)).toNatClampNeg a0))
set_option maxRecDepth 20000 in
/-- FrameCounty$Works earnedBy, the loop at 4 -/
theorem lo_128_4 {G : ab_G} {L : Nat} {xs : Nat → Int32} {l : Launch} {d : Nat} {i1 : Int32} {V : aa_V} {K : aa_K} {a0 : Int32} (hz : zb (V 29 3) 20) (hv1 : ∀ i_128 : Nat, i_128 < ((V 29 3)).toNatClampNeg → vp_in (V 33 i_128) 8) (h : K (some (.int (vl_128_4 i1 V a0))) V) :
    ab_J G (ac_ST L xs) l (d + 3) 128 4 [some (.ref 29), some (.int i1), some (.int a0), some (.int (0 : Int32))] [] ac_SK V ac_SK K := by
  obtain ⟨n, hn, hm⟩ : ∃ n : Nat, (V 29 3) = nI n ∧ n ≤ 20 := ⟨_, hz.1, hz.2⟩
  have hN : ((V 29 3)).toNatClampNeg = n := by rw [hn]; exact zz_ix (by omega)
  rw [vl_128_4] at h
  rw [hN] at h
  try simp only [hN] at hv1
  refine zz_fo (fun (i_128 : Nat) (a_128 : Int32) => ((if (V 33 i_128) = i1 then (if (V 36 i_128) = 0 then (a_128 + (((va_126 (nI i_128) V) * (V 31 (((V 33 i_128)).toNatClampNeg))) - (va_125 (nI i_128) V))) else (a_128 + ((0 : Int32) - (va_125 (nI i_128) V)))) else a_128) : Int32)) (fun i_128 a_128 => ab_J G (ac_ST L xs) l (d + 3) 128 4 [some (.ref 29), some (.int i1), some (.int a_128), some (.int (nI i_128))] [] ac_SK V ac_SK K) n a0 ?_ ?_
  · refine iv_128_4 ⟨fun q => absurd q (zz_ge hn), fun _ => ?_⟩
    try dsimp only at h
    generalize hfo : fo (fun (i_128 : Nat) (a_128 : Int32) => ((if (V 33 i_128) = i1 then (if (V 36 i_128) = 0 then (a_128 + (((va_126 (nI i_128) V) * (V 31 (((V 33 i_128)).toNatClampNeg))) - (va_125 (nI i_128) V))) else (a_128 + ((0 : Int32) - (va_125 (nI i_128) V)))) else a_128) : Int32)) n a0 = a_128 at h ⊢
    exact h
  · intro i_128 hi ih
    have e : (nI i_128).toNatClampNeg = i_128 := zz_ix (by omega)
    rw [fo_s, nI_succ] at ih
    refine iv_128_4 ⟨fun _ => ?_, fun q => absurd (zz_gl hn hi (by omega)) q⟩
    try simp only [e, ac_zs0, ac_zs1]
    refine ⟨vp_in_nI (by omega) (by decide), ?_⟩
    refine ⟨fun c1 => ?_, fun c1 => ?_⟩
    · refine ⟨vp_in_nI (by omega) (by decide), ?_⟩
      refine ⟨fun c2 => ?_, fun c2 => ?_⟩
      · refine sp_126 (vp_in_nI (by omega) (by decide)) ?_
        dsimp only [aa_rI, aa_rL]
        refine ⟨vp_in_nI (by omega) (by decide), ?_⟩
        refine ⟨(hv1 i_128 hi), ?_⟩
        refine sp_125 (vp_in_nI (by omega) (by decide)) ?_
        dsimp only [aa_rI, aa_rL]
        rw [if_pos c1, if_pos c2] at ih
        exact ih
      · refine sp_125 (vp_in_nI (by omega) (by decide)) ?_
        dsimp only [aa_rI, aa_rL]
        rw [if_pos c1, if_neg c2] at ih
        exact ih
    · rw [if_neg c1] at ih
      exact ih

def va_128 (i1 : Int32) (V : aa_V) : Int32 := (vl_128_4 i1 V (0 : Int32))
set_option maxRecDepth 20000 in
/-- FrameCounty$Works earnedBy -/
theorem sp_128 {G : ab_G} {L : Nat} {xs : Nat → Int32} {l : Launch} {d : Nat} {i1 : Int32} {V : aa_V} {K : aa_K} (hw1 : zb (V 29 3) 20) (hw2 : ∀ i_128 : Nat, i_128 < ((V 29 3)).toNatClampNeg → vp_in (V 33 i_128) 8) (h : K (some (.int (va_128 i1 V))) V) :
    ab_E G (ac_ST L xs) l (d + 3) ac_SK 128 [.ref 29, .int i1] V K := by
  rw [va_128] at h
  refine iv_128_0 ?_
  exact lo_128_4 hw1 hw2 h

def vl_134_9 (i1 : Int32) (i2 : Int32) (i3 : Int32) (V : aa_V) (a0 : Unit) : Int32 := (match fe (fun (i_134 : Nat) (a_134 : Unit) => ((if ((i2 >>> ((nI i_134) &&& 31)) &&& (1 : Int32)) = (1 : Int32) then (if ((i3 >>> ((nI i_134) &&& 31)) &&& (1 : Int32)) = (1 : Int32) then (if (va_132 i1 (nI i_134) V) = (1 : Int32) then .inl () else .inr (0 : Int32)) else (if (va_132 i1 (nI i_134) V) = (1 : Int32) then .inl () else .inr (0 : Int32))) else (if ((i3 >>> ((nI i_134) &&& 31)) &&& (1 : Int32)) = (1 : Int32) then (if (va_132 i1 (nI i_134) V) = (0 : Int32) then .inl () else .inr (0 : Int32)) else .inl ())) : Unit ⊕ Int32)) ((V 29 3)).toNatClampNeg a0 with
  | .inl a_134 => (1 : Int32)
  | .inr b => b)
set_option maxRecDepth 20000 in
/-- FrameCounty$Works parts, the loop at 9 -/
theorem lo_134_9 {G : ab_G} {L : Nat} {xs : Nat → Int32} {l : Launch} {d : Nat} {i1 : Int32} {i2 : Int32} {i3 : Int32} {V : aa_V} {K : aa_K} {a0 : Unit} (hz : zb (V 29 3) 1000000000) (hv1 : ∀ i_134 : Nat, i_134 < ((V 29 3)).toNatClampNeg → ((i1 / (300 : Int32)) = 0) → vp_in (nI i_134) 20) (hv2 : ∀ i_134 : Nat, i_134 < ((V 29 3)).toNatClampNeg → ¬ ((i1 / (300 : Int32)) = 0) → ((i1 / (300 : Int32)) = 1) → vp_in (nI i_134) 20) (hv3 : ∀ i_134 : Nat, i_134 < ((V 29 3)).toNatClampNeg → ¬ ((i1 / (300 : Int32)) = 0) → ¬ ((i1 / (300 : Int32)) = 1) → ((i1 / (300 : Int32)) = 2) → vp_in (nI i_134) 20) (hv4 : ∀ i_134 : Nat, i_134 < ((V 29 3)).toNatClampNeg → ¬ ((i1 / (300 : Int32)) = 0) → ¬ ((i1 / (300 : Int32)) = 1) → ¬ ((i1 / (300 : Int32)) = 2) → ((i1 / (300 : Int32)) = 3) → vp_in (nI i_134) 20) (hv5 : ∀ i_134 : Nat, i_134 < ((V 29 3)).toNatClampNeg → ¬ ((i1 / (300 : Int32)) = 0) → ¬ ((i1 / (300 : Int32)) = 1) → ¬ ((i1 / (300 : Int32)) = 2) → ((i1 / (300 : Int32)) = 3) → vp_in (V 33 i_134) 8) (hv6 : ∀ i_134 : Nat, i_134 < ((V 29 3)).toNatClampNeg → ¬ ((i1 / (300 : Int32)) = 0) → ¬ ((i1 / (300 : Int32)) = 1) → ¬ ((i1 / (300 : Int32)) = 2) → ¬ ((i1 / (300 : Int32)) = 3) → vp_in (nI i_134) 20) (hv7 : ∀ i_134 : Nat, i_134 < ((V 29 3)).toNatClampNeg → ¬ ((i1 / (300 : Int32)) = 0) → ¬ ((i1 / (300 : Int32)) = 1) → ¬ ((i1 / (300 : Int32)) = 2) → ¬ ((i1 / (300 : Int32)) = 3) → vp_in (V 33 i_134) 8) (h : aa_bit (vl_134_9 i1 i2 i3 V a0) → K (some (.int (vl_134_9 i1 i2 i3 V a0))) V) :
    ab_J G (ac_ST L xs) l (d + 3) 134 9 [some (.ref 29), some (.int i1), some (.int i2), some (.int i3), some (.int (0 : Int32)), none, none] [] ac_SK V ac_SK K := by
  obtain ⟨n, hn, hm⟩ : ∃ n : Nat, (V 29 3) = nI n ∧ n ≤ 1000000000 := ⟨_, hz.1, hz.2⟩
  have hN : ((V 29 3)).toNatClampNeg = n := by rw [hn]; exact zz_ix (by omega)
  rw [vl_134_9] at h
  rw [hN] at h
  try simp only [hN] at hv1
  try simp only [hN] at hv2
  try simp only [hN] at hv3
  try simp only [hN] at hv4
  try simp only [hN] at hv5
  try simp only [hN] at hv6
  try simp only [hN] at hv7
  refine zz_fe (fun (i_134 : Nat) (a_134 : Unit) => ((if ((i2 >>> ((nI i_134) &&& 31)) &&& (1 : Int32)) = (1 : Int32) then (if ((i3 >>> ((nI i_134) &&& 31)) &&& (1 : Int32)) = (1 : Int32) then (if (va_132 i1 (nI i_134) V) = (1 : Int32) then .inl () else .inr (0 : Int32)) else (if (va_132 i1 (nI i_134) V) = (1 : Int32) then .inl () else .inr (0 : Int32))) else (if ((i3 >>> ((nI i_134) &&& 31)) &&& (1 : Int32)) = (1 : Int32) then (if (va_132 i1 (nI i_134) V) = (0 : Int32) then .inl () else .inr (0 : Int32)) else .inl ())) : Unit ⊕ Int32)) (fun i_134 a_134 => ab_J G (ac_ST L xs) l (d + 3) 134 9 [some (.ref 29), some (.int i1), some (.int i2), some (.int i3), some (.int (nI i_134)), none, none] [] ac_SK V ac_SK K) (fun b => aa_bit b → K (some (.int b)) V) n a0 ?_ ?_ ?_
  · intro a_134 hfo
    rw [hfo] at h
    refine iv_134_9 ⟨fun q => absurd q (zz_ge hn), fun _ => ?_⟩
    exact h (Or.inr rfl)
  · intro i_134 a_134 hi hfe hnx hex
    have e : (nI i_134).toNatClampNeg = i_134 := zz_ix (by omega)
    rw [nI_succ] at hnx
    refine iv_134_9 ⟨fun _ => ?_, fun q => absurd (zz_gl hn hi (by omega)) q⟩
    try simp only [e, ac_zs0, ac_zs1]
    refine ⟨fun c1 => ?_, fun c1 => ?_⟩
    · refine ⟨fun c2 => ?_, fun c2 => ?_⟩
      · refine sp_132 (by first | exact (hv1 i_134 hi) | (simp only [e]; exact (hv1 i_134 hi)) | (simp only [hN]; exact (hv1 i_134 hi))) (by first | exact (hv2 i_134 hi) | (simp only [e]; exact (hv2 i_134 hi)) | (simp only [hN]; exact (hv2 i_134 hi))) (by first | exact (hv3 i_134 hi) | (simp only [e]; exact (hv3 i_134 hi)) | (simp only [hN]; exact (hv3 i_134 hi))) (by first | exact (hv4 i_134 hi) | (simp only [e]; exact (hv4 i_134 hi)) | (simp only [hN]; exact (hv4 i_134 hi))) (by first | exact (hv5 i_134 hi) | (simp only [e]; exact (hv5 i_134 hi)) | (simp only [hN]; exact (hv5 i_134 hi))) (by first | exact (hv6 i_134 hi) | (simp only [e]; exact (hv6 i_134 hi)) | (simp only [hN]; exact (hv6 i_134 hi))) (by first | exact (hv7 i_134 hi) | (simp only [e]; exact (hv7 i_134 hi)) | (simp only [hN]; exact (hv7 i_134 hi))) (fun hb3 => ?_)
        dsimp only [aa_rI, aa_rL]
        refine ⟨fun c4 => ?_, fun c4 => ?_⟩
        · exact hnx _ ((if_pos c1).trans ((if_pos c2).trans ((if_pos c4).trans rfl)))
        · exact hex _ ((if_pos c1).trans ((if_pos c2).trans ((if_neg c4).trans rfl))) (Or.inl rfl)
      · refine sp_132 (by first | exact (hv1 i_134 hi) | (simp only [e]; exact (hv1 i_134 hi)) | (simp only [hN]; exact (hv1 i_134 hi))) (by first | exact (hv2 i_134 hi) | (simp only [e]; exact (hv2 i_134 hi)) | (simp only [hN]; exact (hv2 i_134 hi))) (by first | exact (hv3 i_134 hi) | (simp only [e]; exact (hv3 i_134 hi)) | (simp only [hN]; exact (hv3 i_134 hi))) (by first | exact (hv4 i_134 hi) | (simp only [e]; exact (hv4 i_134 hi)) | (simp only [hN]; exact (hv4 i_134 hi))) (by first | exact (hv5 i_134 hi) | (simp only [e]; exact (hv5 i_134 hi)) | (simp only [hN]; exact (hv5 i_134 hi))) (by first | exact (hv6 i_134 hi) | (simp only [e]; exact (hv6 i_134 hi)) | (simp only [hN]; exact (hv6 i_134 hi))) (by first | exact (hv7 i_134 hi) | (simp only [e]; exact (hv7 i_134 hi)) | (simp only [hN]; exact (hv7 i_134 hi))) (fun hb5 => ?_)
        dsimp only [aa_rI, aa_rL]
        refine ⟨fun c6 => ?_, fun c6 => ?_⟩
        · exact hnx _ ((if_pos c1).trans ((if_neg c2).trans ((if_pos c6).trans rfl)))
        · exact hex _ ((if_pos c1).trans ((if_neg c2).trans ((if_neg c6).trans rfl))) (Or.inl rfl)
    · refine ⟨fun c7 => ?_, fun c7 => ?_⟩
      · refine sp_132 (by first | exact (hv1 i_134 hi) | (simp only [e]; exact (hv1 i_134 hi)) | (simp only [hN]; exact (hv1 i_134 hi))) (by first | exact (hv2 i_134 hi) | (simp only [e]; exact (hv2 i_134 hi)) | (simp only [hN]; exact (hv2 i_134 hi))) (by first | exact (hv3 i_134 hi) | (simp only [e]; exact (hv3 i_134 hi)) | (simp only [hN]; exact (hv3 i_134 hi))) (by first | exact (hv4 i_134 hi) | (simp only [e]; exact (hv4 i_134 hi)) | (simp only [hN]; exact (hv4 i_134 hi))) (by first | exact (hv5 i_134 hi) | (simp only [e]; exact (hv5 i_134 hi)) | (simp only [hN]; exact (hv5 i_134 hi))) (by first | exact (hv6 i_134 hi) | (simp only [e]; exact (hv6 i_134 hi)) | (simp only [hN]; exact (hv6 i_134 hi))) (by first | exact (hv7 i_134 hi) | (simp only [e]; exact (hv7 i_134 hi)) | (simp only [hN]; exact (hv7 i_134 hi))) (fun hb8 => ?_)
        dsimp only [aa_rI, aa_rL]
        refine ⟨fun c9 => ?_, fun c9 => ?_⟩
        · exact hnx _ ((if_neg c1).trans ((if_pos c7).trans ((if_pos c9).trans rfl)))
        · exact hex _ ((if_neg c1).trans ((if_pos c7).trans ((if_neg c9).trans rfl))) (Or.inl rfl)
      · exact hnx _ ((if_neg c1).trans ((if_neg c7).trans rfl))
  · intro b hb
    rw [hb] at h
    exact h

def va_134 (i1 : Int32) (i2 : Int32) (i3 : Int32) (V : aa_V) : Int32 := (if i2 = 0 then (0 : Int32) else (vl_134_9 i1 i2 i3 V ()))
set_option maxRecDepth 20000 in
/-- FrameCounty$Works parts -/
theorem sp_134 {G : ab_G} {L : Nat} {xs : Nat → Int32} {l : Launch} {d : Nat} {i1 : Int32} {i2 : Int32} {i3 : Int32} {V : aa_V} {K : aa_K} (hw1 : zb (V 29 3) 1000000000) (hw2 : ∀ i_134 : Nat, i_134 < ((V 29 3)).toNatClampNeg → ((i1 / (300 : Int32)) = 0) → vp_in (nI i_134) 20) (hw3 : ∀ i_134 : Nat, i_134 < ((V 29 3)).toNatClampNeg → ¬ ((i1 / (300 : Int32)) = 0) → ((i1 / (300 : Int32)) = 1) → vp_in (nI i_134) 20) (hw4 : ∀ i_134 : Nat, i_134 < ((V 29 3)).toNatClampNeg → ¬ ((i1 / (300 : Int32)) = 0) → ¬ ((i1 / (300 : Int32)) = 1) → ((i1 / (300 : Int32)) = 2) → vp_in (nI i_134) 20) (hw5 : ∀ i_134 : Nat, i_134 < ((V 29 3)).toNatClampNeg → ¬ ((i1 / (300 : Int32)) = 0) → ¬ ((i1 / (300 : Int32)) = 1) → ¬ ((i1 / (300 : Int32)) = 2) → ((i1 / (300 : Int32)) = 3) → vp_in (nI i_134) 20) (hw6 : ∀ i_134 : Nat, i_134 < ((V 29 3)).toNatClampNeg → ¬ ((i1 / (300 : Int32)) = 0) → ¬ ((i1 / (300 : Int32)) = 1) → ¬ ((i1 / (300 : Int32)) = 2) → ((i1 / (300 : Int32)) = 3) → vp_in (V 33 i_134) 8) (hw7 : ∀ i_134 : Nat, i_134 < ((V 29 3)).toNatClampNeg → ¬ ((i1 / (300 : Int32)) = 0) → ¬ ((i1 / (300 : Int32)) = 1) → ¬ ((i1 / (300 : Int32)) = 2) → ¬ ((i1 / (300 : Int32)) = 3) → vp_in (nI i_134) 20) (hw8 : ∀ i_134 : Nat, i_134 < ((V 29 3)).toNatClampNeg → ¬ ((i1 / (300 : Int32)) = 0) → ¬ ((i1 / (300 : Int32)) = 1) → ¬ ((i1 / (300 : Int32)) = 2) → ¬ ((i1 / (300 : Int32)) = 3) → vp_in (V 33 i_134) 8) (h : aa_bit (va_134 i1 i2 i3 V) → K (some (.int (va_134 i1 i2 i3 V))) V) :
    ab_E G (ac_ST L xs) l (d + 3) ac_SK 134 [.ref 29, .int i1, .int i2, .int i3] V K := by
  rw [va_134] at h
  refine iv_134_0 ?_
  refine ⟨fun g1 => ?_, fun g1 => ?_⟩
  · simp only [if_pos g1] at h
    exact h (Or.inl rfl)
  · simp only [if_neg g1] at h
    exact lo_134_9 hw1 hw2 hw3 hw4 hw5 hw6 hw7 hw8 h

def vl_136_5 (i1 : Int32) (i2 : Int32) (V : aa_V) (a0 : Int32) : Int32 := ((fun (a_136 : Int32) => a_136) (fo (fun (i_136 : Nat) (a_136 : Int32) => ((if (V 33 i_136) = i2 then (if (V 36 i_136) = 0 then (if (va_132 i1 (nI i_136) V) = 0 then a_136 else (a_136 + 1)) else a_136) else a_136) : Int32)) ((V 29 3)).toNatClampNeg a0))
set_option maxRecDepth 20000 in
/-- FrameCounty$Works wholeThatFit, the loop at 5 -/
theorem lo_136_5 {G : ab_G} {L : Nat} {xs : Nat → Int32} {l : Launch} {d : Nat} {i1 : Int32} {i2 : Int32} {V : aa_V} {K : aa_K} {a0 : Int32} (hz : zb (V 29 3) 20) (hv1 : ∀ i_136 : Nat, i_136 < ((V 29 3)).toNatClampNeg → ((i1 / (300 : Int32)) = 0) → vp_in (nI i_136) 20) (hv2 : ∀ i_136 : Nat, i_136 < ((V 29 3)).toNatClampNeg → ¬ ((i1 / (300 : Int32)) = 0) → ((i1 / (300 : Int32)) = 1) → vp_in (nI i_136) 20) (hv3 : ∀ i_136 : Nat, i_136 < ((V 29 3)).toNatClampNeg → ¬ ((i1 / (300 : Int32)) = 0) → ¬ ((i1 / (300 : Int32)) = 1) → ((i1 / (300 : Int32)) = 2) → vp_in (nI i_136) 20) (hv4 : ∀ i_136 : Nat, i_136 < ((V 29 3)).toNatClampNeg → ¬ ((i1 / (300 : Int32)) = 0) → ¬ ((i1 / (300 : Int32)) = 1) → ¬ ((i1 / (300 : Int32)) = 2) → ((i1 / (300 : Int32)) = 3) → vp_in (nI i_136) 20) (hv5 : ∀ i_136 : Nat, i_136 < ((V 29 3)).toNatClampNeg → ¬ ((i1 / (300 : Int32)) = 0) → ¬ ((i1 / (300 : Int32)) = 1) → ¬ ((i1 / (300 : Int32)) = 2) → ((i1 / (300 : Int32)) = 3) → vp_in (V 33 i_136) 8) (hv6 : ∀ i_136 : Nat, i_136 < ((V 29 3)).toNatClampNeg → ¬ ((i1 / (300 : Int32)) = 0) → ¬ ((i1 / (300 : Int32)) = 1) → ¬ ((i1 / (300 : Int32)) = 2) → ¬ ((i1 / (300 : Int32)) = 3) → vp_in (nI i_136) 20) (hv7 : ∀ i_136 : Nat, i_136 < ((V 29 3)).toNatClampNeg → ¬ ((i1 / (300 : Int32)) = 0) → ¬ ((i1 / (300 : Int32)) = 1) → ¬ ((i1 / (300 : Int32)) = 2) → ¬ ((i1 / (300 : Int32)) = 3) → vp_in (V 33 i_136) 8) (h : K (some (.int (vl_136_5 i1 i2 V a0))) V) :
    ab_J G (ac_ST L xs) l (d + 3) 136 5 [some (.ref 29), some (.int i1), some (.int i2), some (.int a0), some (.int (0 : Int32))] [] ac_SK V ac_SK K := by
  obtain ⟨n, hn, hm⟩ : ∃ n : Nat, (V 29 3) = nI n ∧ n ≤ 20 := ⟨_, hz.1, hz.2⟩
  have hN : ((V 29 3)).toNatClampNeg = n := by rw [hn]; exact zz_ix (by omega)
  rw [vl_136_5] at h
  rw [hN] at h
  try simp only [hN] at hv1
  try simp only [hN] at hv2
  try simp only [hN] at hv3
  try simp only [hN] at hv4
  try simp only [hN] at hv5
  try simp only [hN] at hv6
  try simp only [hN] at hv7
  refine zz_fo (fun (i_136 : Nat) (a_136 : Int32) => ((if (V 33 i_136) = i2 then (if (V 36 i_136) = 0 then (if (va_132 i1 (nI i_136) V) = 0 then a_136 else (a_136 + 1)) else a_136) else a_136) : Int32)) (fun i_136 a_136 => ab_J G (ac_ST L xs) l (d + 3) 136 5 [some (.ref 29), some (.int i1), some (.int i2), some (.int a_136), some (.int (nI i_136))] [] ac_SK V ac_SK K) n a0 ?_ ?_
  · refine iv_136_5 ⟨fun q => absurd q (zz_ge hn), fun _ => ?_⟩
    try dsimp only at h
    generalize hfo : fo (fun (i_136 : Nat) (a_136 : Int32) => ((if (V 33 i_136) = i2 then (if (V 36 i_136) = 0 then (if (va_132 i1 (nI i_136) V) = 0 then a_136 else (a_136 + 1)) else a_136) else a_136) : Int32)) n a0 = a_136 at h ⊢
    exact h
  · intro i_136 hi ih
    have e : (nI i_136).toNatClampNeg = i_136 := zz_ix (by omega)
    rw [fo_s, nI_succ] at ih
    refine iv_136_5 ⟨fun _ => ?_, fun q => absurd (zz_gl hn hi (by omega)) q⟩
    try simp only [e, ac_zs0, ac_zs1]
    refine ⟨vp_in_nI (by omega) (by decide), ?_⟩
    refine ⟨fun c1 => ?_, fun c1 => ?_⟩
    · refine ⟨vp_in_nI (by omega) (by decide), ?_⟩
      refine ⟨fun c2 => ?_, fun c2 => ?_⟩
      · refine sp_132 (by first | exact (hv1 i_136 hi) | (simp only [e]; exact (hv1 i_136 hi)) | (simp only [hN]; exact (hv1 i_136 hi))) (by first | exact (hv2 i_136 hi) | (simp only [e]; exact (hv2 i_136 hi)) | (simp only [hN]; exact (hv2 i_136 hi))) (by first | exact (hv3 i_136 hi) | (simp only [e]; exact (hv3 i_136 hi)) | (simp only [hN]; exact (hv3 i_136 hi))) (by first | exact (hv4 i_136 hi) | (simp only [e]; exact (hv4 i_136 hi)) | (simp only [hN]; exact (hv4 i_136 hi))) (by first | exact (hv5 i_136 hi) | (simp only [e]; exact (hv5 i_136 hi)) | (simp only [hN]; exact (hv5 i_136 hi))) (by first | exact (hv6 i_136 hi) | (simp only [e]; exact (hv6 i_136 hi)) | (simp only [hN]; exact (hv6 i_136 hi))) (by first | exact (hv7 i_136 hi) | (simp only [e]; exact (hv7 i_136 hi)) | (simp only [hN]; exact (hv7 i_136 hi))) (fun hb3 => ?_)
        dsimp only [aa_rI, aa_rL]
        refine ⟨fun c4 => ?_, fun c4 => ?_⟩
        · rw [if_pos c1, if_pos c2, if_pos c4] at ih
          exact ih
        · rw [if_pos c1, if_pos c2, if_neg c4] at ih
          exact ih
      · rw [if_pos c1, if_neg c2] at ih
        exact ih
    · rw [if_neg c1] at ih
      exact ih

def va_136 (i1 : Int32) (i2 : Int32) (V : aa_V) : Int32 := (vl_136_5 i1 i2 V (0 : Int32))
set_option maxRecDepth 20000 in
/-- FrameCounty$Works wholeThatFit -/
theorem sp_136 {G : ab_G} {L : Nat} {xs : Nat → Int32} {l : Launch} {d : Nat} {i1 : Int32} {i2 : Int32} {V : aa_V} {K : aa_K} (hw1 : zb (V 29 3) 20) (hw2 : ∀ i_136 : Nat, i_136 < ((V 29 3)).toNatClampNeg → ((i1 / (300 : Int32)) = 0) → vp_in (nI i_136) 20) (hw3 : ∀ i_136 : Nat, i_136 < ((V 29 3)).toNatClampNeg → ¬ ((i1 / (300 : Int32)) = 0) → ((i1 / (300 : Int32)) = 1) → vp_in (nI i_136) 20) (hw4 : ∀ i_136 : Nat, i_136 < ((V 29 3)).toNatClampNeg → ¬ ((i1 / (300 : Int32)) = 0) → ¬ ((i1 / (300 : Int32)) = 1) → ((i1 / (300 : Int32)) = 2) → vp_in (nI i_136) 20) (hw5 : ∀ i_136 : Nat, i_136 < ((V 29 3)).toNatClampNeg → ¬ ((i1 / (300 : Int32)) = 0) → ¬ ((i1 / (300 : Int32)) = 1) → ¬ ((i1 / (300 : Int32)) = 2) → ((i1 / (300 : Int32)) = 3) → vp_in (nI i_136) 20) (hw6 : ∀ i_136 : Nat, i_136 < ((V 29 3)).toNatClampNeg → ¬ ((i1 / (300 : Int32)) = 0) → ¬ ((i1 / (300 : Int32)) = 1) → ¬ ((i1 / (300 : Int32)) = 2) → ((i1 / (300 : Int32)) = 3) → vp_in (V 33 i_136) 8) (hw7 : ∀ i_136 : Nat, i_136 < ((V 29 3)).toNatClampNeg → ¬ ((i1 / (300 : Int32)) = 0) → ¬ ((i1 / (300 : Int32)) = 1) → ¬ ((i1 / (300 : Int32)) = 2) → ¬ ((i1 / (300 : Int32)) = 3) → vp_in (nI i_136) 20) (hw8 : ∀ i_136 : Nat, i_136 < ((V 29 3)).toNatClampNeg → ¬ ((i1 / (300 : Int32)) = 0) → ¬ ((i1 / (300 : Int32)) = 1) → ¬ ((i1 / (300 : Int32)) = 2) → ¬ ((i1 / (300 : Int32)) = 3) → vp_in (V 33 i_136) 8) (h : K (some (.int (va_136 i1 i2 V))) V) :
    ab_E G (ac_ST L xs) l (d + 3) ac_SK 136 [.ref 29, .int i1, .int i2] V K := by
  rw [va_136] at h
  refine iv_136_0 ?_
  exact lo_136_5 hw1 hw2 hw3 hw4 hw5 hw6 hw7 hw8 h

def va_140 (i1 : Int32) (i2 : Int32) (i3 : Int32) (V : aa_V) : Int32 := (if i1 < (0 : Int32) then (-2 : Int32) else (if (7 : Int32) < i1 then (-2 : Int32) else (if i2 < (0 : Int32) then (-2 : Int32) else (if (7 : Int32) < i2 then (-2 : Int32) else (if i3 < (0 : Int32) then (-2 : Int32) else (if (399 : Int32) < i3 then (-2 : Int32) else (va_51 i1 i2 i3 V)))))))
set_option maxRecDepth 20000 in
/-- FrameCounty far -/
theorem sp_140 {G : ab_G} {L : Nat} {xs : Nat → Int32} {l : Launch} {d : Nat} {i1 : Int32} {i2 : Int32} {i3 : Int32} {V : aa_V} {K : aa_K} (hw1 : ¬ (i1 < (0 : Int32)) → ¬ ((7 : Int32) < i1) → ¬ (i2 < (0 : Int32)) → ¬ ((7 : Int32) < i2) → ¬ (i3 < (0 : Int32)) → ¬ ((399 : Int32) < i3) → ((i3 - i3 / (30 : Int32) * (30 : Int32)) < (8 : Int32)) → vp_in i1 8) (hw2 : ¬ (i1 < (0 : Int32)) → ¬ ((7 : Int32) < i1) → ¬ (i2 < (0 : Int32)) → ¬ ((7 : Int32) < i2) → ¬ (i3 < (0 : Int32)) → ¬ ((399 : Int32) < i3) → ((i3 - i3 / (30 : Int32) * (30 : Int32)) < (8 : Int32)) → vp_in i2 8) (hw3 : ¬ (i1 < (0 : Int32)) → ¬ ((7 : Int32) < i1) → ¬ (i2 < (0 : Int32)) → ¬ ((7 : Int32) < i2) → ¬ (i3 < (0 : Int32)) → ¬ ((399 : Int32) < i3) → ¬ ((i3 - i3 / (30 : Int32) * (30 : Int32)) < (8 : Int32)) → ((22 : Int32) < (i3 - i3 / (30 : Int32) * (30 : Int32))) → vp_in i1 8) (hw4 : ¬ (i1 < (0 : Int32)) → ¬ ((7 : Int32) < i1) → ¬ (i2 < (0 : Int32)) → ¬ ((7 : Int32) < i2) → ¬ (i3 < (0 : Int32)) → ¬ ((399 : Int32) < i3) → ¬ ((i3 - i3 / (30 : Int32) * (30 : Int32)) < (8 : Int32)) → ((22 : Int32) < (i3 - i3 / (30 : Int32) * (30 : Int32))) → vp_in i2 8) (hw5 : ¬ (i1 < (0 : Int32)) → ¬ ((7 : Int32) < i1) → ¬ (i2 < (0 : Int32)) → ¬ ((7 : Int32) < i2) → ¬ (i3 < (0 : Int32)) → ¬ ((399 : Int32) < i3) → ¬ ((i3 - i3 / (30 : Int32) * (30 : Int32)) < (8 : Int32)) → ¬ ((22 : Int32) < (i3 - i3 / (30 : Int32) * (30 : Int32))) → vp_in i1 8) (hw6 : ¬ (i1 < (0 : Int32)) → ¬ ((7 : Int32) < i1) → ¬ (i2 < (0 : Int32)) → ¬ ((7 : Int32) < i2) → ¬ (i3 < (0 : Int32)) → ¬ ((399 : Int32) < i3) → ¬ ((i3 - i3 / (30 : Int32) * (30 : Int32)) < (8 : Int32)) → ¬ ((22 : Int32) < (i3 - i3 / (30 : Int32) * (30 : Int32))) → vp_in i2 8) (h : K (some (.int (va_140 i1 i2 i3 V))) V) :
    ab_E G (ac_ST L xs) l (d + 3) ac_SK 140 [.ref 0, .int i1, .int i2, .int i3] V K := by
  rw [va_140] at h
  refine iv_140_0 ?_
  refine ⟨fun g1 => ?_, fun g1 => ?_⟩
  · simp only [if_pos g1] at h
    exact h
  · refine ⟨fun g2 => ?_, fun g2 => ?_⟩
    · simp only [if_neg g1, if_pos g2] at h
      exact h
    · refine ⟨fun g3 => ?_, fun g3 => ?_⟩
      · simp only [if_neg g1, if_neg g2, if_pos g3] at h
        exact h
      · refine ⟨fun g4 => ?_, fun g4 => ?_⟩
        · simp only [if_neg g1, if_neg g2, if_neg g3, if_pos g4] at h
          exact h
        · refine ⟨fun g5 => ?_, fun g5 => ?_⟩
          · simp only [if_neg g1, if_neg g2, if_neg g3, if_neg g4, if_pos g5] at h
            exact h
          · refine ⟨fun g6 => ?_, fun g6 => ?_⟩
            · simp only [if_neg g1, if_neg g2, if_neg g3, if_neg g4, if_neg g5, if_pos g6] at h
              exact h
            · refine sp_51 (hw1 g1 g2 g3 g4 g5 g6) (hw2 g1 g2 g3 g4 g5 g6) (hw3 g1 g2 g3 g4 g5 g6) (hw4 g1 g2 g3 g4 g5 g6) (hw5 g1 g2 g3 g4 g5 g6) (hw6 g1 g2 g3 g4 g5 g6) ?_
              dsimp only [aa_rI, aa_rL, aa_rV]
              simp only [if_neg g1, if_neg g2, if_neg g3, if_neg g4, if_neg g5, if_neg g6] at h
              exact h

def va_141 (i1 : Int32) (i2 : Int32) (V : aa_V) : Int32 := (if i1 < (0 : Int32) then (-2 : Int32) else (if (7 : Int32) < i1 then (-2 : Int32) else (if i2 < (0 : Int32) then (-2 : Int32) else (if (99 : Int32) < i2 then (-2 : Int32) else (if (V 29 0) < (8 : Int32) then (((V 29 0) + (1 : Int32)) - (1 : Int32)) else (-4 : Int32))))))
def vn_141 (i1 : Int32) (i2 : Int32) (V : aa_V) : aa_V := (if i1 < (0 : Int32) then V else (if (7 : Int32) < i1 then V else (if i2 < (0 : Int32) then V else (if (99 : Int32) < i2 then V else (if (V 29 0) < (8 : Int32) then (aa_up (aa_up (aa_up V 30 (((V 29 0)).toNatClampNeg) i1) 31 (((V 29 0)).toNatClampNeg) i2) 29 0 ((V 29 0) + (1 : Int32))) else V)))))
set_option maxRecDepth 20000 in
/-- FrameCounty shop -/
theorem sp_141 {G : ab_G} {L : Nat} {xs : Nat → Int32} {l : Launch} {d : Nat} {i1 : Int32} {i2 : Int32} {V : aa_V} {K : aa_K} (hw1 : ¬ (i1 < (0 : Int32)) → ¬ ((7 : Int32) < i1) → ¬ (i2 < (0 : Int32)) → ¬ ((99 : Int32) < i2) → ((V 29 0) < (8 : Int32)) → vp_in (V 29 0) 8) (h : K (some (.int (va_141 i1 i2 V))) (vn_141 i1 i2 V)) :
    ab_E G (ac_ST L xs) l (d + 3) ac_SK 141 [.ref 0, .int i1, .int i2] V K := by
  rw [va_141, vn_141] at h
  refine iv_141_0 ?_
  refine ⟨fun g1 => ?_, fun g1 => ?_⟩
  · simp only [if_pos g1] at h
    exact h
  · refine ⟨fun g2 => ?_, fun g2 => ?_⟩
    · simp only [if_neg g1, if_pos g2] at h
      exact h
    · refine ⟨fun g3 => ?_, fun g3 => ?_⟩
      · simp only [if_neg g1, if_neg g2, if_pos g3] at h
        exact h
      · refine ⟨fun g4 => ?_, fun g4 => ?_⟩
        · simp only [if_neg g1, if_neg g2, if_neg g3, if_pos g4] at h
          exact h
        · refine ⟨fun g5 => ?_, fun g5 => ?_⟩
          · refine ⟨(hw1 g1 g2 g3 g4 g5), ?_⟩
            refine ⟨(hw1 g1 g2 g3 g4 g5), ?_⟩
            simp only [if_neg g1, if_neg g2, if_neg g3, if_neg g4, if_pos g5] at h
            exact h
          · simp only [if_neg g1, if_neg g2, if_neg g3, if_neg g4, if_neg g5] at h
            exact h

def va_142 (i1 : Int32) (i2 : Int32) (V : aa_V) : Int32 := (if i1 < (0 : Int32) then (-2 : Int32) else (if ((V 29 0) - (1 : Int32)) < i1 then (-2 : Int32) else (if i2 < (0 : Int32) then (-2 : Int32) else (if (99 : Int32) < i2 then (-2 : Int32) else (V 31 ((i1).toNatClampNeg))))))
def vn_142 (i1 : Int32) (i2 : Int32) (V : aa_V) : aa_V := (if i1 < (0 : Int32) then V else (if ((V 29 0) - (1 : Int32)) < i1 then V else (if i2 < (0 : Int32) then V else (if (99 : Int32) < i2 then V else (aa_up V 31 ((i1).toNatClampNeg) i2)))))
set_option maxRecDepth 20000 in
/-- FrameCounty pays -/
theorem sp_142 {G : ab_G} {L : Nat} {xs : Nat → Int32} {l : Launch} {d : Nat} {i1 : Int32} {i2 : Int32} {V : aa_V} {K : aa_K} (hw1 : ¬ (i1 < (0 : Int32)) → ¬ (((V 29 0) - (1 : Int32)) < i1) → ¬ (i2 < (0 : Int32)) → ¬ ((99 : Int32) < i2) → vp_in i1 8) (h : K (some (.int (va_142 i1 i2 V))) (vn_142 i1 i2 V)) :
    ab_E G (ac_ST L xs) l (d + 3) ac_SK 142 [.ref 0, .int i1, .int i2] V K := by
  rw [va_142, vn_142] at h
  refine iv_142_0 ?_
  refine ⟨fun g1 => ?_, fun g1 => ?_⟩
  · simp only [if_pos g1] at h
    exact h
  · refine ⟨fun g2 => ?_, fun g2 => ?_⟩
    · simp only [if_neg g1, if_pos g2] at h
      exact h
    · refine ⟨fun g3 => ?_, fun g3 => ?_⟩
      · simp only [if_neg g1, if_neg g2, if_pos g3] at h
        exact h
      · refine ⟨fun g4 => ?_, fun g4 => ?_⟩
        · simp only [if_neg g1, if_neg g2, if_neg g3, if_pos g4] at h
          exact h
        · refine ⟨(hw1 g1 g2 g3 g4), ?_⟩
          refine ⟨(hw1 g1 g2 g3 g4), ?_⟩
          simp only [if_neg g1, if_neg g2, if_neg g3, if_neg g4] at h
          exact h

def va_143 (i1 : Int32) (i2 : Int32) (i3 : Int32) (i4 : Int32) (V : aa_V) : Int32 := (if i1 < (0 : Int32) then (-2 : Int32) else (if (5 : Int32) < i1 then (-2 : Int32) else (if i2 < (0 : Int32) then (-2 : Int32) else (if ((V 29 0) - (1 : Int32)) < i2 then (-2 : Int32) else (if i3 < (10 : Int32) then (-2 : Int32) else (if (60 : Int32) < i3 then (-2 : Int32) else (if i4 < (0 : Int32) then (-2 : Int32) else (if (99 : Int32) < i4 then (-2 : Int32) else (if (V 29 3) < (20 : Int32) then (((V 29 3) + (1 : Int32)) - (1 : Int32)) else (-4 : Int32))))))))))
def vn_143 (i1 : Int32) (i2 : Int32) (i3 : Int32) (i4 : Int32) (V : aa_V) : aa_V := (if i1 < (0 : Int32) then V else (if (5 : Int32) < i1 then V else (if i2 < (0 : Int32) then V else (if ((V 29 0) - (1 : Int32)) < i2 then V else (if i3 < (10 : Int32) then V else (if (60 : Int32) < i3 then V else (if i4 < (0 : Int32) then V else (if (99 : Int32) < i4 then V else (if (V 29 3) < (20 : Int32) then (aa_up (aa_up (aa_up (aa_up (aa_up V 32 (((V 29 3)).toNatClampNeg) i1) 33 (((V 29 3)).toNatClampNeg) i2) 34 (((V 29 3)).toNatClampNeg) i3) 35 (((V 29 3)).toNatClampNeg) i4) 29 3 ((V 29 3) + (1 : Int32))) else V)))))))))
set_option maxRecDepth 20000 in
/-- FrameCounty frame -/
theorem sp_143 {G : ab_G} {L : Nat} {xs : Nat → Int32} {l : Launch} {d : Nat} {i1 : Int32} {i2 : Int32} {i3 : Int32} {i4 : Int32} {V : aa_V} {K : aa_K} (hw1 : ¬ (i1 < (0 : Int32)) → ¬ ((5 : Int32) < i1) → ¬ (i2 < (0 : Int32)) → ¬ (((V 29 0) - (1 : Int32)) < i2) → ¬ (i3 < (10 : Int32)) → ¬ ((60 : Int32) < i3) → ¬ (i4 < (0 : Int32)) → ¬ ((99 : Int32) < i4) → ((V 29 3) < (20 : Int32)) → vp_in (V 29 3) 20) (h : K (some (.int (va_143 i1 i2 i3 i4 V))) (vn_143 i1 i2 i3 i4 V)) :
    ab_E G (ac_ST L xs) l (d + 3) ac_SK 143 [.ref 0, .int i1, .int i2, .int i3, .int i4] V K := by
  rw [va_143, vn_143] at h
  refine iv_143_0 ?_
  refine ⟨fun g1 => ?_, fun g1 => ?_⟩
  · simp only [if_pos g1] at h
    exact h
  · refine ⟨fun g2 => ?_, fun g2 => ?_⟩
    · simp only [if_neg g1, if_pos g2] at h
      exact h
    · refine ⟨fun g3 => ?_, fun g3 => ?_⟩
      · simp only [if_neg g1, if_neg g2, if_pos g3] at h
        exact h
      · refine ⟨fun g4 => ?_, fun g4 => ?_⟩
        · simp only [if_neg g1, if_neg g2, if_neg g3, if_pos g4] at h
          exact h
        · refine ⟨fun g5 => ?_, fun g5 => ?_⟩
          · simp only [if_neg g1, if_neg g2, if_neg g3, if_neg g4, if_pos g5] at h
            exact h
          · refine ⟨fun g6 => ?_, fun g6 => ?_⟩
            · simp only [if_neg g1, if_neg g2, if_neg g3, if_neg g4, if_neg g5, if_pos g6] at h
              exact h
            · refine ⟨fun g7 => ?_, fun g7 => ?_⟩
              · simp only [if_neg g1, if_neg g2, if_neg g3, if_neg g4, if_neg g5, if_neg g6, if_pos g7] at h
                exact h
              · refine ⟨fun g8 => ?_, fun g8 => ?_⟩
                · simp only [if_neg g1, if_neg g2, if_neg g3, if_neg g4, if_neg g5, if_neg g6, if_neg g7, if_pos g8] at h
                  exact h
                · refine ⟨fun g9 => ?_, fun g9 => ?_⟩
                  · refine ⟨(hw1 g1 g2 g3 g4 g5 g6 g7 g8 g9), ?_⟩
                    refine ⟨(hw1 g1 g2 g3 g4 g5 g6 g7 g8 g9), ?_⟩
                    refine ⟨(hw1 g1 g2 g3 g4 g5 g6 g7 g8 g9), ?_⟩
                    refine ⟨(hw1 g1 g2 g3 g4 g5 g6 g7 g8 g9), ?_⟩
                    simp only [if_neg g1, if_neg g2, if_neg g3, if_neg g4, if_neg g5, if_neg g6, if_neg g7, if_neg g8, if_pos g9] at h
                    exact h
                  · simp only [if_neg g1, if_neg g2, if_neg g3, if_neg g4, if_neg g5, if_neg g6, if_neg g7, if_neg g8, if_neg g9] at h
                    exact h

def va_145 (i1 : Int32) (i2 : Int32) (V : aa_V) : Int32 := (if i1 < (0 : Int32) then (-2 : Int32) else (if ((V 29 3) - (1 : Int32)) < i1 then (-2 : Int32) else (if i2 < (0 : Int32) then (-2 : Int32) else (if (2 : Int32) < i2 then (-2 : Int32) else (if (va_121 i1 i2 V) = 0 then (-3 : Int32) else (1 : Int32))))))
def vn_145 (i1 : Int32) (i2 : Int32) (V : aa_V) : aa_V := (if i1 < (0 : Int32) then V else (if ((V 29 3) - (1 : Int32)) < i1 then V else (if i2 < (0 : Int32) then V else (if (2 : Int32) < i2 then V else (vn_121 i1 i2 V)))))
set_option maxRecDepth 20000 in
/-- FrameCounty mend -/
theorem sp_145 {G : ab_G} {L : Nat} {xs : Nat → Int32} {l : Launch} {d : Nat} {i1 : Int32} {i2 : Int32} {V : aa_V} {K : aa_K} (hw1 : ¬ (i1 < (0 : Int32)) → ¬ (((V 29 3) - (1 : Int32)) < i1) → ¬ (i2 < (0 : Int32)) → ¬ ((2 : Int32) < i2) → (i2 = 0) → vp_in i1 20) (hw2 : ¬ (i1 < (0 : Int32)) → ¬ (((V 29 3) - (1 : Int32)) < i1) → ¬ (i2 < (0 : Int32)) → ¬ ((2 : Int32) < i2) → ¬ (i2 = 0) → (i2 = (1 : Int32)) → vp_in i1 20) (hw3 : ¬ (i1 < (0 : Int32)) → ¬ (((V 29 3) - (1 : Int32)) < i1) → ¬ (i2 < (0 : Int32)) → ¬ ((2 : Int32) < i2) → ¬ (i2 = 0) → ¬ (i2 = (1 : Int32)) → vp_in i1 20) (h : K (some (.int (va_145 i1 i2 V))) (vn_145 i1 i2 V)) :
    ab_E G (ac_ST L xs) l (d + 3) ac_SK 145 [.ref 0, .int i1, .int i2] V K := by
  rw [va_145, vn_145] at h
  refine iv_145_0 ?_
  refine ⟨fun g1 => ?_, fun g1 => ?_⟩
  · simp only [if_pos g1] at h
    exact h
  · refine ⟨fun g2 => ?_, fun g2 => ?_⟩
    · simp only [if_neg g1, if_pos g2] at h
      exact h
    · refine ⟨fun g3 => ?_, fun g3 => ?_⟩
      · simp only [if_neg g1, if_neg g2, if_pos g3] at h
        exact h
      · refine ⟨fun g4 => ?_, fun g4 => ?_⟩
        · simp only [if_neg g1, if_neg g2, if_neg g3, if_pos g4] at h
          exact h
        · refine sp_121 (hw1 g1 g2 g3 g4) (hw2 g1 g2 g3 g4) (hw3 g1 g2 g3 g4) (fun hb5 => ?_)
          dsimp only [aa_rI, aa_rL, aa_rV]
          refine ⟨fun g6 => ?_, fun g6 => ?_⟩
          · simp only [if_neg g1, if_neg g2, if_neg g3, if_neg g4, if_pos g6] at h
            exact h
          · simp only [if_neg g1, if_neg g2, if_neg g3, if_neg g4, if_neg g6] at h
            exact h

def va_152 (i1 : Int32) (i2 : Int32) (V : aa_V) : Int32 := (if i1 < (0 : Int32) then (-2 : Int32) else (if ((V 29 3) - (1 : Int32)) < i1 then (-2 : Int32) else (if i2 < (0 : Int32) then (-2 : Int32) else (if (11 : Int32) < i2 then (-2 : Int32) else (if (V 36 ((i1).toNatClampNeg)) = 0 then (if (V 38 1) < (30 : Int32) then (((V 38 1) + (1 : Int32)) - (1 : Int32)) else (-4 : Int32)) else (-3 : Int32))))))
def vn_152 (i1 : Int32) (i2 : Int32) (V : aa_V) : aa_V := (if i1 < (0 : Int32) then V else (if ((V 29 3) - (1 : Int32)) < i1 then V else (if i2 < (0 : Int32) then V else (if (11 : Int32) < i2 then V else (if (V 36 ((i1).toNatClampNeg)) = 0 then (if (V 38 1) < (30 : Int32) then (aa_up (aa_up (aa_up (aa_up (aa_up (aa_up V 36 ((i1).toNatClampNeg) (1 : Int32)) 37 ((i1).toNatClampNeg) (V 0 13)) 39 (((V 38 1)).toNatClampNeg) i1) 40 (((V 38 1)).toNatClampNeg) (V 0 13)) 41 (((V 38 1)).toNatClampNeg) i2) 38 1 ((V 38 1) + (1 : Int32))) else V) else V)))))
set_option maxRecDepth 20000 in
/-- FrameCounty raid -/
theorem sp_152 {G : ab_G} {L : Nat} {xs : Nat → Int32} {l : Launch} {d : Nat} {i1 : Int32} {i2 : Int32} {V : aa_V} {K : aa_K} (hw1 : ¬ (i1 < (0 : Int32)) → ¬ (((V 29 3) - (1 : Int32)) < i1) → ¬ (i2 < (0 : Int32)) → ¬ ((11 : Int32) < i2) → vp_in i1 20) (hw2 : ¬ (i1 < (0 : Int32)) → ¬ (((V 29 3) - (1 : Int32)) < i1) → ¬ (i2 < (0 : Int32)) → ¬ ((11 : Int32) < i2) → ((V 36 ((i1).toNatClampNeg)) = 0) → ((V 38 1) < (30 : Int32)) → vp_in (V 38 1) 30) (h : K (some (.int (va_152 i1 i2 V))) (vn_152 i1 i2 V)) :
    ab_E G (ac_ST L xs) l (d + 3) ac_SK 152 [.ref 0, .int i1, .int i2] V K := by
  rw [va_152, vn_152] at h
  refine iv_152_0 ?_
  refine ⟨fun g1 => ?_, fun g1 => ?_⟩
  · simp only [if_pos g1] at h
    exact h
  · refine ⟨fun g2 => ?_, fun g2 => ?_⟩
    · simp only [if_neg g1, if_pos g2] at h
      exact h
    · refine ⟨fun g3 => ?_, fun g3 => ?_⟩
      · simp only [if_neg g1, if_neg g2, if_pos g3] at h
        exact h
      · refine ⟨fun g4 => ?_, fun g4 => ?_⟩
        · simp only [if_neg g1, if_neg g2, if_neg g3, if_pos g4] at h
          exact h
        · refine ⟨(hw1 g1 g2 g3 g4), ?_⟩
          refine ⟨fun g5 => ?_, fun g5 => ?_⟩
          · refine ⟨fun g6 => ?_, fun g6 => ?_⟩
            · refine ⟨(hw1 g1 g2 g3 g4), ?_⟩
              refine ⟨(hw1 g1 g2 g3 g4), ?_⟩
              refine ⟨(hw2 g1 g2 g3 g4 g5 g6), ?_⟩
              refine ⟨(hw2 g1 g2 g3 g4 g5 g6), ?_⟩
              refine ⟨(hw2 g1 g2 g3 g4 g5 g6), ?_⟩
              simp only [if_neg g1, if_neg g2, if_neg g3, if_neg g4, if_pos g5, if_pos g6] at h
              exact h
            · simp only [if_neg g1, if_neg g2, if_neg g3, if_neg g4, if_pos g5, if_neg g6] at h
              exact h
          · simp only [if_neg g1, if_neg g2, if_neg g3, if_neg g4, if_neg g5] at h
            exact h

def va_153 (i1 : Int32) (V : aa_V) : Int32 := (if i1 < (0 : Int32) then (-2 : Int32) else (if (1 : Int32) < i1 then (-2 : Int32) else (if i1 = 0 then (va_129 (V 0 13) V) else (va_130 (va_129 (V 0 13) V) V))))
set_option maxRecDepth 20000 in
/-- FrameCounty pattern -/
theorem sp_153 {G : ab_G} {L : Nat} {xs : Nat → Int32} {l : Launch} {d : Nat} {i1 : Int32} {V : aa_V} {K : aa_K} (hw1 : zb (V 29 3) 20) (h : K (some (.int (va_153 i1 V))) V) :
    ab_E G (ac_ST L xs) l (d + 3) ac_SK 153 [.ref 0, .int i1] V K := by
  rw [va_153] at h
  refine iv_153_0 ?_
  refine ⟨fun g1 => ?_, fun g1 => ?_⟩
  · simp only [if_pos g1] at h
    exact h
  · refine ⟨fun g2 => ?_, fun g2 => ?_⟩
    · simp only [if_neg g1, if_pos g2] at h
      exact h
    · refine sp_129 hw1 ?_
      dsimp only [aa_rI, aa_rL, aa_rV]
      refine ⟨fun g4 => ?_, fun g4 => ?_⟩
      · simp only [if_neg g1, if_neg g2, if_pos g4] at h
        exact h
      · refine sp_130 hw1 ?_
        dsimp only [aa_rI, aa_rL, aa_rV]
        simp only [if_neg g1, if_neg g2, if_neg g4] at h
        exact h

def va_157 (i1 : Int32) (V : aa_V) : Int32 := (if i1 < (0 : Int32) then (-2 : Int32) else (if (7 : Int32) < i1 then (-2 : Int32) else (if (V 42 2) < (12 : Int32) then (((V 42 2) + (1 : Int32)) - (1 : Int32)) else (-4 : Int32))))
def vn_157 (i1 : Int32) (V : aa_V) : aa_V := (if i1 < (0 : Int32) then V else (if (7 : Int32) < i1 then V else (if (V 42 2) < (12 : Int32) then (aa_up (aa_up V 43 (((V 42 2)).toNatClampNeg) i1) 42 2 ((V 42 2) + (1 : Int32))) else V)))
set_option maxRecDepth 20000 in
/-- FrameCounty person -/
theorem sp_157 {G : ab_G} {L : Nat} {xs : Nat → Int32} {l : Launch} {d : Nat} {i1 : Int32} {V : aa_V} {K : aa_K} (hw1 : ¬ (i1 < (0 : Int32)) → ¬ ((7 : Int32) < i1) → ((V 42 2) < (12 : Int32)) → vp_in (V 42 2) 12) (h : K (some (.int (va_157 i1 V))) (vn_157 i1 V)) :
    ab_E G (ac_ST L xs) l (d + 3) ac_SK 157 [.ref 0, .int i1] V K := by
  rw [va_157, vn_157] at h
  refine iv_157_0 ?_
  refine ⟨fun g1 => ?_, fun g1 => ?_⟩
  · simp only [if_pos g1] at h
    exact h
  · refine ⟨fun g2 => ?_, fun g2 => ?_⟩
    · simp only [if_neg g1, if_pos g2] at h
      exact h
    · refine ⟨fun g3 => ?_, fun g3 => ?_⟩
      · refine ⟨(hw1 g1 g2 g3), ?_⟩
        simp only [if_neg g1, if_neg g2, if_pos g3] at h
        exact h
      · simp only [if_neg g1, if_neg g2, if_neg g3] at h
        exact h

def va_158 (i1 : Int32) (i2 : Int32) (i3 : Int32) (i4 : Int32) (V : aa_V) : Int32 := (if i1 < (0 : Int32) then (-2 : Int32) else (if ((V 42 2) - (1 : Int32)) < i1 then (-2 : Int32) else (if i2 < (0 : Int32) then (-2 : Int32) else (if (7 : Int32) < i2 then (-2 : Int32) else (if i3 < (0 : Int32) then (-2 : Int32) else (if (V 0 13) < i3 then (-2 : Int32) else (if i4 < (0 : Int32) then (-2 : Int32) else (if (11 : Int32) < i4 then (-2 : Int32) else (if (V 42 4) < (40 : Int32) then ((V 42 4) + (1 : Int32)) else (-4 : Int32))))))))))
def vn_158 (i1 : Int32) (i2 : Int32) (i3 : Int32) (i4 : Int32) (V : aa_V) : aa_V := (if i1 < (0 : Int32) then V else (if ((V 42 2) - (1 : Int32)) < i1 then V else (if i2 < (0 : Int32) then V else (if (7 : Int32) < i2 then V else (if i3 < (0 : Int32) then V else (if (V 0 13) < i3 then V else (if i4 < (0 : Int32) then V else (if (11 : Int32) < i4 then V else (if (V 42 4) < (40 : Int32) then (aa_up (aa_up (aa_up (aa_up (aa_up (aa_up V 44 (((V 42 4)).toNatClampNeg) i1) 45 (((V 42 4)).toNatClampNeg) i2) 46 (((V 42 4)).toNatClampNeg) i3) 47 (((V 42 4)).toNatClampNeg) i4) 48 (((V 42 4)).toNatClampNeg) (V 0 13)) 42 4 ((V 42 4) + (1 : Int32))) else V)))))))))
set_option maxRecDepth 20000 in
/-- FrameCounty seen -/
theorem sp_158 {G : ab_G} {L : Nat} {xs : Nat → Int32} {l : Launch} {d : Nat} {i1 : Int32} {i2 : Int32} {i3 : Int32} {i4 : Int32} {V : aa_V} {K : aa_K} (hw1 : ¬ (i1 < (0 : Int32)) → ¬ (((V 42 2) - (1 : Int32)) < i1) → ¬ (i2 < (0 : Int32)) → ¬ ((7 : Int32) < i2) → ¬ (i3 < (0 : Int32)) → ¬ ((V 0 13) < i3) → ¬ (i4 < (0 : Int32)) → ¬ ((11 : Int32) < i4) → ((V 42 4) < (40 : Int32)) → vp_in (V 42 4) 40) (h : K (some (.int (va_158 i1 i2 i3 i4 V))) (vn_158 i1 i2 i3 i4 V)) :
    ab_E G (ac_ST L xs) l (d + 3) ac_SK 158 [.ref 0, .int i1, .int i2, .int i3, .int i4] V K := by
  rw [va_158, vn_158] at h
  refine iv_158_0 ?_
  refine ⟨fun g1 => ?_, fun g1 => ?_⟩
  · simp only [if_pos g1] at h
    exact h
  · refine ⟨fun g2 => ?_, fun g2 => ?_⟩
    · simp only [if_neg g1, if_pos g2] at h
      exact h
    · refine ⟨fun g3 => ?_, fun g3 => ?_⟩
      · simp only [if_neg g1, if_neg g2, if_pos g3] at h
        exact h
      · refine ⟨fun g4 => ?_, fun g4 => ?_⟩
        · simp only [if_neg g1, if_neg g2, if_neg g3, if_pos g4] at h
          exact h
        · refine ⟨fun g5 => ?_, fun g5 => ?_⟩
          · simp only [if_neg g1, if_neg g2, if_neg g3, if_neg g4, if_pos g5] at h
            exact h
          · refine ⟨fun g6 => ?_, fun g6 => ?_⟩
            · simp only [if_neg g1, if_neg g2, if_neg g3, if_neg g4, if_neg g5, if_pos g6] at h
              exact h
            · refine ⟨fun g7 => ?_, fun g7 => ?_⟩
              · simp only [if_neg g1, if_neg g2, if_neg g3, if_neg g4, if_neg g5, if_neg g6, if_pos g7] at h
                exact h
              · refine ⟨fun g8 => ?_, fun g8 => ?_⟩
                · simp only [if_neg g1, if_neg g2, if_neg g3, if_neg g4, if_neg g5, if_neg g6, if_neg g7, if_pos g8] at h
                  exact h
                · refine ⟨fun g9 => ?_, fun g9 => ?_⟩
                  · refine ⟨(hw1 g1 g2 g3 g4 g5 g6 g7 g8 g9), ?_⟩
                    refine ⟨(hw1 g1 g2 g3 g4 g5 g6 g7 g8 g9), ?_⟩
                    refine ⟨(hw1 g1 g2 g3 g4 g5 g6 g7 g8 g9), ?_⟩
                    refine ⟨(hw1 g1 g2 g3 g4 g5 g6 g7 g8 g9), ?_⟩
                    refine ⟨(hw1 g1 g2 g3 g4 g5 g6 g7 g8 g9), ?_⟩
                    simp only [if_neg g1, if_neg g2, if_neg g3, if_neg g4, if_neg g5, if_neg g6, if_neg g7, if_neg g8, if_pos g9] at h
                    exact h
                  · simp only [if_neg g1, if_neg g2, if_neg g3, if_neg g4, if_neg g5, if_neg g6, if_neg g7, if_neg g8, if_neg g9] at h
                    exact h

def va_161 (i1 : Int32) (i2 : Int32) (i3 : Int32) (i4 : Int32) (V : aa_V) : Int32 := (if i1 < (0 : Int32) then (-2 : Int32) else (if (5 : Int32) < i1 then (-2 : Int32) else (if i2 < (0 : Int32) then (-2 : Int32) else (if ((V 42 2) - (1 : Int32)) < i2 then (-2 : Int32) else (if i3 < (0 : Int32) then (-2 : Int32) else (if ((V 38 1) - (1 : Int32)) < i3 then (-2 : Int32) else (if i4 < (0 : Int32) then (-2 : Int32) else (if (999 : Int32) < i4 then (-2 : Int32) else (if (V 42 10) < (24 : Int32) then (((V 42 10) + (1 : Int32)) - (1 : Int32)) else (-4 : Int32))))))))))
def vn_161 (i1 : Int32) (i2 : Int32) (i3 : Int32) (i4 : Int32) (V : aa_V) : aa_V := (if i1 < (0 : Int32) then V else (if (5 : Int32) < i1 then V else (if i2 < (0 : Int32) then V else (if ((V 42 2) - (1 : Int32)) < i2 then V else (if i3 < (0 : Int32) then V else (if ((V 38 1) - (1 : Int32)) < i3 then V else (if i4 < (0 : Int32) then V else (if (999 : Int32) < i4 then V else (if (V 42 10) < (24 : Int32) then (aa_up (aa_up (aa_up (aa_up (aa_up (aa_up V 49 (((V 42 10)).toNatClampNeg) i1) 50 (((V 42 10)).toNatClampNeg) i2) 51 (((V 42 10)).toNatClampNeg) i3) 52 (((V 42 10)).toNatClampNeg) i4) 53 (((V 42 10)).toNatClampNeg) (V 0 13)) 42 10 ((V 42 10) + (1 : Int32))) else V)))))))))
set_option maxRecDepth 20000 in
/-- FrameCounty word -/
theorem sp_161 {G : ab_G} {L : Nat} {xs : Nat → Int32} {l : Launch} {d : Nat} {i1 : Int32} {i2 : Int32} {i3 : Int32} {i4 : Int32} {V : aa_V} {K : aa_K} (hw1 : ¬ (i1 < (0 : Int32)) → ¬ ((5 : Int32) < i1) → ¬ (i2 < (0 : Int32)) → ¬ (((V 42 2) - (1 : Int32)) < i2) → ¬ (i3 < (0 : Int32)) → ¬ (((V 38 1) - (1 : Int32)) < i3) → ¬ (i4 < (0 : Int32)) → ¬ ((999 : Int32) < i4) → ((V 42 10) < (24 : Int32)) → vp_in (V 42 10) 24) (h : K (some (.int (va_161 i1 i2 i3 i4 V))) (vn_161 i1 i2 i3 i4 V)) :
    ab_E G (ac_ST L xs) l (d + 3) ac_SK 161 [.ref 0, .int i1, .int i2, .int i3, .int i4] V K := by
  rw [va_161, vn_161] at h
  refine iv_161_0 ?_
  refine ⟨fun g1 => ?_, fun g1 => ?_⟩
  · simp only [if_pos g1] at h
    exact h
  · refine ⟨fun g2 => ?_, fun g2 => ?_⟩
    · simp only [if_neg g1, if_pos g2] at h
      exact h
    · refine ⟨fun g3 => ?_, fun g3 => ?_⟩
      · simp only [if_neg g1, if_neg g2, if_pos g3] at h
        exact h
      · refine ⟨fun g4 => ?_, fun g4 => ?_⟩
        · simp only [if_neg g1, if_neg g2, if_neg g3, if_pos g4] at h
          exact h
        · refine ⟨fun g5 => ?_, fun g5 => ?_⟩
          · simp only [if_neg g1, if_neg g2, if_neg g3, if_neg g4, if_pos g5] at h
            exact h
          · refine ⟨fun g6 => ?_, fun g6 => ?_⟩
            · simp only [if_neg g1, if_neg g2, if_neg g3, if_neg g4, if_neg g5, if_pos g6] at h
              exact h
            · refine ⟨fun g7 => ?_, fun g7 => ?_⟩
              · simp only [if_neg g1, if_neg g2, if_neg g3, if_neg g4, if_neg g5, if_neg g6, if_pos g7] at h
                exact h
              · refine ⟨fun g8 => ?_, fun g8 => ?_⟩
                · simp only [if_neg g1, if_neg g2, if_neg g3, if_neg g4, if_neg g5, if_neg g6, if_neg g7, if_pos g8] at h
                  exact h
                · refine ⟨fun g9 => ?_, fun g9 => ?_⟩
                  · refine ⟨(hw1 g1 g2 g3 g4 g5 g6 g7 g8 g9), ?_⟩
                    refine ⟨(hw1 g1 g2 g3 g4 g5 g6 g7 g8 g9), ?_⟩
                    refine ⟨(hw1 g1 g2 g3 g4 g5 g6 g7 g8 g9), ?_⟩
                    refine ⟨(hw1 g1 g2 g3 g4 g5 g6 g7 g8 g9), ?_⟩
                    refine ⟨(hw1 g1 g2 g3 g4 g5 g6 g7 g8 g9), ?_⟩
                    simp only [if_neg g1, if_neg g2, if_neg g3, if_neg g4, if_neg g5, if_neg g6, if_neg g7, if_neg g8, if_pos g9] at h
                    exact h
                  · simp only [if_neg g1, if_neg g2, if_neg g3, if_neg g4, if_neg g5, if_neg g6, if_neg g7, if_neg g8, if_neg g9] at h
                    exact h

