/-! pure methods as functions, 0: printed by den.py -/
def ac_zr0 : Nat → Int32 := aa_nthI [-1, 0, 0, 1, 2, 1]
def ac_zr1 : Nat → Int32 := aa_nthI [1, 3, 9, 27, 81, 243]
theorem ac_zs0 {L : Nat} {xs : Nat → Int32} : (ac_ST L xs 0).2.2 = ac_zr0 := rfl
theorem ac_zs1 {L : Nat} {xs : Nat → Int32} : (ac_ST L xs 1).2.2 = ac_zr1 := rfl

def vl_7_2 (i1 : Int32) (V : aa_V) (a0 : Unit) : Int32 := (match fe (fun (i_7 : Nat) (a_7 : Unit) => ((if ((i1 >>> ((nI i_7) &&& 31)) &&& (1 : Int32)) = (1 : Int32) then (if ((V 63 i_7) &&& i1) = 0 then .inl () else .inr (0 : Int32)) else .inl ()) : Unit ⊕ Int32)) ((V 60 0)).toNatClampNeg a0 with
  | .inl a_7 => (1 : Int32)
  | .inr b => b)
set_option maxRecDepth 20000 in
/-- FrameCounty$Bargain goesTogether, the loop at 2 -/
theorem lo_7_2 {G : ab_G} {L : Nat} {xs : Nat → Int32} {l : Launch} {d : Nat} {i1 : Int32} {V : aa_V} {K : aa_K} {a0 : Unit} (hz : zb (V 60 0) 8) (h : aa_bit (vl_7_2 i1 V a0) → K (some (.int (vl_7_2 i1 V a0))) V) :
    ab_J G (ac_ST L xs) l (d + 1) 7 2 [some (.ref 60), some (.int i1), some (.int (0 : Int32))] [] ac_SK V ac_SK K := by
  obtain ⟨n, hn, hm⟩ : ∃ n : Nat, (V 60 0) = nI n ∧ n ≤ 8 := ⟨_, hz.1, hz.2⟩
  have hN : ((V 60 0)).toNatClampNeg = n := by rw [hn]; exact zz_ix (by omega)
  rw [vl_7_2] at h
  rw [hN] at h
  refine zz_fe (fun (i_7 : Nat) (a_7 : Unit) => ((if ((i1 >>> ((nI i_7) &&& 31)) &&& (1 : Int32)) = (1 : Int32) then (if ((V 63 i_7) &&& i1) = 0 then .inl () else .inr (0 : Int32)) else .inl ()) : Unit ⊕ Int32)) (fun i_7 a_7 => ab_J G (ac_ST L xs) l (d + 1) 7 2 [some (.ref 60), some (.int i1), some (.int (nI i_7))] [] ac_SK V ac_SK K) (fun b => aa_bit b → K (some (.int b)) V) n a0 ?_ ?_ ?_
  · intro a_7 hfo
    rw [hfo] at h
    refine iv_7_2 ⟨fun q => absurd q (zz_ge hn), fun _ => ?_⟩
    exact h (Or.inr rfl)
  · intro i_7 a_7 hi hfe hnx hex
    have e : (nI i_7).toNatClampNeg = i_7 := zz_ix (by omega)
    rw [nI_succ] at hnx
    refine iv_7_2 ⟨fun _ => ?_, fun q => absurd (zz_gl hn hi (by omega)) q⟩
    try simp only [e, ac_zs0, ac_zs1]
    refine ⟨fun c1 => ?_, fun c1 => ?_⟩
    · refine ⟨vp_in_nI (by omega) (by decide), ?_⟩
      refine ⟨fun c2 => ?_, fun c2 => ?_⟩
      · exact hnx _ ((if_pos c1).trans ((if_pos c2).trans rfl))
      · exact hex _ ((if_pos c1).trans ((if_neg c2).trans rfl)) (Or.inl rfl)
    · exact hnx _ ((if_neg c1).trans rfl)
  · intro b hb
    rw [hb] at h
    exact h

def va_7 (i1 : Int32) (V : aa_V) : Int32 := (vl_7_2 i1 V ())
set_option maxRecDepth 20000 in
/-- FrameCounty$Bargain goesTogether -/
theorem sp_7 {G : ab_G} {L : Nat} {xs : Nat → Int32} {l : Launch} {d : Nat} {i1 : Int32} {V : aa_V} {K : aa_K} (hw1 : zb (V 60 0) 8) (h : aa_bit (va_7 i1 V) → K (some (.int (va_7 i1 V))) V) :
    ab_E G (ac_ST L xs) l (d + 1) ac_SK 7 [.ref 60, .int i1] V K := by
  rw [va_7] at h
  refine iv_7_0 ?_
  exact lo_7_2 hw1 h

def vl_13_5 (i2 : Int32) (V : aa_V) (a0 : Int32) : Int32 := (match fe (fun (i_13 : Nat) (a_13 : Int32) => ((if i2 < (V 57 i_13) then .inr a_13 else (if (a_13 &&& (((1 : Int32) <<< ((V 55 i_13) &&& 31)) ||| ((1 : Int32) <<< ((V 56 i_13) &&& 31)))) = 0 then .inl a_13 else .inl (a_13 ||| (((1 : Int32) <<< ((V 55 i_13) &&& 31)) ||| ((1 : Int32) <<< ((V 56 i_13) &&& 31)))))) : Int32 ⊕ Int32)) ((V 54 0)).toNatClampNeg a0 with
  | .inl a_13 => a_13
  | .inr b => b)
set_option maxRecDepth 20000 in
/-- FrameCounty$Oaths swornFrom, the loop at 5 -/
theorem lo_13_5 {G : ab_G} {L : Nat} {xs : Nat → Int32} {l : Launch} {d : Nat} {i2 : Int32} {V : aa_V} {K : aa_K} {a0 : Int32} (hz : zb (V 54 0) 40) (h : K (some (.int (vl_13_5 i2 V a0))) V) :
    ab_J G (ac_ST L xs) l (d + 1) 13 5 [some (.ref 54), none, some (.int i2), some (.int a0), some (.int (0 : Int32)), none] [] ac_SK V ac_SK K := by
  obtain ⟨n, hn, hm⟩ : ∃ n : Nat, (V 54 0) = nI n ∧ n ≤ 40 := ⟨_, hz.1, hz.2⟩
  have hN : ((V 54 0)).toNatClampNeg = n := by rw [hn]; exact zz_ix (by omega)
  rw [vl_13_5] at h
  rw [hN] at h
  refine zz_fe (fun (i_13 : Nat) (a_13 : Int32) => ((if i2 < (V 57 i_13) then .inr a_13 else (if (a_13 &&& (((1 : Int32) <<< ((V 55 i_13) &&& 31)) ||| ((1 : Int32) <<< ((V 56 i_13) &&& 31)))) = 0 then .inl a_13 else .inl (a_13 ||| (((1 : Int32) <<< ((V 55 i_13) &&& 31)) ||| ((1 : Int32) <<< ((V 56 i_13) &&& 31)))))) : Int32 ⊕ Int32)) (fun i_13 a_13 => ab_J G (ac_ST L xs) l (d + 1) 13 5 [some (.ref 54), none, some (.int i2), some (.int a_13), some (.int (nI i_13)), none] [] ac_SK V ac_SK K) (fun b => K (some (.int b)) V) n a0 ?_ ?_ ?_
  · intro a_13 hfo
    rw [hfo] at h
    refine iv_13_5 ⟨fun q => absurd q (zz_ge hn), fun _ => ?_⟩
    exact h
  · intro i_13 a_13 hi hfe hnx hex
    have e : (nI i_13).toNatClampNeg = i_13 := zz_ix (by omega)
    rw [nI_succ] at hnx
    refine iv_13_5 ⟨fun _ => ?_, fun q => absurd (zz_gl hn hi (by omega)) q⟩
    try simp only [e, ac_zs0, ac_zs1]
    refine ⟨vp_in_nI (by omega) (by decide), ?_⟩
    refine ⟨fun c1 => ?_, fun c1 => ?_⟩
    · exact hex _ ((if_pos c1).trans rfl)
    · refine ⟨vp_in_nI (by omega) (by decide), ?_⟩
      refine ⟨vp_in_nI (by omega) (by decide), ?_⟩
      refine ⟨fun c2 => ?_, fun c2 => ?_⟩
      · exact hnx _ ((if_neg c1).trans ((if_pos c2).trans rfl))
      · exact hnx _ ((if_neg c1).trans ((if_neg c2).trans rfl))
  · intro b hb
    rw [hb] at h
    exact h

def va_13 (i1 : Int32) (i2 : Int32) (V : aa_V) : Int32 := (vl_13_5 i2 V i1)
set_option maxRecDepth 20000 in
/-- FrameCounty$Oaths swornFrom -/
theorem sp_13 {G : ab_G} {L : Nat} {xs : Nat → Int32} {l : Launch} {d : Nat} {i1 : Int32} {i2 : Int32} {V : aa_V} {K : aa_K} (hw1 : zb (V 54 0) 40) (h : K (some (.int (va_13 i1 i2 V))) V) :
    ab_E G (ac_ST L xs) l (d + 1) ac_SK 13 [.ref 54, .int i1, .int i2] V K := by
  rw [va_13] at h
  refine iv_13_0 ?_
  exact lo_13_5 hw1 h

def vl_16_5 (i1 : Int32) (i2 : Int32) (V : aa_V) (a0 : Int32) : Int32 := ((fun (a_16 : Int32) => a_16) (fo (fun (i_16 : Nat) (a_16 : Int32) => ((if ((i1 >>> ((nI i_16) &&& 31)) &&& (1 : Int32)) = (1 : Int32) then (a_16 ||| (V 59 i_16)) else a_16) : Int32)) (i2).toNatClampNeg a0))
set_option maxRecDepth 20000 in
/-- FrameCounty$Oaths takersReachedBySet, the loop at 5 -/
theorem lo_16_5 {G : ab_G} {L : Nat} {xs : Nat → Int32} {l : Launch} {d : Nat} {i1 : Int32} {i2 : Int32} {V : aa_V} {K : aa_K} {a0 : Int32} (hz : zb i2 12) (h : K (some (.int (vl_16_5 i1 i2 V a0))) V) :
    ab_J G (ac_ST L xs) l (d + 1) 16 5 [some (.ref 54), some (.int i1), some (.int i2), some (.int a0), some (.int (0 : Int32))] [] ac_SK V ac_SK K := by
  obtain ⟨n, hn, hm⟩ : ∃ n : Nat, i2 = nI n ∧ n ≤ 12 := ⟨_, hz.1, hz.2⟩
  have hN : (i2).toNatClampNeg = n := by rw [hn]; exact zz_ix (by omega)
  rw [vl_16_5] at h
  rw [hN] at h
  refine zz_fo (fun (i_16 : Nat) (a_16 : Int32) => ((if ((i1 >>> ((nI i_16) &&& 31)) &&& (1 : Int32)) = (1 : Int32) then (a_16 ||| (V 59 i_16)) else a_16) : Int32)) (fun i_16 a_16 => ab_J G (ac_ST L xs) l (d + 1) 16 5 [some (.ref 54), some (.int i1), some (.int i2), some (.int a_16), some (.int (nI i_16))] [] ac_SK V ac_SK K) n a0 ?_ ?_
  · refine iv_16_5 ⟨fun q => absurd q (zz_ge hn), fun _ => ?_⟩
    try dsimp only at h
    generalize hfo : fo (fun (i_16 : Nat) (a_16 : Int32) => ((if ((i1 >>> ((nI i_16) &&& 31)) &&& (1 : Int32)) = (1 : Int32) then (a_16 ||| (V 59 i_16)) else a_16) : Int32)) n a0 = a_16 at h ⊢
    exact h
  · intro i_16 hi ih
    have e : (nI i_16).toNatClampNeg = i_16 := zz_ix (by omega)
    rw [fo_s, nI_succ] at ih
    refine iv_16_5 ⟨fun _ => ?_, fun q => absurd (zz_gl hn hi (by omega)) q⟩
    try simp only [e, ac_zs0, ac_zs1]
    refine ⟨fun c1 => ?_, fun c1 => ?_⟩
    · refine ⟨vp_in_nI (by omega) (by decide), ?_⟩
      rw [if_pos c1] at ih
      exact ih
    · rw [if_neg c1] at ih
      exact ih

def va_16 (i1 : Int32) (i2 : Int32) (V : aa_V) : Int32 := (vl_16_5 i1 i2 V (0 : Int32))
set_option maxRecDepth 20000 in
/-- FrameCounty$Oaths takersReachedBySet -/
theorem sp_16 {G : ab_G} {L : Nat} {xs : Nat → Int32} {l : Launch} {d : Nat} {i1 : Int32} {i2 : Int32} {V : aa_V} {K : aa_K} (hw1 : zb i2 12) (h : K (some (.int (va_16 i1 i2 V))) V) :
    ab_E G (ac_ST L xs) l (d + 1) ac_SK 16 [.ref 54, .int i1, .int i2] V K := by
  rw [va_16] at h
  refine iv_16_0 ?_
  exact lo_16_5 hw1 h

def va_51 (i1 : Int32) (i2 : Int32) (i3 : Int32) (V : aa_V) : Int32 := (if (i3 - i3 / (30 : Int32) * (30 : Int32)) < (8 : Int32) then (V (21 + (i1).toNatClampNeg) ((i2).toNatClampNeg)) else (if (22 : Int32) < (i3 - i3 / (30 : Int32) * (30 : Int32)) then (V (21 + (i1).toNatClampNeg) ((i2).toNatClampNeg)) else (V (12 + (i1).toNatClampNeg) ((i2).toNatClampNeg))))
set_option maxRecDepth 20000 in
/-- FrameCounty$Roads distance -/
theorem sp_51 {G : ab_G} {L : Nat} {xs : Nat → Int32} {l : Launch} {d : Nat} {i1 : Int32} {i2 : Int32} {i3 : Int32} {V : aa_V} {K : aa_K} (hw1 : ((i3 - i3 / (30 : Int32) * (30 : Int32)) < (8 : Int32)) → vp_in i1 8) (hw2 : ((i3 - i3 / (30 : Int32) * (30 : Int32)) < (8 : Int32)) → vp_in i2 8) (hw3 : ¬ ((i3 - i3 / (30 : Int32) * (30 : Int32)) < (8 : Int32)) → ((22 : Int32) < (i3 - i3 / (30 : Int32) * (30 : Int32))) → vp_in i1 8) (hw4 : ¬ ((i3 - i3 / (30 : Int32) * (30 : Int32)) < (8 : Int32)) → ((22 : Int32) < (i3 - i3 / (30 : Int32) * (30 : Int32))) → vp_in i2 8) (hw5 : ¬ ((i3 - i3 / (30 : Int32) * (30 : Int32)) < (8 : Int32)) → ¬ ((22 : Int32) < (i3 - i3 / (30 : Int32) * (30 : Int32))) → vp_in i1 8) (hw6 : ¬ ((i3 - i3 / (30 : Int32) * (30 : Int32)) < (8 : Int32)) → ¬ ((22 : Int32) < (i3 - i3 / (30 : Int32) * (30 : Int32))) → vp_in i2 8) (h : K (some (.int (va_51 i1 i2 i3 V))) V) :
    ab_E G (ac_ST L xs) l (d + 1) ac_SK 51 [.ref 1, .int i1, .int i2, .int i3] V K := by
  rw [va_51] at h
  refine iv_51_0 ?_
  refine ⟨by decide, ?_⟩
  refine ⟨fun g1 => ?_, fun g1 => ?_⟩
  · refine ⟨8, _, _, rfl, (hw1 g1), zq_20 (hw1 g1), ?_⟩
    refine ⟨8, [], zs_20 (hw1 g1), (hw2 g1), ?_⟩
    simp only [if_pos g1] at h
    exact h
  · refine ⟨fun g2 => ?_, fun g2 => ?_⟩
    · refine ⟨8, _, _, rfl, (hw3 g1 g2), zq_20 (hw3 g1 g2), ?_⟩
      refine ⟨8, [], zs_20 (hw3 g1 g2), (hw4 g1 g2), ?_⟩
      simp only [if_neg g1, if_pos g2] at h
      exact h
    · refine ⟨8, _, _, rfl, (hw5 g1 g2), zq_11 (hw5 g1 g2), ?_⟩
      refine ⟨8, [], zs_11 (hw5 g1 g2), (hw6 g1 g2), ?_⟩
      simp only [if_neg g1, if_neg g2] at h
      exact h

def vn_64 (i1 : Int32) (i2 : Int32) (i3 : Int32) (V : aa_V) : aa_V := (if (V 73 ((i1).toNatClampNeg)) = 0 then (aa_up V (76 + (i1).toNatClampNeg) ((i2).toNatClampNeg) (i3.toInt8.toInt32)) else (if (V 73 ((i1).toNatClampNeg)) = (1 : Int32) then (aa_up V (76 + (i1).toNatClampNeg) ((i2).toNatClampNeg) (i3.toInt16.toInt32)) else (aa_up V (76 + (i1).toNatClampNeg) ((i2).toNatClampNeg) i3)))
set_option maxRecDepth 20000 in
/-- FrameCounty$Sheets put -/
theorem sp_64 {G : ab_G} {L : Nat} {xs : Nat → Int32} {l : Launch} {d : Nat} {i1 : Int32} {i2 : Int32} {i3 : Int32} {V : aa_V} {K : aa_K} (hw1 : vp_in i1 4) (hw2 : ((V 73 ((i1).toNatClampNeg)) = 0) → vp_in i2 40) (hw3 : ¬ ((V 73 ((i1).toNatClampNeg)) = 0) → ((V 73 ((i1).toNatClampNeg)) = (1 : Int32)) → vp_in i2 40) (hw4 : ¬ ((V 73 ((i1).toNatClampNeg)) = 0) → ¬ ((V 73 ((i1).toNatClampNeg)) = (1 : Int32)) → vp_in i2 40) (h : K none (vn_64 i1 i2 i3 V)) :
    ab_E G (ac_ST L xs) l (d + 1) ac_SK 64 [.ref 72, .int i1, .int i2, .int i3] V K := by
  rw [vn_64] at h
  refine iv_64_0 ?_
  refine ⟨4, _, _, rfl, hw1, zq_75 hw1, ?_⟩
  refine ⟨hw1, ?_⟩
  refine ⟨fun g1 => ?_, fun g1 => ?_⟩
  · refine ⟨40, [], zs_75 hw1, (hw2 g1), ?_⟩
    simp only [if_pos g1] at h
    exact h
  · refine ⟨hw1, ?_⟩
    refine ⟨fun g2 => ?_, fun g2 => ?_⟩
    · refine ⟨40, [], zs_75 hw1, (hw3 g1 g2), ?_⟩
      simp only [if_neg g1, if_pos g2] at h
      exact h
    · refine ⟨40, [], zs_75 hw1, (hw4 g1 g2), ?_⟩
      simp only [if_neg g1, if_neg g2] at h
      exact h

def va_65 (i1 : Int32) (i2 : Int32) (V : aa_V) : Int32 := (V (76 + (i1).toNatClampNeg) ((i2).toNatClampNeg))
set_option maxRecDepth 20000 in
/-- FrameCounty$Sheets itemAt -/
theorem sp_65 {G : ab_G} {L : Nat} {xs : Nat → Int32} {l : Launch} {d : Nat} {i1 : Int32} {i2 : Int32} {V : aa_V} {K : aa_K} (hw1 : vp_in i1 4) (hw2 : vp_in i2 40) (h : K (some (.int (va_65 i1 i2 V))) V) :
    ab_E G (ac_ST L xs) l (d + 1) ac_SK 65 [.ref 72, .int i1, .int i2] V K := by
  rw [va_65] at h
  refine iv_65_0 ?_
  refine ⟨4, _, _, rfl, hw1, zq_75 hw1, ?_⟩
  refine ⟨40, [], zs_75 hw1, hw2, ?_⟩
  exact h

def vl_91_5 (i1 : Int32) (i2 : Int32) (V : aa_V) (a0 : Int32) : Int32 := ((fun (a_91 : Int32) => a_91) (fo (fun (i_91 : Nat) (a_91 : Int32) => ((if i2 < (V 53 i_91) then a_91 else (if (V 49 i_91) = i1 then (a_91 ||| ((1 : Int32) <<< ((nI i_91) &&& 31))) else a_91)) : Int32)) ((V 42 10)).toNatClampNeg a0))
set_option maxRecDepth 20000 in
/-- FrameCounty$Watch wordsOf, the loop at 5 -/
theorem lo_91_5 {G : ab_G} {L : Nat} {xs : Nat → Int32} {l : Launch} {d : Nat} {i1 : Int32} {i2 : Int32} {V : aa_V} {K : aa_K} {a0 : Int32} (hz : zb (V 42 10) 24) (h : K (some (.int (vl_91_5 i1 i2 V a0))) V) :
    ab_J G (ac_ST L xs) l (d + 1) 91 5 [some (.ref 42), some (.int i1), some (.int i2), some (.int a0), some (.int (0 : Int32))] [] ac_SK V ac_SK K := by
  obtain ⟨n, hn, hm⟩ : ∃ n : Nat, (V 42 10) = nI n ∧ n ≤ 24 := ⟨_, hz.1, hz.2⟩
  have hN : ((V 42 10)).toNatClampNeg = n := by rw [hn]; exact zz_ix (by omega)
  rw [vl_91_5] at h
  rw [hN] at h
  refine zz_fo (fun (i_91 : Nat) (a_91 : Int32) => ((if i2 < (V 53 i_91) then a_91 else (if (V 49 i_91) = i1 then (a_91 ||| ((1 : Int32) <<< ((nI i_91) &&& 31))) else a_91)) : Int32)) (fun i_91 a_91 => ab_J G (ac_ST L xs) l (d + 1) 91 5 [some (.ref 42), some (.int i1), some (.int i2), some (.int a_91), some (.int (nI i_91))] [] ac_SK V ac_SK K) n a0 ?_ ?_
  · refine iv_91_5 ⟨fun q => absurd q (zz_ge hn), fun _ => ?_⟩
    try dsimp only at h
    generalize hfo : fo (fun (i_91 : Nat) (a_91 : Int32) => ((if i2 < (V 53 i_91) then a_91 else (if (V 49 i_91) = i1 then (a_91 ||| ((1 : Int32) <<< ((nI i_91) &&& 31))) else a_91)) : Int32)) n a0 = a_91 at h ⊢
    exact h
  · intro i_91 hi ih
    have e : (nI i_91).toNatClampNeg = i_91 := zz_ix (by omega)
    rw [fo_s, nI_succ] at ih
    refine iv_91_5 ⟨fun _ => ?_, fun q => absurd (zz_gl hn hi (by omega)) q⟩
    try simp only [e, ac_zs0, ac_zs1]
    refine ⟨vp_in_nI (by omega) (by decide), ?_⟩
    refine ⟨fun c1 => ?_, fun c1 => ?_⟩
    · rw [if_pos c1] at ih
      exact ih
    · refine ⟨vp_in_nI (by omega) (by decide), ?_⟩
      refine ⟨fun c2 => ?_, fun c2 => ?_⟩
      · rw [if_neg c1, if_pos c2] at ih
        exact ih
      · rw [if_neg c1, if_neg c2] at ih
        exact ih

def va_91 (i1 : Int32) (i2 : Int32) (V : aa_V) : Int32 := (vl_91_5 i1 i2 V (0 : Int32))
set_option maxRecDepth 20000 in
/-- FrameCounty$Watch wordsOf -/
theorem sp_91 {G : ab_G} {L : Nat} {xs : Nat → Int32} {l : Launch} {d : Nat} {i1 : Int32} {i2 : Int32} {V : aa_V} {K : aa_K} (hw1 : zb (V 42 10) 24) (h : K (some (.int (va_91 i1 i2 V))) V) :
    ab_E G (ac_ST L xs) l (d + 1) ac_SK 91 [.ref 42, .int i1, .int i2] V K := by
  rw [va_91] at h
  refine iv_91_0 ?_
  exact lo_91_5 hw1 h

def vl_92_5 (i1 : Int32) (i2 : Int32) (V : aa_V) (a0 : Int32) : Int32 := ((fun (a_92 : Int32) => a_92) (fo (fun (i_92 : Nat) (a_92 : Int32) => ((if i2 < (V 53 i_92) then a_92 else (if (V 50 i_92) = i1 then (a_92 ||| ((1 : Int32) <<< ((nI i_92) &&& 31))) else a_92)) : Int32)) ((V 42 10)).toNatClampNeg a0))
set_option maxRecDepth 20000 in
/-- FrameCounty$Watch wordsOn, the loop at 5 -/
theorem lo_92_5 {G : ab_G} {L : Nat} {xs : Nat → Int32} {l : Launch} {d : Nat} {i1 : Int32} {i2 : Int32} {V : aa_V} {K : aa_K} {a0 : Int32} (hz : zb (V 42 10) 24) (h : K (some (.int (vl_92_5 i1 i2 V a0))) V) :
    ab_J G (ac_ST L xs) l (d + 1) 92 5 [some (.ref 42), some (.int i1), some (.int i2), some (.int a0), some (.int (0 : Int32))] [] ac_SK V ac_SK K := by
  obtain ⟨n, hn, hm⟩ : ∃ n : Nat, (V 42 10) = nI n ∧ n ≤ 24 := ⟨_, hz.1, hz.2⟩
  have hN : ((V 42 10)).toNatClampNeg = n := by rw [hn]; exact zz_ix (by omega)
  rw [vl_92_5] at h
  rw [hN] at h
  refine zz_fo (fun (i_92 : Nat) (a_92 : Int32) => ((if i2 < (V 53 i_92) then a_92 else (if (V 50 i_92) = i1 then (a_92 ||| ((1 : Int32) <<< ((nI i_92) &&& 31))) else a_92)) : Int32)) (fun i_92 a_92 => ab_J G (ac_ST L xs) l (d + 1) 92 5 [some (.ref 42), some (.int i1), some (.int i2), some (.int a_92), some (.int (nI i_92))] [] ac_SK V ac_SK K) n a0 ?_ ?_
  · refine iv_92_5 ⟨fun q => absurd q (zz_ge hn), fun _ => ?_⟩
    try dsimp only at h
    generalize hfo : fo (fun (i_92 : Nat) (a_92 : Int32) => ((if i2 < (V 53 i_92) then a_92 else (if (V 50 i_92) = i1 then (a_92 ||| ((1 : Int32) <<< ((nI i_92) &&& 31))) else a_92)) : Int32)) n a0 = a_92 at h ⊢
    exact h
  · intro i_92 hi ih
    have e : (nI i_92).toNatClampNeg = i_92 := zz_ix (by omega)
    rw [fo_s, nI_succ] at ih
    refine iv_92_5 ⟨fun _ => ?_, fun q => absurd (zz_gl hn hi (by omega)) q⟩
    try simp only [e, ac_zs0, ac_zs1]
    refine ⟨vp_in_nI (by omega) (by decide), ?_⟩
    refine ⟨fun c1 => ?_, fun c1 => ?_⟩
    · rw [if_pos c1] at ih
      exact ih
    · refine ⟨vp_in_nI (by omega) (by decide), ?_⟩
      refine ⟨fun c2 => ?_, fun c2 => ?_⟩
      · rw [if_neg c1, if_pos c2] at ih
        exact ih
      · rw [if_neg c1, if_neg c2] at ih
        exact ih

def va_92 (i1 : Int32) (i2 : Int32) (V : aa_V) : Int32 := (vl_92_5 i1 i2 V (0 : Int32))
set_option maxRecDepth 20000 in
/-- FrameCounty$Watch wordsOn -/
theorem sp_92 {G : ab_G} {L : Nat} {xs : Nat → Int32} {l : Launch} {d : Nat} {i1 : Int32} {i2 : Int32} {V : aa_V} {K : aa_K} (hw1 : zb (V 42 10) 24) (h : K (some (.int (va_92 i1 i2 V))) V) :
    ab_E G (ac_ST L xs) l (d + 1) ac_SK 92 [.ref 42, .int i1, .int i2] V K := by
  rw [va_92] at h
  refine iv_92_0 ?_
  exact lo_92_5 hw1 h

def vl_93_4 (i1 : Int32) (V : aa_V) (a0 : Int32) : Int32 := ((fun (a_93 : Int32) => a_93) (fo (fun (i_93 : Nat) (a_93 : Int32) => ((if ((i1 >>> ((nI i_93) &&& 31)) &&& (1 : Int32)) = (1 : Int32) then (a_93 + (V 52 i_93)) else a_93) : Int32)) ((V 42 10)).toNatClampNeg a0))
set_option maxRecDepth 20000 in
/-- FrameCounty$Watch paidFor, the loop at 4 -/
theorem lo_93_4 {G : ab_G} {L : Nat} {xs : Nat → Int32} {l : Launch} {d : Nat} {i1 : Int32} {V : aa_V} {K : aa_K} {a0 : Int32} (hz : zb (V 42 10) 24) (h : K (some (.int (vl_93_4 i1 V a0))) V) :
    ab_J G (ac_ST L xs) l (d + 1) 93 4 [some (.ref 42), some (.int i1), some (.int a0), some (.int (0 : Int32))] [] ac_SK V ac_SK K := by
  obtain ⟨n, hn, hm⟩ : ∃ n : Nat, (V 42 10) = nI n ∧ n ≤ 24 := ⟨_, hz.1, hz.2⟩
  have hN : ((V 42 10)).toNatClampNeg = n := by rw [hn]; exact zz_ix (by omega)
  rw [vl_93_4] at h
  rw [hN] at h
  refine zz_fo (fun (i_93 : Nat) (a_93 : Int32) => ((if ((i1 >>> ((nI i_93) &&& 31)) &&& (1 : Int32)) = (1 : Int32) then (a_93 + (V 52 i_93)) else a_93) : Int32)) (fun i_93 a_93 => ab_J G (ac_ST L xs) l (d + 1) 93 4 [some (.ref 42), some (.int i1), some (.int a_93), some (.int (nI i_93))] [] ac_SK V ac_SK K) n a0 ?_ ?_
  · refine iv_93_4 ⟨fun q => absurd q (zz_ge hn), fun _ => ?_⟩
    try dsimp only at h
    generalize hfo : fo (fun (i_93 : Nat) (a_93 : Int32) => ((if ((i1 >>> ((nI i_93) &&& 31)) &&& (1 : Int32)) = (1 : Int32) then (a_93 + (V 52 i_93)) else a_93) : Int32)) n a0 = a_93 at h ⊢
    exact h
  · intro i_93 hi ih
    have e : (nI i_93).toNatClampNeg = i_93 := zz_ix (by omega)
    rw [fo_s, nI_succ] at ih
    refine iv_93_4 ⟨fun _ => ?_, fun q => absurd (zz_gl hn hi (by omega)) q⟩
    try simp only [e, ac_zs0, ac_zs1]
    refine ⟨fun c1 => ?_, fun c1 => ?_⟩
    · refine ⟨vp_in_nI (by omega) (by decide), ?_⟩
      rw [if_pos c1] at ih
      exact ih
    · rw [if_neg c1] at ih
      exact ih

def va_93 (i1 : Int32) (V : aa_V) : Int32 := (vl_93_4 i1 V (0 : Int32))
set_option maxRecDepth 20000 in
/-- FrameCounty$Watch paidFor -/
theorem sp_93 {G : ab_G} {L : Nat} {xs : Nat → Int32} {l : Launch} {d : Nat} {i1 : Int32} {V : aa_V} {K : aa_K} (hw1 : zb (V 42 10) 24) (h : K (some (.int (va_93 i1 V))) V) :
    ab_E G (ac_ST L xs) l (d + 1) ac_SK 93 [.ref 42, .int i1] V K := by
  rw [va_93] at h
  refine iv_93_0 ?_
  exact lo_93_4 hw1 h

def va_121 (i1 : Int32) (i2 : Int32) (V : aa_V) : Int32 := (if i2 = 0 then (if (V 36 ((i1).toNatClampNeg)) = (1 : Int32) then (1 : Int32) else (0 : Int32)) else (if i2 = (1 : Int32) then (if (V 36 ((i1).toNatClampNeg)) = (2 : Int32) then (1 : Int32) else (0 : Int32)) else (if (V 36 ((i1).toNatClampNeg)) = (0 : Int32) then (1 : Int32) else (0 : Int32))))
def vn_121 (i1 : Int32) (i2 : Int32) (V : aa_V) : aa_V := (if i2 = 0 then (if (V 36 ((i1).toNatClampNeg)) = (1 : Int32) then (aa_up V 36 ((i1).toNatClampNeg) (0 : Int32)) else V) else (if i2 = (1 : Int32) then (if (V 36 ((i1).toNatClampNeg)) = (2 : Int32) then (aa_up V 36 ((i1).toNatClampNeg) (0 : Int32)) else V) else (if (V 36 ((i1).toNatClampNeg)) = (0 : Int32) then (aa_up V 36 ((i1).toNatClampNeg) (2 : Int32)) else V)))
set_option maxRecDepth 20000 in
/-- FrameCounty$Works change -/
theorem sp_121 {G : ab_G} {L : Nat} {xs : Nat → Int32} {l : Launch} {d : Nat} {i1 : Int32} {i2 : Int32} {V : aa_V} {K : aa_K} (hw1 : (i2 = 0) → vp_in i1 20) (hw2 : ¬ (i2 = 0) → (i2 = (1 : Int32)) → vp_in i1 20) (hw3 : ¬ (i2 = 0) → ¬ (i2 = (1 : Int32)) → vp_in i1 20) (h : aa_bit (va_121 i1 i2 V) → K (some (.int (va_121 i1 i2 V))) (vn_121 i1 i2 V)) :
    ab_E G (ac_ST L xs) l (d + 1) ac_SK 121 [.ref 29, .int i1, .int i2] V K := by
  rw [va_121, vn_121] at h
  refine iv_121_0 ?_
  refine ⟨fun g1 => ?_, fun g1 => ?_⟩
  · refine ⟨(hw1 g1), ?_⟩
    refine ⟨fun g2 => ?_, fun g2 => ?_⟩
    · refine ⟨(hw1 g1), ?_⟩
      simp only [if_pos g1, if_pos g2] at h
      exact h (Or.inr rfl)
    · simp only [if_pos g1, if_neg g2] at h
      exact h (Or.inl rfl)
  · refine ⟨fun g3 => ?_, fun g3 => ?_⟩
    · refine ⟨(hw2 g1 g3), ?_⟩
      refine ⟨fun g4 => ?_, fun g4 => ?_⟩
      · refine ⟨(hw2 g1 g3), ?_⟩
        simp only [if_neg g1, if_pos g3, if_pos g4] at h
        exact h (Or.inr rfl)
      · simp only [if_neg g1, if_pos g3, if_neg g4] at h
        exact h (Or.inl rfl)
    · refine ⟨(hw3 g1 g3), ?_⟩
      refine ⟨fun g5 => ?_, fun g5 => ?_⟩
      · refine ⟨(hw3 g1 g3), ?_⟩
        simp only [if_neg g1, if_neg g3, if_pos g5] at h
        exact h (Or.inr rfl)
      · simp only [if_neg g1, if_neg g3, if_neg g5] at h
        exact h (Or.inl rfl)

def vl_123_4 (i1 : Int32) (V : aa_V) (a0 : Int32) : Int32 := ((fun (a_123 : Int32) => a_123) (fo (fun (i_123 : Nat) (a_123 : Int32) => ((if (V 36 i_123) = i1 then (a_123 + 1) else a_123) : Int32)) ((V 29 3)).toNatClampNeg a0))
set_option maxRecDepth 20000 in
/-- FrameCounty$Works framesThatAre, the loop at 4 -/
theorem lo_123_4 {G : ab_G} {L : Nat} {xs : Nat → Int32} {l : Launch} {d : Nat} {i1 : Int32} {V : aa_V} {K : aa_K} {a0 : Int32} (hz : zb (V 29 3) 20) (h : K (some (.int (vl_123_4 i1 V a0))) V) :
    ab_J G (ac_ST L xs) l (d + 1) 123 4 [some (.ref 29), some (.int i1), some (.int a0), some (.int (0 : Int32))] [] ac_SK V ac_SK K := by
  obtain ⟨n, hn, hm⟩ : ∃ n : Nat, (V 29 3) = nI n ∧ n ≤ 20 := ⟨_, hz.1, hz.2⟩
  have hN : ((V 29 3)).toNatClampNeg = n := by rw [hn]; exact zz_ix (by omega)
  rw [vl_123_4] at h
  rw [hN] at h
  refine zz_fo (fun (i_123 : Nat) (a_123 : Int32) => ((if (V 36 i_123) = i1 then (a_123 + 1) else a_123) : Int32)) (fun i_123 a_123 => ab_J G (ac_ST L xs) l (d + 1) 123 4 [some (.ref 29), some (.int i1), some (.int a_123), some (.int (nI i_123))] [] ac_SK V ac_SK K) n a0 ?_ ?_
  · refine iv_123_4 ⟨fun q => absurd q (zz_ge hn), fun _ => ?_⟩
    try dsimp only at h
    generalize hfo : fo (fun (i_123 : Nat) (a_123 : Int32) => ((if (V 36 i_123) = i1 then (a_123 + 1) else a_123) : Int32)) n a0 = a_123 at h ⊢
    exact h
  · intro i_123 hi ih
    have e : (nI i_123).toNatClampNeg = i_123 := zz_ix (by omega)
    rw [fo_s, nI_succ] at ih
    refine iv_123_4 ⟨fun _ => ?_, fun q => absurd (zz_gl hn hi (by omega)) q⟩
    try simp only [e, ac_zs0, ac_zs1]
    refine ⟨vp_in_nI (by omega) (by decide), ?_⟩
    refine ⟨fun c1 => ?_, fun c1 => ?_⟩
    · rw [if_pos c1] at ih
      exact ih
    · rw [if_neg c1] at ih
      exact ih

def va_123 (i1 : Int32) (V : aa_V) : Int32 := (vl_123_4 i1 V (0 : Int32))
set_option maxRecDepth 20000 in
/-- FrameCounty$Works framesThatAre -/
theorem sp_123 {G : ab_G} {L : Nat} {xs : Nat → Int32} {l : Launch} {d : Nat} {i1 : Int32} {V : aa_V} {K : aa_K} (hw1 : zb (V 29 3) 20) (h : K (some (.int (va_123 i1 V))) V) :
    ab_E G (ac_ST L xs) l (d + 1) ac_SK 123 [.ref 29, .int i1] V K := by
  rw [va_123] at h
  refine iv_123_0 ?_
  exact lo_123_4 hw1 h

def vl_124_10 (i2 : Int32) (V : aa_V) (a0 : Int32) : Int32 := (match fe (fun (i_124 : Nat) (a_124 : Int32) => ((if a_124 = (-1 : Int32) then .inr (0 : Int32) else (if a_124 = i2 then .inr (1 : Int32) else .inl (ac_zr0 (a_124).toNatClampNeg))) : Int32 ⊕ Int32)) 6 a0 with
  | .inl a_124 => (0 : Int32)
  | .inr b => b)
set_option maxRecDepth 20000 in
/-- FrameCounty$Works isOfKind, the loop at 10 -/
theorem lo_124_10 {G : ab_G} {L : Nat} {xs : Nat → Int32} {l : Launch} {d : Nat} {i2 : Int32} {V : aa_V} {K : aa_K} {a0 : Int32} (hv1 : ∀ (i_124 : Nat) {a_124 : Int32}, i_124 < 6 → fe (fun (i_124 : Nat) (a_124 : Int32) => ((if a_124 = (-1 : Int32) then .inr (0 : Int32) else (if a_124 = i2 then .inr (1 : Int32) else .inl (ac_zr0 (a_124).toNatClampNeg))) : Int32 ⊕ Int32)) i_124 a0 = .inl a_124 → ¬ (a_124 = (-1 : Int32)) → ¬ (a_124 = i2) → vp_in a_124 (ac_ST L xs 0).2.1) (h : aa_bit (vl_124_10 i2 V a0) → K (some (.int (vl_124_10 i2 V a0))) V) :
    ab_J G (ac_ST L xs) l (d + 1) 124 10 [none, none, some (.int i2), some (.int a0), some (.int (0 : Int32))] [] ac_SK V ac_SK K := by
  obtain ⟨n, hn, hm, hN⟩ : ∃ n : Nat, (6 : Int32) = nI n ∧ n ≤ 6 ∧ n = 6 := ⟨6, by decide +kernel, Nat.le_refl _, rfl⟩
  have hvl : vl_124_10 i2 V a0 = (match fe (fun (i_124 : Nat) (a_124 : Int32) => ((if a_124 = (-1 : Int32) then .inr (0 : Int32) else (if a_124 = i2 then .inr (1 : Int32) else .inl (ac_zr0 (a_124).toNatClampNeg))) : Int32 ⊕ Int32)) n a0 with
  | .inl a_124 => (0 : Int32)
  | .inr b => b) := by
    subst hN
    rfl
  rw [hvl] at h
  have hlt : ∀ i_124, i_124 < n → i_124 < 6 := fun i_124 q => by omega
  refine zz_fe (fun (i_124 : Nat) (a_124 : Int32) => ((if a_124 = (-1 : Int32) then .inr (0 : Int32) else (if a_124 = i2 then .inr (1 : Int32) else .inl (ac_zr0 (a_124).toNatClampNeg))) : Int32 ⊕ Int32)) (fun i_124 a_124 => ab_J G (ac_ST L xs) l (d + 1) 124 10 [none, none, some (.int i2), some (.int a_124), some (.int (nI i_124))] [] ac_SK V ac_SK K) (fun b => aa_bit b → K (some (.int b)) V) n a0 ?_ ?_ ?_
  · intro a_124 hfo
    rw [hfo] at h
    refine iv_124_10 ⟨fun q => absurd q (zz_ge hn), fun _ => ?_⟩
    subst hN
    exact h (Or.inl rfl)
  · intro i_124 a_124 hi hfe hnx hex
    have e : (nI i_124).toNatClampNeg = i_124 := zz_ix (by omega)
    rw [nI_succ] at hnx
    refine iv_124_10 ⟨fun _ => ?_, fun q => absurd (zz_gl hn hi (by omega)) q⟩
    try simp only [e, ac_zs0, ac_zs1]
    refine ⟨fun c1 => ?_, fun c1 => ?_⟩
    · exact hex _ ((if_pos c1).trans rfl) (Or.inl rfl)
    · refine ⟨fun c2 => ?_, fun c2 => ?_⟩
      · exact hex _ ((if_neg c1).trans ((if_pos c2).trans rfl)) (Or.inr rfl)
      · refine ⟨((hv1 i_124 (hlt i_124 hi) hfe) c1 c2), ?_⟩
        exact hnx _ ((if_neg c1).trans ((if_neg c2).trans rfl))
  · intro b hb
    rw [hb] at h
    exact h

def va_124 (i1 : Int32) (i2 : Int32) (V : aa_V) : Int32 := (vl_124_10 i2 V (V 32 ((i1).toNatClampNeg)))
set_option maxRecDepth 20000 in
/-- FrameCounty$Works isOfKind -/
theorem sp_124 {G : ab_G} {L : Nat} {xs : Nat → Int32} {l : Launch} {d : Nat} {i1 : Int32} {i2 : Int32} {V : aa_V} {K : aa_K} (hw1 : vp_in i1 20) (hw2 : ∀ (i_124 : Nat) {a_124 : Int32}, i_124 < 6 → fe (fun (i_124 : Nat) (a_124 : Int32) => ((if a_124 = (-1 : Int32) then .inr (0 : Int32) else (if a_124 = i2 then .inr (1 : Int32) else .inl (ac_zr0 (a_124).toNatClampNeg))) : Int32 ⊕ Int32)) i_124 (V 32 ((i1).toNatClampNeg)) = .inl a_124 → ¬ (a_124 = (-1 : Int32)) → ¬ (a_124 = i2) → vp_in a_124 (ac_ST L xs 0).2.1) (h : aa_bit (va_124 i1 i2 V) → K (some (.int (va_124 i1 i2 V))) V) :
    ab_E G (ac_ST L xs) l (d + 1) ac_SK 124 [.ref 29, .int i1, .int i2] V K := by
  rw [va_124] at h
  refine iv_124_0 ?_
  refine ⟨hw1, ?_⟩
  exact lo_124_10 hw2 h

def va_125 (i1 : Int32) (V : aa_V) : Int32 := (if (V 32 ((i1).toNatClampNeg)) = 2 then ((V 35 ((i1).toNatClampNeg)) / (2 : Int32)) else (if (V 32 ((i1).toNatClampNeg)) = 3 then ((V 35 ((i1).toNatClampNeg)) + (2 : Int32)) else (if (V 32 ((i1).toNatClampNeg)) = 4 then ((V 35 ((i1).toNatClampNeg)) / (2 : Int32)) else (if (V 32 ((i1).toNatClampNeg)) = 5 then ((V 35 ((i1).toNatClampNeg)) + (V 34 ((i1).toNatClampNeg))) else (V 35 ((i1).toNatClampNeg))))))
set_option maxRecDepth 20000 in
/-- FrameCounty$Works rentPaid -/
theorem sp_125 {G : ab_G} {L : Nat} {xs : Nat → Int32} {l : Launch} {d : Nat} {i1 : Int32} {V : aa_V} {K : aa_K} (hw1 : vp_in i1 20) (h : K (some (.int (va_125 i1 V))) V) :
    ab_E G (ac_ST L xs) l (d + 1) ac_SK 125 [.ref 29, .int i1] V K := by
  rw [va_125] at h
  refine iv_125_0 ?_
  refine ⟨hw1, ?_⟩
  refine ⟨fun g1 => ?_, fun g1 => ?_⟩
  · refine ⟨hw1, ?_⟩
    refine ⟨by decide, ?_⟩
    simp only [if_pos g1] at h
    exact h
  · refine ⟨fun g2 => ?_, fun g2 => ?_⟩
    · refine ⟨hw1, ?_⟩
      simp only [if_neg g1, if_pos g2] at h
      exact h
    · refine ⟨fun g3 => ?_, fun g3 => ?_⟩
      · refine ⟨hw1, ?_⟩
        refine ⟨by decide, ?_⟩
        simp only [if_neg g1, if_neg g2, if_pos g3] at h
        exact h
      · refine ⟨fun g4 => ?_, fun g4 => ?_⟩
        · refine ⟨hw1, ?_⟩
          refine ⟨hw1, ?_⟩
          simp only [if_neg g1, if_neg g2, if_neg g3, if_pos g4] at h
          exact h
        · refine ⟨hw1, ?_⟩
          simp only [if_neg g1, if_neg g2, if_neg g3, if_neg g4] at h
          exact h

def va_126 (i1 : Int32) (V : aa_V) : Int32 := (if (V 32 ((i1).toNatClampNeg)) = 1 then (((V 34 ((i1).toNatClampNeg)) / (10 : Int32)) + (3 : Int32)) else (if (V 32 ((i1).toNatClampNeg)) = 2 then (((V 34 ((i1).toNatClampNeg)) / (10 : Int32)) - (1 : Int32)) else (if (V 32 ((i1).toNatClampNeg)) = 3 then ((((V 34 ((i1).toNatClampNeg)) / (10 : Int32)) + (3 : Int32)) * (2 : Int32)) else (if (V 32 ((i1).toNatClampNeg)) = 4 then ((((V 34 ((i1).toNatClampNeg)) / (10 : Int32)) - (1 : Int32)) / (2 : Int32)) else (if (V 32 ((i1).toNatClampNeg)) = 5 then (((V 34 ((i1).toNatClampNeg)) / (10 : Int32)) * (4 : Int32)) else ((V 34 ((i1).toNatClampNeg)) / (10 : Int32)))))))
set_option maxRecDepth 20000 in
/-- FrameCounty$Works makes -/
theorem sp_126 {G : ab_G} {L : Nat} {xs : Nat → Int32} {l : Launch} {d : Nat} {i1 : Int32} {V : aa_V} {K : aa_K} (hw1 : vp_in i1 20) (h : K (some (.int (va_126 i1 V))) V) :
    ab_E G (ac_ST L xs) l (d + 1) ac_SK 126 [.ref 29, .int i1] V K := by
  rw [va_126] at h
  refine iv_126_0 ?_
  refine ⟨hw1, ?_⟩
  refine ⟨by decide, ?_⟩
  refine ⟨hw1, ?_⟩
  refine ⟨fun g1 => ?_, fun g1 => ?_⟩
  · simp only [if_pos g1] at h
    exact h
  · refine ⟨fun g2 => ?_, fun g2 => ?_⟩
    · simp only [if_neg g1, if_pos g2] at h
      exact h
    · refine ⟨fun g3 => ?_, fun g3 => ?_⟩
      · simp only [if_neg g1, if_neg g2, if_pos g3] at h
        exact h
      · refine ⟨fun g4 => ?_, fun g4 => ?_⟩
        · refine ⟨by decide, ?_⟩
          simp only [if_neg g1, if_neg g2, if_neg g3, if_pos g4] at h
          exact h
        · refine ⟨fun g5 => ?_, fun g5 => ?_⟩
          · simp only [if_neg g1, if_neg g2, if_neg g3, if_neg g4, if_pos g5] at h
            exact h
          · simp only [if_neg g1, if_neg g2, if_neg g3, if_neg g4, if_neg g5] at h
            exact h

def vl_129_4 (i1 : Int32) (V : aa_V) (a0 : Int32) : Int32 := ((fun (a_129 : Int32) => a_129) (fo (fun (i_129 : Nat) (a_129 : Int32) => ((if (V 36 i_129) = (1 : Int32) then (if (V 37 i_129) = i1 then (a_129 ||| ((1 : Int32) <<< ((nI i_129) &&& 31))) else a_129) else a_129) : Int32)) ((V 29 3)).toNatClampNeg a0))
set_option maxRecDepth 20000 in
/-- FrameCounty$Works struckIn, the loop at 4 -/
theorem lo_129_4 {G : ab_G} {L : Nat} {xs : Nat → Int32} {l : Launch} {d : Nat} {i1 : Int32} {V : aa_V} {K : aa_K} {a0 : Int32} (hz : zb (V 29 3) 20) (h : K (some (.int (vl_129_4 i1 V a0))) V) :
    ab_J G (ac_ST L xs) l (d + 1) 129 4 [some (.ref 29), some (.int i1), some (.int a0), some (.int (0 : Int32))] [] ac_SK V ac_SK K := by
  obtain ⟨n, hn, hm⟩ : ∃ n : Nat, (V 29 3) = nI n ∧ n ≤ 20 := ⟨_, hz.1, hz.2⟩
  have hN : ((V 29 3)).toNatClampNeg = n := by rw [hn]; exact zz_ix (by omega)
  rw [vl_129_4] at h
  rw [hN] at h
  refine zz_fo (fun (i_129 : Nat) (a_129 : Int32) => ((if (V 36 i_129) = (1 : Int32) then (if (V 37 i_129) = i1 then (a_129 ||| ((1 : Int32) <<< ((nI i_129) &&& 31))) else a_129) else a_129) : Int32)) (fun i_129 a_129 => ab_J G (ac_ST L xs) l (d + 1) 129 4 [some (.ref 29), some (.int i1), some (.int a_129), some (.int (nI i_129))] [] ac_SK V ac_SK K) n a0 ?_ ?_
  · refine iv_129_4 ⟨fun q => absurd q (zz_ge hn), fun _ => ?_⟩
    try dsimp only at h
    generalize hfo : fo (fun (i_129 : Nat) (a_129 : Int32) => ((if (V 36 i_129) = (1 : Int32) then (if (V 37 i_129) = i1 then (a_129 ||| ((1 : Int32) <<< ((nI i_129) &&& 31))) else a_129) else a_129) : Int32)) n a0 = a_129 at h ⊢
    exact h
  · intro i_129 hi ih
    have e : (nI i_129).toNatClampNeg = i_129 := zz_ix (by omega)
    rw [fo_s, nI_succ] at ih
    refine iv_129_4 ⟨fun _ => ?_, fun q => absurd (zz_gl hn hi (by omega)) q⟩
    try simp only [e, ac_zs0, ac_zs1]
    refine ⟨vp_in_nI (by omega) (by decide), ?_⟩
    refine ⟨fun c1 => ?_, fun c1 => ?_⟩
    · refine ⟨vp_in_nI (by omega) (by decide), ?_⟩
      refine ⟨fun c2 => ?_, fun c2 => ?_⟩
      · rw [if_pos c1, if_pos c2] at ih
        exact ih
      · rw [if_pos c1, if_neg c2] at ih
        exact ih
    · rw [if_neg c1] at ih
      exact ih

def va_129 (i1 : Int32) (V : aa_V) : Int32 := (vl_129_4 i1 V (0 : Int32))
set_option maxRecDepth 20000 in
/-- FrameCounty$Works struckIn -/
theorem sp_129 {G : ab_G} {L : Nat} {xs : Nat → Int32} {l : Launch} {d : Nat} {i1 : Int32} {V : aa_V} {K : aa_K} (hw1 : zb (V 29 3) 20) (h : K (some (.int (va_129 i1 V))) V) :
    ab_E G (ac_ST L xs) l (d + 1) ac_SK 129 [.ref 29, .int i1] V K := by
  rw [va_129] at h
  refine iv_129_0 ?_
  exact lo_129_4 hw1 h

def vl_131_4 (i1 : Int32) (V : aa_V) (a0 : Int32) : Int32 := ((fun (a_131 : Int32) => a_131) (fo (fun (i_131 : Nat) (a_131 : Int32) => ((if ((i1 >>> ((nI i_131) &&& 31)) &&& (1 : Int32)) = (1 : Int32) then (a_131 ||| ((1 : Int32) <<< ((V 33 i_131) &&& 31))) else a_131) : Int32)) ((V 29 3)).toNatClampNeg a0))
set_option maxRecDepth 20000 in
/-- FrameCounty$Works shopsWith, the loop at 4 -/
theorem lo_131_4 {G : ab_G} {L : Nat} {xs : Nat → Int32} {l : Launch} {d : Nat} {i1 : Int32} {V : aa_V} {K : aa_K} {a0 : Int32} (hz : zb (V 29 3) 20) (h : K (some (.int (vl_131_4 i1 V a0))) V) :
    ab_J G (ac_ST L xs) l (d + 1) 131 4 [some (.ref 29), some (.int i1), some (.int a0), some (.int (0 : Int32))] [] ac_SK V ac_SK K := by
  obtain ⟨n, hn, hm⟩ : ∃ n : Nat, (V 29 3) = nI n ∧ n ≤ 20 := ⟨_, hz.1, hz.2⟩
  have hN : ((V 29 3)).toNatClampNeg = n := by rw [hn]; exact zz_ix (by omega)
  rw [vl_131_4] at h
  rw [hN] at h
  refine zz_fo (fun (i_131 : Nat) (a_131 : Int32) => ((if ((i1 >>> ((nI i_131) &&& 31)) &&& (1 : Int32)) = (1 : Int32) then (a_131 ||| ((1 : Int32) <<< ((V 33 i_131) &&& 31))) else a_131) : Int32)) (fun i_131 a_131 => ab_J G (ac_ST L xs) l (d + 1) 131 4 [some (.ref 29), some (.int i1), some (.int a_131), some (.int (nI i_131))] [] ac_SK V ac_SK K) n a0 ?_ ?_
  · refine iv_131_4 ⟨fun q => absurd q (zz_ge hn), fun _ => ?_⟩
    try dsimp only at h
    generalize hfo : fo (fun (i_131 : Nat) (a_131 : Int32) => ((if ((i1 >>> ((nI i_131) &&& 31)) &&& (1 : Int32)) = (1 : Int32) then (a_131 ||| ((1 : Int32) <<< ((V 33 i_131) &&& 31))) else a_131) : Int32)) n a0 = a_131 at h ⊢
    exact h
  · intro i_131 hi ih
    have e : (nI i_131).toNatClampNeg = i_131 := zz_ix (by omega)
    rw [fo_s, nI_succ] at ih
    refine iv_131_4 ⟨fun _ => ?_, fun q => absurd (zz_gl hn hi (by omega)) q⟩
    try simp only [e, ac_zs0, ac_zs1]
    refine ⟨fun c1 => ?_, fun c1 => ?_⟩
    · refine ⟨vp_in_nI (by omega) (by decide), ?_⟩
      rw [if_pos c1] at ih
      exact ih
    · rw [if_neg c1] at ih
      exact ih

def va_131 (i1 : Int32) (V : aa_V) : Int32 := (vl_131_4 i1 V (0 : Int32))
set_option maxRecDepth 20000 in
/-- FrameCounty$Works shopsWith -/
theorem sp_131 {G : ab_G} {L : Nat} {xs : Nat → Int32} {l : Launch} {d : Nat} {i1 : Int32} {V : aa_V} {K : aa_K} (hw1 : zb (V 29 3) 20) (h : K (some (.int (va_131 i1 V))) V) :
    ab_E G (ac_ST L xs) l (d + 1) ac_SK 131 [.ref 29, .int i1] V K := by
  rw [va_131] at h
  refine iv_131_0 ?_
  exact lo_131_4 hw1 h

def va_133 (i1 : Int32) (i2 : Int32) (V : aa_V) : Int32 := (if i1 = 0 then (V 34 ((i2).toNatClampNeg)) else (if i1 = 1 then (V 35 ((i2).toNatClampNeg)) else (if i1 = 2 then (V 32 ((i2).toNatClampNeg)) else (if i1 = 3 then (V 31 (((V 33 ((i2).toNatClampNeg))).toNatClampNeg)) else (V 30 (((V 33 ((i2).toNatClampNeg))).toNatClampNeg))))))
set_option maxRecDepth 20000 in
/-- FrameCounty$Works fieldOf -/
theorem sp_133 {G : ab_G} {L : Nat} {xs : Nat → Int32} {l : Launch} {d : Nat} {i1 : Int32} {i2 : Int32} {V : aa_V} {K : aa_K} (hw1 : (i1 = 0) → vp_in i2 20) (hw2 : ¬ (i1 = 0) → (i1 = 1) → vp_in i2 20) (hw3 : ¬ (i1 = 0) → ¬ (i1 = 1) → (i1 = 2) → vp_in i2 20) (hw4 : ¬ (i1 = 0) → ¬ (i1 = 1) → ¬ (i1 = 2) → (i1 = 3) → vp_in i2 20) (hw5 : ¬ (i1 = 0) → ¬ (i1 = 1) → ¬ (i1 = 2) → (i1 = 3) → vp_in (V 33 ((i2).toNatClampNeg)) 8) (hw6 : ¬ (i1 = 0) → ¬ (i1 = 1) → ¬ (i1 = 2) → ¬ (i1 = 3) → vp_in i2 20) (hw7 : ¬ (i1 = 0) → ¬ (i1 = 1) → ¬ (i1 = 2) → ¬ (i1 = 3) → vp_in (V 33 ((i2).toNatClampNeg)) 8) (h : K (some (.int (va_133 i1 i2 V))) V) :
    ab_E G (ac_ST L xs) l (d + 1) ac_SK 133 [.ref 29, .int i1, .int i2] V K := by
  rw [va_133] at h
  refine iv_133_0 ?_
  refine ⟨fun g1 => ?_, fun g1 => ?_⟩
  · refine ⟨(hw1 g1), ?_⟩
    simp only [if_pos g1] at h
    exact h
  · refine ⟨fun g2 => ?_, fun g2 => ?_⟩
    · refine ⟨(hw2 g1 g2), ?_⟩
      simp only [if_neg g1, if_pos g2] at h
      exact h
    · refine ⟨fun g3 => ?_, fun g3 => ?_⟩
      · refine ⟨(hw3 g1 g2 g3), ?_⟩
        simp only [if_neg g1, if_neg g2, if_pos g3] at h
        exact h
      · refine ⟨fun g4 => ?_, fun g4 => ?_⟩
        · refine ⟨(hw4 g1 g2 g3 g4), ?_⟩
          refine ⟨(hw5 g1 g2 g3 g4), ?_⟩
          simp only [if_neg g1, if_neg g2, if_neg g3, if_pos g4] at h
          exact h
        · refine ⟨(hw6 g1 g2 g3 g4), ?_⟩
          refine ⟨(hw7 g1 g2 g3 g4), ?_⟩
          simp only [if_neg g1, if_neg g2, if_neg g3, if_neg g4] at h
          exact h

def va_192 (l0 : Int64) (l2 : Int64) (l4 : Int64) (V : aa_V) : Int32 := (if (lg_cmp l0 l2) < 0 then (0 : Int32) else (if 0 < (lg_cmp l0 l4) then (0 : Int32) else (1 : Int32)))
set_option maxRecDepth 20000 in
/-- FrameCountyModel isIn -/
theorem sp_192 {G : ab_G} {L : Nat} {xs : Nat → Int32} {l : Launch} {d : Nat} {l0 : Int64} {l2 : Int64} {l4 : Int64} {V : aa_V} {K : aa_K} (h : aa_bit (va_192 l0 l2 l4 V) → K (some (.int (va_192 l0 l2 l4 V))) V) :
    ab_E G (ac_ST L xs) l (d + 1) ac_SK 192 [.long l0, .long l2, .long l4] V K := by
  rw [va_192] at h
  refine iv_192_0 ?_
  refine ⟨fun g1 => ?_, fun g1 => ?_⟩
  · simp only [if_pos g1] at h
    exact h (Or.inl rfl)
  · refine ⟨fun g2 => ?_, fun g2 => ?_⟩
    · simp only [if_neg g1, if_pos g2] at h
      exact h (Or.inl rfl)
    · simp only [if_neg g1, if_neg g2] at h
      exact h (Or.inr rfl)

def va_204 (i1 : Int32) (V : aa_V) : Int32 := (if (V 110 ((i1).toNatClampNeg)) = 0 then ((V 112 ((i1).toNatClampNeg)) / (10 : Int32)) else (if (V 110 ((i1).toNatClampNeg)) = 1 then (((V 112 ((i1).toNatClampNeg)) / (10 : Int32)) + (3 : Int32)) else (if (V 110 ((i1).toNatClampNeg)) = 2 then (((V 112 ((i1).toNatClampNeg)) / (10 : Int32)) - (1 : Int32)) else (if (V 110 ((i1).toNatClampNeg)) = 3 then ((2 : Int32) * (((V 112 ((i1).toNatClampNeg)) / (10 : Int32)) + (3 : Int32))) else (if (V 110 ((i1).toNatClampNeg)) = 4 then ((((V 112 ((i1).toNatClampNeg)) / (10 : Int32)) - (1 : Int32)) / (2 : Int32)) else ((4 : Int32) * ((V 112 ((i1).toNatClampNeg)) / (10 : Int32))))))))
set_option maxRecDepth 20000 in
/-- FrameCountyModel makes -/
theorem sp_204 {G : ab_G} {L : Nat} {xs : Nat → Int32} {l : Launch} {d : Nat} {i1 : Int32} {V : aa_V} {K : aa_K} (hw1 : vp_in i1 20) (h : K (some (.int (va_204 i1 V))) V) :
    ab_E G (ac_ST L xs) l (d + 1) ac_SK 204 [.ref 105, .int i1] V K := by
  rw [va_204] at h
  refine iv_204_0 ?_
  refine ⟨hw1, ?_⟩
  refine ⟨by decide, ?_⟩
  refine ⟨hw1, ?_⟩
  refine ⟨fun g1 => ?_, fun g1 => ?_⟩
  · simp only [if_pos g1] at h
    exact h
  · refine ⟨fun g2 => ?_, fun g2 => ?_⟩
    · simp only [if_neg g1, if_pos g2] at h
      exact h
    · refine ⟨fun g3 => ?_, fun g3 => ?_⟩
      · simp only [if_neg g1, if_neg g2, if_pos g3] at h
        exact h
      · refine ⟨fun g4 => ?_, fun g4 => ?_⟩
        · simp only [if_neg g1, if_neg g2, if_neg g3, if_pos g4] at h
          exact h
        · refine ⟨fun g5 => ?_, fun g5 => ?_⟩
          · refine ⟨by decide, ?_⟩
            simp only [if_neg g1, if_neg g2, if_neg g3, if_neg g4, if_pos g5] at h
            exact h
          · simp only [if_neg g1, if_neg g2, if_neg g3, if_neg g4, if_neg g5] at h
            exact h

def va_205 (i1 : Int32) (V : aa_V) : Int32 := (if (V 110 ((i1).toNatClampNeg)) = (2 : Int32) then ((V 113 ((i1).toNatClampNeg)) / (2 : Int32)) else (if (V 110 ((i1).toNatClampNeg)) = (4 : Int32) then ((V 113 ((i1).toNatClampNeg)) / (2 : Int32)) else (if (V 110 ((i1).toNatClampNeg)) = (3 : Int32) then ((V 113 ((i1).toNatClampNeg)) + (2 : Int32)) else (if (V 110 ((i1).toNatClampNeg)) = (5 : Int32) then ((V 113 ((i1).toNatClampNeg)) + (V 112 ((i1).toNatClampNeg))) else (V 113 ((i1).toNatClampNeg))))))
set_option maxRecDepth 20000 in
/-- FrameCountyModel paidRent -/
theorem sp_205 {G : ab_G} {L : Nat} {xs : Nat → Int32} {l : Launch} {d : Nat} {i1 : Int32} {V : aa_V} {K : aa_K} (hw1 : vp_in i1 20) (h : K (some (.int (va_205 i1 V))) V) :
    ab_E G (ac_ST L xs) l (d + 1) ac_SK 205 [.ref 105, .int i1] V K := by
  rw [va_205] at h
  refine iv_205_0 ?_
  refine ⟨hw1, ?_⟩
  refine ⟨fun g1 => ?_, fun g1 => ?_⟩
  · refine ⟨hw1, ?_⟩
    refine ⟨by decide, ?_⟩
    simp only [if_pos g1] at h
    exact h
  · refine ⟨hw1, ?_⟩
    refine ⟨fun g2 => ?_, fun g2 => ?_⟩
    · refine ⟨hw1, ?_⟩
      refine ⟨by decide, ?_⟩
      simp only [if_neg g1, if_pos g2] at h
      exact h
    · refine ⟨hw1, ?_⟩
      refine ⟨fun g3 => ?_, fun g3 => ?_⟩
      · refine ⟨hw1, ?_⟩
        simp only [if_neg g1, if_neg g2, if_pos g3] at h
        exact h
      · refine ⟨hw1, ?_⟩
        refine ⟨fun g4 => ?_, fun g4 => ?_⟩
        · refine ⟨hw1, ?_⟩
          refine ⟨hw1, ?_⟩
          simp only [if_neg g1, if_neg g2, if_neg g3, if_pos g4] at h
          exact h
        · refine ⟨hw1, ?_⟩
          simp only [if_neg g1, if_neg g2, if_neg g3, if_neg g4] at h
          exact h

