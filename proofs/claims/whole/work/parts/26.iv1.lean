/-! stretches, with the small methods gone into -/
set_option maxRecDepth 20000 in
/-- FrameCounty$Bargain bestSet(II)I, from 0 -/
theorem iv_5_0 {G : ab_G} {L : Nat} {xs : Nat → Int32} {l : Launch} {d : Nat} {i1 : Int32} {i2 : Int32} {V : aa_V} {K : aa_K} (h :
    ab_J G (ac_ST L xs) l (d + 2) 5 5 [some (.ref 60), some (.int i1), some (.int i2), some (.int (-1 : Int32)), some (.int (0 : Int32)), none] [] ac_SK V ac_SK K) :
    ab_E G (ac_ST L xs) l (d + 2) ac_SK 5 [.ref 60, .int i1, .int i2] V K := by
  refine vc_5_0 ?_
  exact h

set_option maxRecDepth 20000 in
/-- FrameCounty$Bargain bestSet(II)I, from 5 -/
theorem iv_5_5 {G : ab_G} {L : Nat} {xs : Nat → Int32} {l : Launch} {d : Nat} {i1 : Int32} {i2 : Int32} {i3 : Int32} {i4 : Int32} {V : aa_V} {K : aa_K} (h :
    (i4 < ((1 : Int32) <<< ((V 60 0) &&& 31)) →
      ab_E G (ac_ST L xs) l (d + 1) ac_SK 7 [.ref 60, .int i4] V (aa_rI (fun x1 V1 =>
        (x1 = 0 →
          ab_J G (ac_ST L xs) l (d + 2) 5 5 [some (.ref 60), some (.int i1), some (.int i2), some (.int i3), some (.int (i4 + 1)), none] [] ac_SK V1 ac_SK K) ∧
        (¬ x1 = 0 →
          ab_E G (ac_ST L xs) l (d + 1) ac_SK 8 [.ref 60, .ref 61, .int i4] V1 (aa_rI (fun x2 V2 =>
            (x2 < i1 →
              ab_J G (ac_ST L xs) l (d + 2) 5 5 [some (.ref 60), some (.int i1), some (.int i2), some (.int i3), some (.int (i4 + 1)), none] [] ac_SK V2 ac_SK K) ∧
            (¬ x2 < i1 →
              ab_E G (ac_ST L xs) l (d + 1) ac_SK 8 [.ref 60, .ref 62, .int i4] V2 (aa_rI (fun x3 V3 =>
                (x3 < i2 →
                  ab_J G (ac_ST L xs) l (d + 2) 5 5 [some (.ref 60), some (.int i1), some (.int i2), some (.int i3), some (.int (i4 + 1)), none] [] ac_SK V3 ac_SK K) ∧
                (¬ x3 < i2 →
                  (i3 = (-1 : Int32) →
                    ab_J G (ac_ST L xs) l (d + 2) 5 5 [some (.ref 60), some (.int i1), some (.int i2), some (.int i4), some (.int (i4 + 1)), none] [] ac_SK V3 ac_SK K) ∧
                  (¬ i3 = (-1 : Int32) →
                    ab_E G (ac_ST L xs) l (d + 1) ac_SK 6 [.ref 60, .int i4, .int i3] V3 (aa_rI (fun x4 V4 =>
                      (x4 = 0 →
                        ab_J G (ac_ST L xs) l (d + 2) 5 5 [some (.ref 60), some (.int i1), some (.int i2), some (.int i3), some (.int (i4 + 1)), none] [] ac_SK V4 ac_SK K) ∧
                      (¬ x4 = 0 →
                        ab_J G (ac_ST L xs) l (d + 2) 5 5 [some (.ref 60), some (.int i1), some (.int i2), some (.int i4), some (.int (i4 + 1)), none] [] ac_SK V4 ac_SK K)))))))))))))) ∧
    (¬ i4 < ((1 : Int32) <<< ((V 60 0) &&& 31)) →
      K (some (.int i3)) V)) :
    ab_J G (ac_ST L xs) l (d + 2) 5 5 [some (.ref 60), some (.int i1), some (.int i2), some (.int i3), some (.int i4), none] [] ac_SK V ac_SK K := by
  refine vc_5_5 ?_
  refine ⟨fun c => ?_, fun c => ?_⟩
  · replace h := h.1 c
    refine ab_EmI (fun x1 V1 h => ?_) h
    refine ⟨fun c => ?_, fun c => ?_⟩
    · replace h := h.1 c
      refine ⟨fun q => ?_, fun q => absurd rfl q⟩
      exact h
    · replace h := h.2 c
      refine ab_EmI (fun x2 V2 h => ?_) h
      refine ⟨fun c => ?_, fun c => ?_⟩
      · replace h := h.1 c
        refine ⟨fun q => ?_, fun q => absurd rfl q⟩
        exact h
      · replace h := h.2 c
        refine ab_EmI (fun x3 V3 h => ?_) h
        refine ⟨fun c => ?_, fun c => ?_⟩
        · replace h := h.1 c
          refine ⟨fun q => ?_, fun q => absurd rfl q⟩
          exact h
        · replace h := h.2 c
          refine ⟨fun q => absurd q (by decide), fun q => ?_⟩
          exact h
  · replace h := h.2 c
    exact h

set_option maxRecDepth 20000 in
/-- FrameCounty$Bargain isBetter(II)Z, from 0 -/
theorem iv_6_0 {G : ab_G} {L : Nat} {xs : Nat → Int32} {l : Launch} {d : Nat} {i1 : Int32} {i2 : Int32} {V : aa_V} {K : aa_K} (h :
    ab_E G (ac_ST L xs) l (d + 1) ac_SK 8 [.ref 60, .ref 62, .int i1] V (aa_rI (fun x1 V1 =>
      ab_E G (ac_ST L xs) l (d + 1) ac_SK 8 [.ref 60, .ref 62, .int i2] V1 (aa_rI (fun x2 V2 =>
        ((x1 - x2) = 0 →
          ab_E G (ac_ST L xs) l (d + 1) ac_SK 8 [.ref 60, .ref 61, .int i1] V2 (aa_rI (fun x3 V3 =>
            ab_E G (ac_ST L xs) l (d + 1) ac_SK 8 [.ref 60, .ref 61, .int i2] V3 (aa_rI (fun x4 V4 =>
              ((x3 - x4) = 0 →
                ab_E G (ac_ST L xs) l (d + 1) ac_SK 285 [.int i2] V4 (aa_rI (fun x5 V5 =>
                  ab_E G (ac_ST L xs) l (d + 1) ac_SK 285 [.int i1] V5 (aa_rI (fun x6 V6 =>
                    (0 < (x5 - x6) →
                      K (some (.int (1 : Int32))) V6) ∧
                    (¬ 0 < (x5 - x6) →
                      K (some (.int (0 : Int32))) V6)))))) ∧
              (¬ (x3 - x4) = 0 →
                (0 < (x3 - x4) →
                  K (some (.int (1 : Int32))) V4) ∧
                (¬ 0 < (x3 - x4) →
                  K (some (.int (0 : Int32))) V4))))))) ∧
        (¬ (x1 - x2) = 0 →
          ((x1 - x2) = 0 →
            ab_E G (ac_ST L xs) l (d + 1) ac_SK 285 [.int i2] V2 (aa_rI (fun x3 V3 =>
              ab_E G (ac_ST L xs) l (d + 1) ac_SK 285 [.int i1] V3 (aa_rI (fun x4 V4 =>
                (0 < (x3 - x4) →
                  K (some (.int (1 : Int32))) V4) ∧
                (¬ 0 < (x3 - x4) →
                  K (some (.int (0 : Int32))) V4)))))) ∧
          (¬ (x1 - x2) = 0 →
            (0 < (x1 - x2) →
              K (some (.int (1 : Int32))) V2) ∧
            (¬ 0 < (x1 - x2) →
              K (some (.int (0 : Int32))) V2)))))))) :
    ab_E G (ac_ST L xs) l (d + 2) ac_SK 6 [.ref 60, .int i1, .int i2] V K := by
  refine vc_6_0 ?_
  refine ab_EmI (fun x1 V1 h => ?_) h
  refine ab_EmI (fun x2 V2 h => ?_) h
  refine ⟨fun c => ?_, fun c => ?_⟩
  · replace h := h.1 c
    refine ab_EmI (fun x3 V3 h => ?_) h
    refine ab_EmI (fun x4 V4 h => ?_) h
    refine ⟨fun c => ?_, fun c => ?_⟩
    · replace h := h.1 c
      refine ab_EmI (fun x5 V5 h => ?_) h
      refine ab_EmI (fun x6 V6 h => ?_) h
      refine ⟨fun c => ?_, fun c => ?_⟩
      · replace h := h.1 c
        exact ⟨Or.inr rfl, h⟩
      · replace h := h.2 c
        exact ⟨Or.inl rfl, h⟩
    · replace h := h.2 c
      refine ⟨fun c => ?_, fun c => ?_⟩
      · replace h := h.1 c
        exact ⟨Or.inr rfl, h⟩
      · replace h := h.2 c
        exact ⟨Or.inl rfl, h⟩
  · replace h := h.2 c
    refine ⟨fun c => ?_, fun c => ?_⟩
    · replace h := h.1 c
      refine ab_EmI (fun x3 V3 h => ?_) h
      refine ab_EmI (fun x4 V4 h => ?_) h
      refine ⟨fun c => ?_, fun c => ?_⟩
      · replace h := h.1 c
        exact ⟨Or.inr rfl, h⟩
      · replace h := h.2 c
        exact ⟨Or.inl rfl, h⟩
    · replace h := h.2 c
      refine ⟨fun c => ?_, fun c => ?_⟩
      · replace h := h.1 c
        exact ⟨Or.inr rfl, h⟩
      · replace h := h.2 c
        exact ⟨Or.inl rfl, h⟩

set_option maxRecDepth 20000 in
/-- FrameCounty$Bargain goesTogether(I)Z, from 0 -/
theorem iv_7_0 {G : ab_G} {L : Nat} {xs : Nat → Int32} {l : Launch} {d : Nat} {i1 : Int32} {V : aa_V} {K : aa_K} (h :
    ab_J G (ac_ST L xs) l (d + 1) 7 2 [some (.ref 60), some (.int i1), some (.int (0 : Int32))] [] ac_SK V ac_SK K) :
    ab_E G (ac_ST L xs) l (d + 1) ac_SK 7 [.ref 60, .int i1] V K := by
  refine vc_7_0 ?_
  exact h

set_option maxRecDepth 20000 in
/-- FrameCounty$Bargain goesTogether(I)Z, from 2 -/
theorem iv_7_2 {G : ab_G} {L : Nat} {xs : Nat → Int32} {l : Launch} {d : Nat} {i1 : Int32} {i2 : Int32} {V : aa_V} {K : aa_K} (h :
    (i2 < (V 60 0) →
      (((i1 >>> (i2 &&& 31)) &&& (1 : Int32)) = (1 : Int32) →
        vp_in i2 8 ∧
        (((V 63 ((i2).toNatClampNeg)) &&& i1) = 0 →
          ab_J G (ac_ST L xs) l (d + 1) 7 2 [some (.ref 60), some (.int i1), some (.int (i2 + 1))] [] ac_SK V ac_SK K) ∧
        (¬ ((V 63 ((i2).toNatClampNeg)) &&& i1) = 0 →
          K (some (.int (0 : Int32))) V)) ∧
      (¬ ((i1 >>> (i2 &&& 31)) &&& (1 : Int32)) = (1 : Int32) →
        ab_J G (ac_ST L xs) l (d + 1) 7 2 [some (.ref 60), some (.int i1), some (.int (i2 + 1))] [] ac_SK V ac_SK K)) ∧
    (¬ i2 < (V 60 0) →
      K (some (.int (1 : Int32))) V)) :
    ab_J G (ac_ST L xs) l (d + 1) 7 2 [some (.ref 60), some (.int i1), some (.int i2)] [] ac_SK V ac_SK K := by
  refine vc_7_2 ?_
  refine ⟨fun c => ?_, fun c => ?_⟩
  · replace h := h.1 c
    refine ⟨fun c => ?_, fun c => ?_⟩
    · replace h := h.1 c
      refine ⟨h.1, ?_⟩
      replace h := h.2
      refine ⟨fun c => ?_, fun c => ?_⟩
      · replace h := h.1 c
        exact h
      · replace h := h.2 c
        exact ⟨Or.inl rfl, h⟩
    · replace h := h.2 c
      exact h
  · replace h := h.2 c
    exact ⟨Or.inr rfl, h⟩

set_option maxRecDepth 20000 in
/-- FrameCounty$Bargain worth([II)I, from 0 -/
theorem iv_8_0 {G : ab_G} {L : Nat} {xs : Nat → Int32} {l : Launch} {d : Nat} {r1 : Nat} {i2 : Int32} {V : aa_V} {K : aa_K} (h :
    ab_J G (ac_ST L xs) l (d + 1) 8 5 [some (.ref 60), some (.ref r1), some (.int i2), some (.int (0 : Int32)), some (.int (0 : Int32))] [] ac_SK V ac_SK K) :
    ab_E G (ac_ST L xs) l (d + 1) ac_SK 8 [.ref 60, .ref r1, .int i2] V K := by
  refine vc_8_0 ?_
  exact h

set_option maxRecDepth 20000 in
/-- FrameCounty$Bargain worth([II)I, from 5 -/
theorem iv_8_5 {G : ab_G} {L : Nat} {xs : Nat → Int32} {l : Launch} {d : Nat} {r1 : Nat} {i2 : Int32} {i3 : Int32} {i4 : Int32} {V : aa_V} {K : aa_K} (h :
    (i4 < (V 60 0) →
      (((i2 >>> (i4 &&& 31)) &&& (1 : Int32)) = (1 : Int32) →
        ∃ (n1 : Nat) (rs1 : List Nat), aa_sh ac_SK r1 = some (100, n1, rs1) ∧ vp_in i4 n1 ∧
        ab_J G (ac_ST L xs) l (d + 1) 8 5 [some (.ref 60), some (.ref r1), some (.int i2), some (.int (i3 + (V r1 ((i4).toNatClampNeg)))), some (.int (i4 + 1))] [] ac_SK V ac_SK K) ∧
      (¬ ((i2 >>> (i4 &&& 31)) &&& (1 : Int32)) = (1 : Int32) →
        ab_J G (ac_ST L xs) l (d + 1) 8 5 [some (.ref 60), some (.ref r1), some (.int i2), some (.int i3), some (.int (i4 + 1))] [] ac_SK V ac_SK K)) ∧
    (¬ i4 < (V 60 0) →
      K (some (.int i3)) V)) :
    ab_J G (ac_ST L xs) l (d + 1) 8 5 [some (.ref 60), some (.ref r1), some (.int i2), some (.int i3), some (.int i4)] [] ac_SK V ac_SK K := by
  refine vc_8_5 ?_
  exact h

set_option maxRecDepth 20000 in
/-- FrameCounty$Oaths addMeeting(III)I, from 0 -/
theorem iv_11_0 {G : ab_G} {L : Nat} {xs : Nat → Int32} {l : Launch} {d : Nat} {i1 : Int32} {i2 : Int32} {i3 : Int32} {V : aa_V} {K : aa_K} (h :
    ((V 54 0) < (40 : Int32) →
      ab_J G (ac_ST L xs) l (d + 1) 11 24 [some (.ref 54), some (.int i1), some (.int i2), some (.int i3), some (.int (V 54 0)), some (.int (V 54 0))] [] ac_SK V ac_SK K) ∧
    (¬ (V 54 0) < (40 : Int32) →
      K (some (.int (-4 : Int32))) V)) :
    ab_E G (ac_ST L xs) l (d + 1) ac_SK 11 [.ref 54, .int i1, .int i2, .int i3] V K := by
  refine vc_11_0 ?_
  exact h

set_option maxRecDepth 20000 in
/-- FrameCounty$Oaths addMeeting(III)I, from 24 -/
theorem iv_11_24 {G : ab_G} {L : Nat} {xs : Nat → Int32} {l : Launch} {d : Nat} {i1 : Int32} {i2 : Int32} {i3 : Int32} {i4 : Int32} {i5 : Int32} {V : aa_V} {K : aa_K} (h :
    (0 < i5 →
      vp_in (i5 - (1 : Int32)) 40 ∧
      (i3 < (V 57 (((i5 - (1 : Int32))).toNatClampNeg)) →
        vp_in (i5 - (1 : Int32)) 40 ∧
        vp_in i5 40 ∧
        vp_in (i5 - (1 : Int32)) 40 ∧
        vp_in i5 40 ∧
        vp_in (i5 - (1 : Int32)) 40 ∧
        vp_in i5 40 ∧
        ab_J G (ac_ST L xs) l (d + 1) 11 24 [some (.ref 54), some (.int i1), some (.int i2), some (.int i3), some (.int (i5 - (1 : Int32))), some (.int (i5 + (-1)))] [] ac_SK (aa_up (aa_up (aa_up V 55 ((i5).toNatClampNeg) (V 55 (((i5 - (1 : Int32))).toNatClampNeg))) 56 ((i5).toNatClampNeg) (V 56 (((i5 - (1 : Int32))).toNatClampNeg))) 57 ((i5).toNatClampNeg) (V 57 (((i5 - (1 : Int32))).toNatClampNeg))) ac_SK K) ∧
      (¬ i3 < (V 57 (((i5 - (1 : Int32))).toNatClampNeg)) →
        vp_in i4 40 ∧
        vp_in i4 40 ∧
        vp_in i4 40 ∧
        K (some (.int ((V 54 0) + (1 : Int32)))) (aa_up (aa_up (aa_up (aa_up V 55 ((i4).toNatClampNeg) i1) 56 ((i4).toNatClampNeg) i2) 57 ((i4).toNatClampNeg) i3) 54 0 ((V 54 0) + (1 : Int32))))) ∧
    (¬ 0 < i5 →
      vp_in i4 40 ∧
      vp_in i4 40 ∧
      vp_in i4 40 ∧
      K (some (.int ((V 54 0) + (1 : Int32)))) (aa_up (aa_up (aa_up (aa_up V 55 ((i4).toNatClampNeg) i1) 56 ((i4).toNatClampNeg) i2) 57 ((i4).toNatClampNeg) i3) 54 0 ((V 54 0) + (1 : Int32))))) :
    ab_J G (ac_ST L xs) l (d + 1) 11 24 [some (.ref 54), some (.int i1), some (.int i2), some (.int i3), some (.int i4), some (.int i5)] [] ac_SK V ac_SK K := by
  refine vc_11_24 ?_
  exact h

set_option maxRecDepth 20000 in
/-- FrameCounty$Oaths swornFrom(II)I, from 0 -/
theorem iv_13_0 {G : ab_G} {L : Nat} {xs : Nat → Int32} {l : Launch} {d : Nat} {i1 : Int32} {i2 : Int32} {V : aa_V} {K : aa_K} (h :
    ab_J G (ac_ST L xs) l (d + 1) 13 5 [some (.ref 54), none, some (.int i2), some (.int i1), some (.int (0 : Int32)), none] [] ac_SK V ac_SK K) :
    ab_E G (ac_ST L xs) l (d + 1) ac_SK 13 [.ref 54, .int i1, .int i2] V K := by
  refine vc_13_0 ?_
  exact h

set_option maxRecDepth 20000 in
/-- FrameCounty$Oaths swornFrom(II)I, from 5 -/
theorem iv_13_5 {G : ab_G} {L : Nat} {xs : Nat → Int32} {l : Launch} {d : Nat} {i2 : Int32} {i3 : Int32} {i4 : Int32} {V : aa_V} {K : aa_K} (h :
    (i4 < (V 54 0) →
      vp_in i4 40 ∧
      (i2 < (V 57 ((i4).toNatClampNeg)) →
        K (some (.int i3)) V) ∧
      (¬ i2 < (V 57 ((i4).toNatClampNeg)) →
        vp_in i4 40 ∧
        vp_in i4 40 ∧
        ((i3 &&& (((1 : Int32) <<< ((V 55 ((i4).toNatClampNeg)) &&& 31)) ||| ((1 : Int32) <<< ((V 56 ((i4).toNatClampNeg)) &&& 31)))) = 0 →
          ab_J G (ac_ST L xs) l (d + 1) 13 5 [some (.ref 54), none, some (.int i2), some (.int i3), some (.int (i4 + 1)), none] [] ac_SK V ac_SK K) ∧
        (¬ (i3 &&& (((1 : Int32) <<< ((V 55 ((i4).toNatClampNeg)) &&& 31)) ||| ((1 : Int32) <<< ((V 56 ((i4).toNatClampNeg)) &&& 31)))) = 0 →
          ab_J G (ac_ST L xs) l (d + 1) 13 5 [some (.ref 54), none, some (.int i2), some (.int (i3 ||| (((1 : Int32) <<< ((V 55 ((i4).toNatClampNeg)) &&& 31)) ||| ((1 : Int32) <<< ((V 56 ((i4).toNatClampNeg)) &&& 31))))), some (.int (i4 + 1)), none] [] ac_SK V ac_SK K))) ∧
    (¬ i4 < (V 54 0) →
      K (some (.int i3)) V)) :
    ab_J G (ac_ST L xs) l (d + 1) 13 5 [some (.ref 54), none, some (.int i2), some (.int i3), some (.int i4), none] [] ac_SK V ac_SK K := by
  refine vc_13_5 ?_
  exact h

set_option maxRecDepth 20000 in
/-- FrameCounty$Oaths fewestFirst(I)I, from 0 -/
theorem iv_14_0 {G : ab_G} {L : Nat} {xs : Nat → Int32} {l : Launch} {d : Nat} {i1 : Int32} {V : aa_V} {K : aa_K} (h :
    ab_J G (ac_ST L xs) l (d + 2) 14 4 [some (.ref 54), some (.int i1), some (.int (0 : Int32)), some (.int (0 : Int32)), none, none] [] ac_SK V ac_SK K) :
    ab_E G (ac_ST L xs) l (d + 2) ac_SK 14 [.ref 54, .int i1] V K := by
  refine vc_14_0 ?_
  exact h

set_option maxRecDepth 20000 in
/-- FrameCounty$Oaths fewestFirst(I)I, from 4 -/
theorem iv_14_4 {G : ab_G} {L : Nat} {xs : Nat → Int32} {l : Launch} {d : Nat} {i1 : Int32} {i2 : Int32} {i3 : Int32} {V : aa_V} {K : aa_K} (h :
    (i3 < i1 →
      vp_in i3 12 ∧
      ((V 58 ((i3).toNatClampNeg)) = (-1 : Int32) →
        ab_E G (ac_ST L xs) l (d + 1) ac_SK 15 [.ref 54, .int i3, .int i1] V (aa_rI (fun x1 V1 =>
          vp_in i3 12 ∧
          ab_J G (ac_ST L xs) l (d + 2) 14 4 [some (.ref 54), some (.int i1), some (.int (i2 ||| (0 : Int32))), some (.int (i3 + 1)), none, none] [] ac_SK (aa_up V1 59 ((i3).toNatClampNeg) x1) ac_SK K))) ∧
      (¬ (V 58 ((i3).toNatClampNeg)) = (-1 : Int32) →
        ab_E G (ac_ST L xs) l (d + 1) ac_SK 15 [.ref 54, .int i3, .int i1] V (aa_rI (fun x1 V1 =>
          vp_in i3 12 ∧
          ab_J G (ac_ST L xs) l (d + 2) 14 4 [some (.ref 54), some (.int i1), some (.int (i2 ||| ((1 : Int32) <<< (i3 &&& 31)))), some (.int (i3 + 1)), none, none] [] ac_SK (aa_up V1 59 ((i3).toNatClampNeg) x1) ac_SK K)))) ∧
    (¬ i3 < i1 →
      ab_J G (ac_ST L xs) l (d + 2) 14 52 [some (.ref 54), some (.int i1), some (.int i2), some (.int i2), some (.int (0 : Int32)), none] [] ac_SK V ac_SK K)) :
    ab_J G (ac_ST L xs) l (d + 2) 14 4 [some (.ref 54), some (.int i1), some (.int i2), some (.int i3), none, none] [] ac_SK V ac_SK K := by
  refine vc_14_4 ?_
  exact h

set_option maxRecDepth 20000 in
/-- FrameCounty$Oaths fewestFirst(I)I, from 52 -/
theorem iv_14_52 {G : ab_G} {L : Nat} {xs : Nat → Int32} {l : Launch} {d : Nat} {i1 : Int32} {i2 : Int32} {i3 : Int32} {i4 : Int32} {V : aa_V} {K : aa_K} (h :
    (i4 < ((1 : Int32) <<< (i1 &&& 31)) →
      ab_E G (ac_ST L xs) l (d + 1) ac_SK 285 [.int i3] V (aa_rI (fun x1 V1 =>
        ab_E G (ac_ST L xs) l (d + 1) ac_SK 285 [.int i4] V1 (aa_rI (fun x2 V2 =>
          (0 < (x1 - x2) →
            ab_E G (ac_ST L xs) l (d + 1) ac_SK 16 [.ref 54, .int i4, .int i1] V2 (aa_rI (fun x3 V3 =>
              ((x3 &&& i2) = i2 →
                ab_J G (ac_ST L xs) l (d + 2) 14 52 [some (.ref 54), some (.int i1), some (.int i2), some (.int i4), some (.int (i4 + 1)), none] [] ac_SK V3 ac_SK K) ∧
              (¬ (x3 &&& i2) = i2 →
                ab_J G (ac_ST L xs) l (d + 2) 14 52 [some (.ref 54), some (.int i1), some (.int i2), some (.int i3), some (.int (i4 + 1)), none] [] ac_SK V3 ac_SK K)))) ∧
          (¬ 0 < (x1 - x2) →
            ((x1 - x2) = 0 →
              (i4 < i3 →
                ab_E G (ac_ST L xs) l (d + 1) ac_SK 16 [.ref 54, .int i4, .int i1] V2 (aa_rI (fun x3 V3 =>
                  ((x3 &&& i2) = i2 →
                    ab_J G (ac_ST L xs) l (d + 2) 14 52 [some (.ref 54), some (.int i1), some (.int i2), some (.int i4), some (.int (i4 + 1)), none] [] ac_SK V3 ac_SK K) ∧
                  (¬ (x3 &&& i2) = i2 →
                    ab_J G (ac_ST L xs) l (d + 2) 14 52 [some (.ref 54), some (.int i1), some (.int i2), some (.int i3), some (.int (i4 + 1)), none] [] ac_SK V3 ac_SK K)))) ∧
              (¬ i4 < i3 →
                ab_J G (ac_ST L xs) l (d + 2) 14 52 [some (.ref 54), some (.int i1), some (.int i2), some (.int i3), some (.int (i4 + 1)), none] [] ac_SK V2 ac_SK K)) ∧
            (¬ (x1 - x2) = 0 →
              ab_J G (ac_ST L xs) l (d + 2) 14 52 [some (.ref 54), some (.int i1), some (.int i2), some (.int i3), some (.int (i4 + 1)), none] [] ac_SK V2 ac_SK K))))))) ∧
    (¬ i4 < ((1 : Int32) <<< (i1 &&& 31)) →
      K (some (.int i3)) V)) :
    ab_J G (ac_ST L xs) l (d + 2) 14 52 [some (.ref 54), some (.int i1), some (.int i2), some (.int i3), some (.int i4), none] [] ac_SK V ac_SK K := by
  refine vc_14_52 ?_
  exact h

set_option maxRecDepth 20000 in
/-- FrameCounty$Oaths takersReachedFrom(II)I, from 0 -/
theorem iv_15_0 {G : ab_G} {L : Nat} {xs : Nat → Int32} {l : Launch} {d : Nat} {i1 : Int32} {i2 : Int32} {V : aa_V} {K : aa_K} (h :
    ab_J G (ac_ST L xs) l (d + 2) 15 5 [some (.ref 54), some (.int i1), some (.int i2), some (.int (0 : Int32)), some (.int (0 : Int32))] [] ac_SK V ac_SK K) :
    ab_E G (ac_ST L xs) l (d + 2) ac_SK 15 [.ref 54, .int i1, .int i2] V K := by
  refine vc_15_0 ?_
  exact h

set_option maxRecDepth 20000 in
/-- FrameCounty$Oaths takersReachedFrom(II)I, from 5 -/
theorem iv_15_5 {G : ab_G} {L : Nat} {xs : Nat → Int32} {l : Launch} {d : Nat} {i1 : Int32} {i2 : Int32} {i3 : Int32} {i4 : Int32} {V : aa_V} {K : aa_K} (h :
    (i4 < i2 →
      vp_in i4 12 ∧
      ((V 58 ((i4).toNatClampNeg)) = (-1 : Int32) →
        ab_J G (ac_ST L xs) l (d + 2) 15 5 [some (.ref 54), some (.int i1), some (.int i2), some (.int i3), some (.int (i4 + 1))] [] ac_SK V ac_SK K) ∧
      (¬ (V 58 ((i4).toNatClampNeg)) = (-1 : Int32) →
        vp_in i4 12 ∧
        ab_E G (ac_ST L xs) l (d + 1) ac_SK 13 [.ref 54, .int ((1 : Int32) <<< (i1 &&& 31)), .int (V 58 ((i4).toNatClampNeg))] V (aa_rI (fun x1 V1 =>
          ab_J G (ac_ST L xs) l (d + 2) 15 5 [some (.ref 54), some (.int i1), some (.int i2), some (.int (i3 ||| (x1 &&& ((1 : Int32) <<< (i4 &&& 31))))), some (.int (i4 + 1))] [] ac_SK V1 ac_SK K)))) ∧
    (¬ i4 < i2 →
      K (some (.int i3)) V)) :
    ab_J G (ac_ST L xs) l (d + 2) 15 5 [some (.ref 54), some (.int i1), some (.int i2), some (.int i3), some (.int i4)] [] ac_SK V ac_SK K := by
  refine vc_15_5 ?_
  exact h

set_option maxRecDepth 20000 in
/-- FrameCounty$Oaths takersReachedBySet(II)I, from 0 -/
theorem iv_16_0 {G : ab_G} {L : Nat} {xs : Nat → Int32} {l : Launch} {d : Nat} {i1 : Int32} {i2 : Int32} {V : aa_V} {K : aa_K} (h :
    ab_J G (ac_ST L xs) l (d + 1) 16 5 [some (.ref 54), some (.int i1), some (.int i2), some (.int (0 : Int32)), some (.int (0 : Int32))] [] ac_SK V ac_SK K) :
    ab_E G (ac_ST L xs) l (d + 1) ac_SK 16 [.ref 54, .int i1, .int i2] V K := by
  refine vc_16_0 ?_
  exact h

set_option maxRecDepth 20000 in
/-- FrameCounty$Oaths takersReachedBySet(II)I, from 5 -/
theorem iv_16_5 {G : ab_G} {L : Nat} {xs : Nat → Int32} {l : Launch} {d : Nat} {i1 : Int32} {i2 : Int32} {i3 : Int32} {i4 : Int32} {V : aa_V} {K : aa_K} (h :
    (i4 < i2 →
      (((i1 >>> (i4 &&& 31)) &&& (1 : Int32)) = (1 : Int32) →
        vp_in i4 12 ∧
        ab_J G (ac_ST L xs) l (d + 1) 16 5 [some (.ref 54), some (.int i1), some (.int i2), some (.int (i3 ||| (V 59 ((i4).toNatClampNeg)))), some (.int (i4 + 1))] [] ac_SK V ac_SK K) ∧
      (¬ ((i1 >>> (i4 &&& 31)) &&& (1 : Int32)) = (1 : Int32) →
        ab_J G (ac_ST L xs) l (d + 1) 16 5 [some (.ref 54), some (.int i1), some (.int i2), some (.int i3), some (.int (i4 + 1))] [] ac_SK V ac_SK K)) ∧
    (¬ i4 < i2 →
      K (some (.int i3)) V)) :
    ab_J G (ac_ST L xs) l (d + 1) 16 5 [some (.ref 54), some (.int i1), some (.int i2), some (.int i3), some (.int i4)] [] ac_SK V ac_SK K := by
  refine vc_16_5 ?_
  exact h

set_option maxRecDepth 20000 in
/-- FrameCounty$Reader put(Ljava/lang/String;)V, from 0 -/
theorem iv_26_0 {G : ab_G} {L : Nat} {xs : Nat → Int32} {l : Launch} {d : Nat} {r1 : Nat} {V : aa_V} {K : aa_K} (h :
    ab_J G (ac_ST L xs) l (d + 2) 26 2 [some (.ref 80), some (.ref r1), some (.int (0 : Int32))] [] ac_SK V ac_SK K) :
    ab_E G (ac_ST L xs) l (d + 2) ac_SK 26 [.ref 80, .ref r1] V K := by
  refine vc_26_0 ?_
  exact h

set_option maxRecDepth 20000 in
/-- FrameCounty$Reader put(Ljava/lang/String;)V, from 2 -/
theorem iv_26_2 {G : ab_G} {L : Nat} {xs : Nat → Int32} {l : Launch} {d : Nat} {r1 : Nat} {i2 : Int32} {V : aa_V} {K : aa_K} (h :
    2000000 ≤ r1 ∧ r1 < 2000012 ∧
    ab_E G (ac_ST L xs) l (d + 1) ac_SK 289 [.ref r1] V (aa_rI (fun x1 V1 =>
      (i2 < x1 →
        ((V1 80 1) < (160 : Int32) →
          2000000 ≤ r1 ∧ r1 < 2000012 ∧
          ab_E G (ac_ST L xs) l (d + 1) ac_SK 290 [.ref r1, .int i2] V1 (aa_rI (fun x2 V2 =>
            vp_in (V1 80 1) 160 ∧
            ab_J G (ac_ST L xs) l (d + 2) 26 2 [some (.ref 80), some (.ref r1), some (.int (i2 + 1))] [] ac_SK (aa_up (aa_up V2 81 (((V1 80 1)).toNatClampNeg) ((x2.toInt8.toInt32).toInt8.toInt32)) 80 1 ((V2 80 1) + (1 : Int32))) ac_SK K))) ∧
        (¬ (V1 80 1) < (160 : Int32) →
          K none V1)) ∧
      (¬ i2 < x1 →
        K none V1)))) :
    ab_J G (ac_ST L xs) l (d + 2) 26 2 [some (.ref 80), some (.ref r1), some (.int i2)] [] ac_SK V ac_SK K := by
  refine vc_26_2 ?_
  exact h

set_option maxRecDepth 20000 in
/-- FrameCounty$Reader append(IJ)I, from 0 -/
theorem iv_27_0 {G : ab_G} {L : Nat} {xs : Nat → Int32} {l : Launch} {d : Nat} {i1 : Int32} {l2 : Int64} {V : aa_V} {K : aa_K} (h :
    ((160 : Int32) < ((V 80 1) + i1) →
      K (some (.int (-4 : Int32))) V) ∧
    (¬ (160 : Int32) < ((V 80 1) + i1) →
      ab_J G (ac_ST L xs) l (d + 1) 27 18 [some (.ref 80), some (.int i1), some (.long l2), none, some (.int (0 : Int32))] [] ac_SK V ac_SK K)) :
    ab_E G (ac_ST L xs) l (d + 1) ac_SK 27 [.ref 80, .int i1, .long l2] V K := by
  refine vc_27_0 ?_
  exact h

set_option maxRecDepth 20000 in
/-- FrameCounty$Reader append(IJ)I, from 18 -/
theorem iv_27_18 {G : ab_G} {L : Nat} {xs : Nat → Int32} {l : Launch} {d : Nat} {i1 : Int32} {l2 : Int64} {i4 : Int32} {V : aa_V} {K : aa_K} (h :
    (i4 < i1 →
      vp_in (V 80 1) 160 ∧
      ab_J G (ac_ST L xs) l (d + 1) 27 18 [some (.ref 80), some (.int i1), some (.long l2), none, some (.int (i4 + 1))] [] ac_SK (aa_up (aa_up V 81 (((V 80 1)).toNatClampNeg) ((((l2 >>> (((8 : Int32) * i4).toInt64 &&& 63)).toInt32).toInt8.toInt32).toInt8.toInt32)) 80 1 ((V 80 1) + (1 : Int32))) ac_SK K) ∧
    (¬ i4 < i1 →
      K (some (.int (V 80 1))) V)) :
    ab_J G (ac_ST L xs) l (d + 1) 27 18 [some (.ref 80), some (.int i1), some (.long l2), none, some (.int i4)] [] ac_SK V ac_SK K := by
  refine vc_27_18 ?_
  exact h

set_option maxRecDepth 20000 in
/-- FrameCounty$Reader readInto(LFrameCounty$Text;)I, from 0 -/
theorem iv_28_0 {G : ab_G} {L : Nat} {xs : Nat → Int32} {l : Launch} {d : Nat} {r1 : Nat} {V : aa_V} {K : aa_K} (h :
    ab_E G (ac_ST L xs) l (d + 1) ac_SK 29 [.ref 80] V (aa_rV (fun V1 =>
      r1 < 1000000 ∧
      ∃ (q2 : Nat), ((nI (r1 + 1))).toNatClampNeg = q2 + 1 ∧
      aa_is ac_SK q2 6 ∧
      ab_E G (ac_ST L xs) l (d + 1) ac_SK 68 [.ref q2] (aa_up (aa_up (aa_up V1 80 6 (0 : Int32)) 80 7 (-1 : Int32)) 80 8 (nI (r1 + 1))) (aa_rV (fun V3 =>
        ab_E G (ac_ST L xs) l (d + 1) ac_SK 39 [.ref 80, .int (306 : Int32)] V3 (aa_rV (fun V4 =>
          ab_E G (ac_ST L xs) l (d + 1) ac_SK 40 [.ref 80, .int (0 : Int32)] V4 (aa_rV (fun V5 =>
            ab_E G (ac_ST L xs) l (d + 1) ac_SK 39 [.ref 80, .int (59 : Int32)] V5 (aa_rV (fun V6 =>
              ∃ (q7 : Nat), ((V6 80 8)).toNatClampNeg = q7 + 1 ∧
              aa_is ac_SK q7 6 ∧
              ab_E G (ac_ST L xs) l (d + 1) ac_SK 69 [.ref q7] V6 (aa_rV (fun V8 =>
                ab_E G (ac_ST L xs) l (d + 1) ac_SK 39 [.ref 80, .int (307 : Int32)] V8 (aa_rV (fun V9 =>
                  ab_E G (ac_ST L xs) l (d + 1) ac_SK 40 [.ref 80, .int (0 : Int32)] V9 (aa_rV (fun V10 =>
                    ab_E G (ac_ST L xs) l (d + 1) ac_SK 39 [.ref 80, .int (59 : Int32)] V10 (aa_rV (fun V11 =>
                      ((V11 80 7) = (-1 : Int32) →
                        ((V11 80 6) < (V11 80 5) →
                          vp_in (V11 80 6) 161 ∧
                          ((V11 82 (((V11 80 6)).toNatClampNeg)) = (256 : Int32) →
                            K (some (.int (V11 80 7))) (aa_up V11 80 1 (0 : Int32))) ∧
                          (¬ (V11 82 (((V11 80 6)).toNatClampNeg)) = (256 : Int32) →
                            ((V11 80 7) = (-1 : Int32) →
                              ((V11 80 6) < (V11 80 5) →
                                vp_in (V11 80 6) 161 ∧
                                K (some (.int (V11 83 (((V11 80 6)).toNatClampNeg)))) (aa_up (aa_up V11 80 7 (V11 83 (((V11 80 6)).toNatClampNeg))) 80 1 (0 : Int32))) ∧
                              (¬ (V11 80 6) < (V11 80 5) →
                                K (some (.int (V11 80 7))) (aa_up V11 80 1 (0 : Int32)))) ∧
                            (¬ (V11 80 7) = (-1 : Int32) →
                              K (some (.int (V11 80 7))) (aa_up V11 80 1 (0 : Int32))))) ∧
                        (¬ (V11 80 6) < (V11 80 5) →
                          ((V11 80 7) = (-1 : Int32) →
                            ((V11 80 6) < (V11 80 5) →
                              vp_in (V11 80 6) 161 ∧
                              K (some (.int (V11 83 (((V11 80 6)).toNatClampNeg)))) (aa_up (aa_up V11 80 7 (V11 83 (((V11 80 6)).toNatClampNeg))) 80 1 (0 : Int32))) ∧
                            (¬ (V11 80 6) < (V11 80 5) →
                              K (some (.int (V11 80 7))) (aa_up V11 80 1 (0 : Int32)))) ∧
                          (¬ (V11 80 7) = (-1 : Int32) →
                            K (some (.int (V11 80 7))) (aa_up V11 80 1 (0 : Int32))))) ∧
                      (¬ (V11 80 7) = (-1 : Int32) →
                        ((V11 80 7) = (-1 : Int32) →
                          ((V11 80 6) < (V11 80 5) →
                            vp_in (V11 80 6) 161 ∧
                            K (some (.int (V11 83 (((V11 80 6)).toNatClampNeg)))) (aa_up (aa_up V11 80 7 (V11 83 (((V11 80 6)).toNatClampNeg))) 80 1 (0 : Int32))) ∧
                          (¬ (V11 80 6) < (V11 80 5) →
                            K (some (.int (V11 80 7))) (aa_up V11 80 1 (0 : Int32)))) ∧
                        (¬ (V11 80 7) = (-1 : Int32) →
                          K (some (.int (V11 80 7))) (aa_up V11 80 1 (0 : Int32))))))))))))))))))))))) :
    ab_E G (ac_ST L xs) l (d + 2) ac_SK 28 [.ref 80, .ref r1] V K := by
  refine vc_28_0 ?_
  refine ab_EmV (fun V1 h => ?_) h
  refine ⟨h.1, ?_⟩
  replace h := h.2
  obtain ⟨q2, e2_0, h⟩ := h
  refine ⟨q2, e2_0, ?_⟩
  refine ⟨h.1, ?_⟩
  replace h := h.2
  refine ab_EmV (fun V3 h => ?_) h
  refine ab_EmV (fun V4 h => ?_) h
  refine ab_EmV (fun V5 h => ?_) h
  refine ab_EmV (fun V6 h => ?_) h
  obtain ⟨q7, e7_0, h⟩ := h
  refine ⟨q7, e7_0, ?_⟩
  refine ⟨h.1, ?_⟩
  replace h := h.2
  refine ab_EmV (fun V8 h => ?_) h
  refine ab_EmV (fun V9 h => ?_) h
  refine ab_EmV (fun V10 h => ?_) h
  refine ab_EmV (fun V11 h => ?_) h
  refine vc_37_0 ?_
  refine ⟨fun c => ?_, fun c => ?_⟩
  · replace h := h.1 c
    refine ⟨fun c => ?_, fun c => ?_⟩
    · replace h := h.1 c
      refine ⟨h.1, ?_⟩
      replace h := h.2
      refine ⟨fun c => ?_, fun c => ?_⟩
      · replace h := h.1 c
        exact h
      · replace h := h.2 c
        refine vc_38_0 ?_
        refine ⟨fun c => ?_, fun c => ?_⟩
        · replace h := h.1 c
          refine ⟨fun c => ?_, fun c => ?_⟩
          · replace h := h.1 c
            refine ⟨h.1, ?_⟩
            replace h := h.2
            exact h
          · replace h := h.2 c
            exact h
        · replace h := h.2 c
          exact h
    · replace h := h.2 c
      refine ⟨fun q => absurd q (by decide), fun q => ?_⟩
      refine vc_38_0 ?_
      refine ⟨fun c => ?_, fun c => ?_⟩
      · replace h := h.1 c
        refine ⟨fun c => ?_, fun c => ?_⟩
        · replace h := h.1 c
          refine ⟨h.1, ?_⟩
          replace h := h.2
          exact h
        · replace h := h.2 c
          exact h
      · replace h := h.2 c
        exact h
  · replace h := h.2 c
    refine ⟨fun q => absurd q (by decide), fun q => ?_⟩
    refine vc_38_0 ?_
    refine ⟨fun c => ?_, fun c => ?_⟩
    · replace h := h.1 c
      refine ⟨fun c => ?_, fun c => ?_⟩
      · replace h := h.1 c
        refine ⟨h.1, ?_⟩
        replace h := h.2
        exact h
      · replace h := h.2 c
        exact h
    · replace h := h.2 c
      exact h

set_option maxRecDepth 20000 in
/-- FrameCounty$Reader cutIntoTokens()V, from 0 -/
theorem iv_29_0 {G : ab_G} {L : Nat} {xs : Nat → Int32} {l : Launch} {d : Nat} {V : aa_V} {K : aa_K} (h :
    ab_J G (ac_ST L xs) l (d + 2) 29 13 [some (.ref 80), some (.int (0 : Int32)), some (.int (258 : Int32)), some (.int (0 : Int32)), none] [] ac_SK (aa_up V 80 5 (0 : Int32)) ac_SK K) :
    ab_E G (ac_ST L xs) l (d + 2) ac_SK 29 [.ref 80] V K := by
  refine vc_29_0 ?_
  exact h

set_option maxRecDepth 20000 in
/-- FrameCounty$Reader cutIntoTokens()V, from 13 -/
theorem iv_29_13 {G : ab_G} {L : Nat} {xs : Nat → Int32} {l : Launch} {d : Nat} {i1 : Int32} {i2 : Int32} {i3 : Int32} {V : aa_V} {K : aa_K} (h :
    ((160 : Int32) < i3 →
      K none V) ∧
    (¬ (160 : Int32) < i3 →
      (i2 = (256 : Int32) →
        K none V) ∧
      (¬ i2 = (256 : Int32) →
        (i2 = (257 : Int32) →
          K none V) ∧
        (¬ i2 = (257 : Int32) →
          ab_E G (ac_ST L xs) l (d + 1) ac_SK 30 [.ref 80, .int i1, .int (0 : Int32)] V (aa_rI (fun x1 V1 =>
            (x1 < (V1 80 1) →
              vp_in x1 160 ∧
              ab_E G (ac_ST L xs) l (d + 1) ac_SK 31 [.int (V1 81 ((x1).toNatClampNeg))] V1 (aa_rI (fun x2 V2 =>
                ab_E G (ac_ST L xs) l (d + 1) ac_SK 30 [.ref 80, .int x1, .int x2] V2 (aa_rI (fun x3 V3 =>
                  ab_E G (ac_ST L xs) l (d + 1) ac_SK 32 [.ref 80, .int x1, .int x3] V3 (aa_rI (fun x4 V4 =>
                    vp_in i3 161 ∧
                    vp_in i3 161 ∧
                    (x4 = (258 : Int32) →
                      ab_E G (ac_ST L xs) l (d + 1) ac_SK 33 [.ref 80, .int x1, .int x3] (aa_up (aa_up V4 82 ((i3).toNatClampNeg) x4) 83 ((i3).toNatClampNeg) x1) (aa_rI (fun x5 V5 =>
                        vp_in i3 161 ∧
                        ab_J G (ac_ST L xs) l (d + 2) 29 13 [some (.ref 80), some (.int x3), some (.int x4), some (.int (i3 + 1)), none] [] ac_SK (aa_up (aa_up V5 84 ((i3).toNatClampNeg) x5) 80 5 (i3 + (1 : Int32))) ac_SK K))) ∧
                    (¬ x4 = (258 : Int32) →
                      vp_in i3 161 ∧
                      ab_J G (ac_ST L xs) l (d + 2) 29 13 [some (.ref 80), some (.int x3), some (.int x4), some (.int (i3 + 1)), none] [] ac_SK (aa_up (aa_up (aa_up (aa_up V4 82 ((i3).toNatClampNeg) x4) 83 ((i3).toNatClampNeg) x1) 84 ((i3).toNatClampNeg) (0 : Int32)) 80 5 (i3 + (1 : Int32))) ac_SK K)))))))) ∧
            (¬ x1 < (V1 80 1) →
              ab_E G (ac_ST L xs) l (d + 1) ac_SK 32 [.ref 80, .int x1, .int x1] V1 (aa_rI (fun x2 V2 =>
                vp_in i3 161 ∧
                vp_in i3 161 ∧
                (x2 = (258 : Int32) →
                  ab_E G (ac_ST L xs) l (d + 1) ac_SK 33 [.ref 80, .int x1, .int x1] (aa_up (aa_up V2 82 ((i3).toNatClampNeg) x2) 83 ((i3).toNatClampNeg) x1) (aa_rI (fun x3 V3 =>
                    vp_in i3 161 ∧
                    ab_J G (ac_ST L xs) l (d + 2) 29 13 [some (.ref 80), some (.int x1), some (.int x2), some (.int (i3 + 1)), none] [] ac_SK (aa_up (aa_up V3 84 ((i3).toNatClampNeg) x3) 80 5 (i3 + (1 : Int32))) ac_SK K))) ∧
                (¬ x2 = (258 : Int32) →
                  vp_in i3 161 ∧
                  ab_J G (ac_ST L xs) l (d + 2) 29 13 [some (.ref 80), some (.int x1), some (.int x2), some (.int (i3 + 1)), none] [] ac_SK (aa_up (aa_up (aa_up (aa_up V2 82 ((i3).toNatClampNeg) x2) 83 ((i3).toNatClampNeg) x1) 84 ((i3).toNatClampNeg) (0 : Int32)) 80 5 (i3 + (1 : Int32))) ac_SK K)))))))))) :
    ab_J G (ac_ST L xs) l (d + 2) 29 13 [some (.ref 80), some (.int i1), some (.int i2), some (.int i3), none] [] ac_SK V ac_SK K := by
  refine vc_29_13 ?_
  exact h

set_option maxRecDepth 20000 in
/-- FrameCounty$Reader stretchEnd(II)I, from 0 -/
theorem iv_30_0 {G : ab_G} {L : Nat} {xs : Nat → Int32} {l : Launch} {d : Nat} {i1 : Int32} {i2 : Int32} {V : aa_V} {K : aa_K} (h :
    (i2 = (3 : Int32) →
      ab_J G (ac_ST L xs) l (d + 2) 30 26 [some (.ref 80), none, some (.int i2), some (.int (if (V 80 1) < (i1 + (1 : Int32)) then (V 80 1) else (i1 + (1 : Int32)))), some (.int i1)] [] ac_SK V ac_SK K) ∧
    (¬ i2 = (3 : Int32) →
      ab_J G (ac_ST L xs) l (d + 2) 30 26 [some (.ref 80), none, some (.int i2), some (.int (V 80 1)), some (.int i1)] [] ac_SK V ac_SK K)) :
    ab_E G (ac_ST L xs) l (d + 2) ac_SK 30 [.ref 80, .int i1, .int i2] V K := by
  refine vc_30_0 ?_
  exact h

set_option maxRecDepth 20000 in
/-- FrameCounty$Reader stretchEnd(II)I, from 26 -/
theorem iv_30_26 {G : ab_G} {L : Nat} {xs : Nat → Int32} {l : Launch} {d : Nat} {i2 : Int32} {i3 : Int32} {i4 : Int32} {V : aa_V} {K : aa_K} (h :
    (i4 < i3 →
      vp_in i4 160 ∧
      ab_E G (ac_ST L xs) l (d + 1) ac_SK 31 [.int (V 81 ((i4).toNatClampNeg))] V (aa_rI (fun x1 V1 =>
        (x1 = i2 →
          ab_J G (ac_ST L xs) l (d + 2) 30 26 [some (.ref 80), none, some (.int i2), some (.int i3), some (.int (i4 + 1))] [] ac_SK V1 ac_SK K) ∧
        (¬ x1 = i2 →
          K (some (.int i4)) V1)))) ∧
    (¬ i4 < i3 →
      K (some (.int i4)) V)) :
    ab_J G (ac_ST L xs) l (d + 2) 30 26 [some (.ref 80), none, some (.int i2), some (.int i3), some (.int i4)] [] ac_SK V ac_SK K := by
  refine vc_30_26 ?_
  exact h

set_option maxRecDepth 20000 in
/-- FrameCounty$Reader sortOf(I)I, from 0 -/
theorem iv_31_0 {G : ab_G} {L : Nat} {xs : Nat → Int32} {l : Launch} {d : Nat} {i0 : Int32} {V : aa_V} {K : aa_K} (h :
    (i0 = (32 : Int32) →
      K (some (.int (0 : Int32))) V) ∧
    (¬ i0 = (32 : Int32) →
      (i0 = (10 : Int32) →
        K (some (.int (0 : Int32))) V) ∧
      (¬ i0 = (10 : Int32) →
        (i0 < (97 : Int32) →
          (i0 < (48 : Int32) →
            K (some (.int (3 : Int32))) V) ∧
          (¬ i0 < (48 : Int32) →
            ((57 : Int32) < i0 →
              K (some (.int (3 : Int32))) V) ∧
            (¬ (57 : Int32) < i0 →
              K (some (.int (2 : Int32))) V))) ∧
        (¬ i0 < (97 : Int32) →
          ((122 : Int32) < i0 →
            (i0 < (48 : Int32) →
              K (some (.int (3 : Int32))) V) ∧
            (¬ i0 < (48 : Int32) →
              ((57 : Int32) < i0 →
                K (some (.int (3 : Int32))) V) ∧
              (¬ (57 : Int32) < i0 →
                K (some (.int (2 : Int32))) V))) ∧
          (¬ (122 : Int32) < i0 →
            K (some (.int (1 : Int32))) V))))) :
    ab_E G (ac_ST L xs) l (d + 2) ac_SK 31 [.int i0] V K := by
  refine vc_31_0 ?_
  refine ⟨fun c => ?_, fun c => ?_⟩
  · replace h := h.1 c
    exact h
  · replace h := h.2 c
    refine ⟨fun c => ?_, fun c => ?_⟩
    · replace h := h.1 c
      exact h
    · replace h := h.2 c
      refine vc_182_0 ?_
      refine ⟨fun c => ?_, fun c => ?_⟩
      · replace h := h.1 c
        refine ⟨Or.inl rfl, ?_⟩
        refine ⟨fun q => ?_, fun q => absurd rfl q⟩
        refine vc_182_0 ?_
        refine ⟨fun c => ?_, fun c => ?_⟩
        · replace h := h.1 c
          refine ⟨Or.inl rfl, ?_⟩
          refine ⟨fun q => ?_, fun q => absurd rfl q⟩
          exact h
        · replace h := h.2 c
          refine ⟨fun c => ?_, fun c => ?_⟩
          · replace h := h.1 c
            refine ⟨Or.inl rfl, ?_⟩
            refine ⟨fun q => ?_, fun q => absurd rfl q⟩
            exact h
          · replace h := h.2 c
            refine ⟨Or.inr rfl, ?_⟩
            refine ⟨fun q => absurd q (by decide), fun q => ?_⟩
            exact h
      · replace h := h.2 c
        refine ⟨fun c => ?_, fun c => ?_⟩
        · replace h := h.1 c
          refine ⟨Or.inl rfl, ?_⟩
          refine ⟨fun q => ?_, fun q => absurd rfl q⟩
          refine vc_182_0 ?_
          refine ⟨fun c => ?_, fun c => ?_⟩
          · replace h := h.1 c
            refine ⟨Or.inl rfl, ?_⟩
            refine ⟨fun q => ?_, fun q => absurd rfl q⟩
            exact h
          · replace h := h.2 c
            refine ⟨fun c => ?_, fun c => ?_⟩
            · replace h := h.1 c
              refine ⟨Or.inl rfl, ?_⟩
              refine ⟨fun q => ?_, fun q => absurd rfl q⟩
              exact h
            · replace h := h.2 c
              refine ⟨Or.inr rfl, ?_⟩
              refine ⟨fun q => absurd q (by decide), fun q => ?_⟩
              exact h
        · replace h := h.2 c
          refine ⟨Or.inr rfl, ?_⟩
          refine ⟨fun q => absurd q (by decide), fun q => ?_⟩
          exact h

set_option maxRecDepth 20000 in
/-- FrameCounty$Reader tokenOf(II)I, from 0 -/
theorem iv_32_0 {G : ab_G} {L : Nat} {xs : Nat → Int32} {l : Launch} {d : Nat} {i1 : Int32} {i2 : Int32} {V : aa_V} {K : aa_K} (h :
    (i1 < (V 80 1) →
      vp_in i1 160 ∧
      ab_E G (ac_ST L xs) l (d + 1) ac_SK 31 [.int (V 81 ((i1).toNatClampNeg))] V (aa_rI (fun x1 V1 =>
        (x1 = 1 →
          ab_E G (ac_ST L xs) l (d + 1) ac_SK 34 [.ref 80, .int i1, .int i2] V1 (aa_rI (fun x2 V2 =>
            K (some (.int x2)) V2))) ∧
        (¬ x1 = 1 →
        (x1 = 2 →
          ((4 : Int32) < (i2 - i1) →
            K (some (.int (257 : Int32))) V1) ∧
          (¬ (4 : Int32) < (i2 - i1) →
            K (some (.int (258 : Int32))) V1)) ∧
        (¬ x1 = 2 →
        vp_in i1 160 ∧
        K (some (.int (V1 81 ((i1).toNatClampNeg)))) V1))))) ∧
    (¬ i1 < (V 80 1) →
      K (some (.int (256 : Int32))) V)) :
    ab_E G (ac_ST L xs) l (d + 2) ac_SK 32 [.ref 80, .int i1, .int i2] V K := by
  refine vc_32_0 ?_
  exact h

set_option maxRecDepth 20000 in
/-- FrameCounty$Reader numberOf(II)I, from 0 -/
theorem iv_33_0 {G : ab_G} {L : Nat} {xs : Nat → Int32} {l : Launch} {d : Nat} {i1 : Int32} {i2 : Int32} {V : aa_V} {K : aa_K} (h :
    ab_J G (ac_ST L xs) l (d + 1) 33 5 [some (.ref 80), none, some (.int i2), some (.int (0 : Int32)), some (.int i1)] [] ac_SK V ac_SK K) :
    ab_E G (ac_ST L xs) l (d + 1) ac_SK 33 [.ref 80, .int i1, .int i2] V K := by
  refine vc_33_0 ?_
  exact h

set_option maxRecDepth 20000 in
/-- FrameCounty$Reader numberOf(II)I, from 5 -/
theorem iv_33_5 {G : ab_G} {L : Nat} {xs : Nat → Int32} {l : Launch} {d : Nat} {i2 : Int32} {i3 : Int32} {i4 : Int32} {V : aa_V} {K : aa_K} (h :
    (i4 < i2 →
      vp_in i4 160 ∧
      ab_J G (ac_ST L xs) l (d + 1) 33 5 [some (.ref 80), none, some (.int i2), some (.int (((i3 * (10 : Int32)) + (V 81 ((i4).toNatClampNeg))) - (48 : Int32))), some (.int (i4 + 1))] [] ac_SK V ac_SK K) ∧
    (¬ i4 < i2 →
      K (some (.int i3)) V)) :
    ab_J G (ac_ST L xs) l (d + 1) 33 5 [some (.ref 80), none, some (.int i2), some (.int i3), some (.int i4)] [] ac_SK V ac_SK K := by
  refine vc_33_5 ?_
  exact h

set_option maxRecDepth 20000 in
/-- FrameCounty$Reader wordOf(II)I, from 0 -/
theorem iv_34_0 {G : ab_G} {L : Nat} {xs : Nat → Int32} {l : Launch} {d : Nat} {i1 : Int32} {i2 : Int32} {V : aa_V} {K : aa_K} (h :
    ab_J G (ac_ST L xs) l (d + 2) 34 2 [some (.ref 80), some (.int i1), some (.int i2), some (.int (0 : Int32))] [] ac_SK V ac_SK K) :
    ab_E G (ac_ST L xs) l (d + 2) ac_SK 34 [.ref 80, .int i1, .int i2] V K := by
  refine vc_34_0 ?_
  exact h

set_option maxRecDepth 20000 in
/-- FrameCounty$Reader wordOf(II)I, from 2 -/
theorem iv_34_2 {G : ab_G} {L : Nat} {xs : Nat → Int32} {l : Launch} {d : Nat} {i1 : Int32} {i2 : Int32} {i3 : Int32} {V : aa_V} {K : aa_K} (h :
    (i3 < (11 : Int32) →
      ab_E G (ac_ST L xs) l (d + 1) ac_SK 36 [.int i3] V (aa_rR (fun x1 V1 =>
        ab_E G (ac_ST L xs) l (d + 1) ac_SK 35 [.ref 80, .ref x1, .int i1, .int i2] V1 (aa_rI (fun x2 V2 =>
          (x2 = 0 →
            ab_J G (ac_ST L xs) l (d + 2) 34 2 [some (.ref 80), some (.int i1), some (.int i2), some (.int (i3 + 1))] [] ac_SK V2 ac_SK K) ∧
          (¬ x2 = 0 →
            K (some (.int ((300 : Int32) + i3))) V2)))))) ∧
    (¬ i3 < (11 : Int32) →
      K (some (.int (257 : Int32))) V)) :
    ab_J G (ac_ST L xs) l (d + 2) 34 2 [some (.ref 80), some (.int i1), some (.int i2), some (.int i3)] [] ac_SK V ac_SK K := by
  refine vc_34_2 ?_
  exact h

set_option maxRecDepth 20000 in
/-- FrameCounty$Reader stands(Ljava/lang/String;II)Z, from 0 -/
theorem iv_35_0 {G : ab_G} {L : Nat} {xs : Nat → Int32} {l : Launch} {d : Nat} {r1 : Nat} {i2 : Int32} {i3 : Int32} {V : aa_V} {K : aa_K} (h :
    2000000 ≤ r1 ∧ r1 < 2000012 ∧
    ab_E G (ac_ST L xs) l (d + 1) ac_SK 289 [.ref r1] V (aa_rI (fun x1 V1 =>
      (x1 = (i3 - i2) →
        ab_J G (ac_ST L xs) l (d + 2) 35 15 [some (.ref 80), some (.ref r1), some (.int i2), some (.int i3), some (.int i2)] [] ac_SK V1 ac_SK K) ∧
      (¬ x1 = (i3 - i2) →
        K (some (.int (0 : Int32))) V1)))) :
    ab_E G (ac_ST L xs) l (d + 2) ac_SK 35 [.ref 80, .ref r1, .int i2, .int i3] V K := by
  refine vc_35_0 ?_
  refine ⟨h.1, h.2.1, ?_⟩
  replace h := h.2.2
  refine ab_EmI (fun x1 V1 h => ?_) h
  refine ⟨fun c => ?_, fun c => ?_⟩
  · replace h := h.1 c
    exact h
  · replace h := h.2 c
    exact ⟨Or.inl rfl, h⟩

set_option maxRecDepth 20000 in
/-- FrameCounty$Reader stands(Ljava/lang/String;II)Z, from 15 -/
theorem iv_35_15 {G : ab_G} {L : Nat} {xs : Nat → Int32} {l : Launch} {d : Nat} {r1 : Nat} {i2 : Int32} {i3 : Int32} {i4 : Int32} {V : aa_V} {K : aa_K} (h :
    (i4 < i3 →
      vp_in i4 160 ∧
      2000000 ≤ r1 ∧ r1 < 2000012 ∧
      ab_E G (ac_ST L xs) l (d + 1) ac_SK 290 [.ref r1, .int (i4 - i2)] V (aa_rI (fun x1 V1 =>
        ((V 81 ((i4).toNatClampNeg)) = x1 →
          ab_J G (ac_ST L xs) l (d + 2) 35 15 [some (.ref 80), some (.ref r1), some (.int i2), some (.int i3), some (.int (i4 + 1))] [] ac_SK V1 ac_SK K) ∧
        (¬ (V 81 ((i4).toNatClampNeg)) = x1 →
          K (some (.int (0 : Int32))) V1)))) ∧
    (¬ i4 < i3 →
      K (some (.int (1 : Int32))) V)) :
    ab_J G (ac_ST L xs) l (d + 2) 35 15 [some (.ref 80), some (.ref r1), some (.int i2), some (.int i3), some (.int i4)] [] ac_SK V ac_SK K := by
  refine vc_35_15 ?_
  refine ⟨fun c => ?_, fun c => ?_⟩
  · replace h := h.1 c
    refine ⟨h.1, ?_⟩
    replace h := h.2
    refine ⟨h.1, h.2.1, ?_⟩
    replace h := h.2.2
    refine ab_EmI (fun x1 V1 h => ?_) h
    refine ⟨fun c => ?_, fun c => ?_⟩
    · replace h := h.1 c
      exact h
    · replace h := h.2 c
      exact ⟨Or.inl rfl, h⟩
  · replace h := h.2 c
    exact ⟨Or.inr rfl, h⟩

set_option maxRecDepth 20000 in
/-- FrameCounty$Reader lettersOf(I)Ljava/lang/String;, from 0 -/
theorem iv_36_0 {G : ab_G} {L : Nat} {xs : Nat → Int32} {l : Launch} {d : Nat} {i0 : Int32} {V : aa_V} {K : aa_K} (h :
    (i0 = 0 →
      K (some (.ref (2000000 + 1))) V) ∧
    (¬ i0 = 0 →
    (i0 = 1 →
      K (some (.ref (2000000 + 2))) V) ∧
    (¬ i0 = 1 →
    (i0 = 2 →
      K (some (.ref (2000000 + 3))) V) ∧
    (¬ i0 = 2 →
    (i0 = 3 →
      K (some (.ref (2000000 + 4))) V) ∧
    (¬ i0 = 3 →
    (i0 = 4 →
      K (some (.ref (2000000 + 5))) V) ∧
    (¬ i0 = 4 →
    (i0 = 5 →
      K (some (.ref (2000000 + 6))) V) ∧
    (¬ i0 = 5 →
    (i0 = 6 →
      K (some (.ref (2000000 + 7))) V) ∧
    (¬ i0 = 6 →
    (i0 = 7 →
      K (some (.ref (2000000 + 8))) V) ∧
    (¬ i0 = 7 →
    (i0 = 8 →
      K (some (.ref (2000000 + 9))) V) ∧
    (¬ i0 = 8 →
    (i0 = 9 →
      K (some (.ref (2000000 + 10))) V) ∧
    (¬ i0 = 9 →
    K (some (.ref (2000000 + 11))) V))))))))))) :
    ab_E G (ac_ST L xs) l (d + 1) ac_SK 36 [.int i0] V K := by
  refine vc_36_0 ?_
  exact h

set_option maxRecDepth 20000 in
/-- FrameCounty$Reader expect(I)V, from 0 -/
theorem iv_39_0 {G : ab_G} {L : Nat} {xs : Nat → Int32} {l : Launch} {d : Nat} {i1 : Int32} {V : aa_V} {K : aa_K} (h :
    ((V 80 7) = (-1 : Int32) →
      ((V 80 6) < (V 80 5) →
        vp_in (V 80 6) 161 ∧
        ((V 82 (((V 80 6)).toNatClampNeg)) = i1 →
          K none (aa_up V 80 6 ((V 80 6) + (1 : Int32)))) ∧
        (¬ (V 82 (((V 80 6)).toNatClampNeg)) = i1 →
          ((V 80 7) = (-1 : Int32) →
            ((V 80 6) < (V 80 5) →
              vp_in (V 80 6) 161 ∧
              K none (aa_up V 80 7 (V 83 (((V 80 6)).toNatClampNeg)))) ∧
            (¬ (V 80 6) < (V 80 5) →
              K none V)) ∧
          (¬ (V 80 7) = (-1 : Int32) →
            K none V))) ∧
      (¬ (V 80 6) < (V 80 5) →
        ((257 : Int32) = i1 →
          K none (aa_up V 80 6 ((V 80 6) + (1 : Int32)))) ∧
        (¬ (257 : Int32) = i1 →
          ((V 80 7) = (-1 : Int32) →
            ((V 80 6) < (V 80 5) →
              vp_in (V 80 6) 161 ∧
              K none (aa_up V 80 7 (V 83 (((V 80 6)).toNatClampNeg)))) ∧
            (¬ (V 80 6) < (V 80 5) →
              K none V)) ∧
          (¬ (V 80 7) = (-1 : Int32) →
            K none V)))) ∧
    (¬ (V 80 7) = (-1 : Int32) →
      ((257 : Int32) = i1 →
        K none (aa_up V 80 6 ((V 80 6) + (1 : Int32)))) ∧
      (¬ (257 : Int32) = i1 →
        ((V 80 7) = (-1 : Int32) →
          ((V 80 6) < (V 80 5) →
            vp_in (V 80 6) 161 ∧
            K none (aa_up V 80 7 (V 83 (((V 80 6)).toNatClampNeg)))) ∧
          (¬ (V 80 6) < (V 80 5) →
            K none V)) ∧
        (¬ (V 80 7) = (-1 : Int32) →
          K none V)))) :
    ab_E G (ac_ST L xs) l (d + 2) ac_SK 39 [.ref 80, .int i1] V K := by
  refine vc_39_0 ?_
  refine vc_37_0 ?_
  refine ⟨fun c => ?_, fun c => ?_⟩
  · replace h := h.1 c
    refine ⟨fun c => ?_, fun c => ?_⟩
    · replace h := h.1 c
      refine ⟨h.1, ?_⟩
      replace h := h.2
      refine ⟨fun c => ?_, fun c => ?_⟩
      · replace h := h.1 c
        exact h
      · replace h := h.2 c
        refine vc_38_0 ?_
        refine ⟨fun c => ?_, fun c => ?_⟩
        · replace h := h.1 c
          refine ⟨fun c => ?_, fun c => ?_⟩
          · replace h := h.1 c
            refine ⟨h.1, ?_⟩
            replace h := h.2
            exact h
          · replace h := h.2 c
            exact h
        · replace h := h.2 c
          exact h
    · replace h := h.2 c
      refine ⟨fun c => ?_, fun c => ?_⟩
      · replace h := h.1 c
        exact h
      · replace h := h.2 c
        refine vc_38_0 ?_
        refine ⟨fun c => ?_, fun c => ?_⟩
        · replace h := h.1 c
          refine ⟨fun c => ?_, fun c => ?_⟩
          · replace h := h.1 c
            refine ⟨h.1, ?_⟩
            replace h := h.2
            exact h
          · replace h := h.2 c
            exact h
        · replace h := h.2 c
          exact h
  · replace h := h.2 c
    refine ⟨fun c => ?_, fun c => ?_⟩
    · replace h := h.1 c
      exact h
    · replace h := h.2 c
      refine vc_38_0 ?_
      refine ⟨fun c => ?_, fun c => ?_⟩
      · replace h := h.1 c
        refine ⟨fun c => ?_, fun c => ?_⟩
        · replace h := h.1 c
          refine ⟨h.1, ?_⟩
          replace h := h.2
          exact h
        · replace h := h.2 c
          exact h
      · replace h := h.2 c
        exact h

set_option maxRecDepth 20000 in
/-- FrameCounty$Reader readOr(I)V, from 0 -/
theorem iv_40_0 {G : ab_G} {L : Nat} {xs : Nat → Int32} {l : Launch} {d : Nat} {i1 : Int32} {V : aa_V} {K : aa_K} (h :
    ab_E G (ac_ST L xs) l (d + 1) ac_SK 41 [.ref 80, .int i1] V (aa_rV (fun V1 =>
      ab_J G (ac_ST L xs) l (d + 2) 40 7 [some (.ref 80), some (.int i1), some (.int (0 : Int32))] [] ac_SK V1 ac_SK K))) :
    ab_E G (ac_ST L xs) l (d + 2) ac_SK 40 [.ref 80, .int i1] V K := by
  refine vc_40_0 ?_
  exact h

set_option maxRecDepth 20000 in
/-- FrameCounty$Reader readOr(I)V, from 7 -/
theorem iv_40_7 {G : ab_G} {L : Nat} {xs : Nat → Int32} {l : Launch} {d : Nat} {i1 : Int32} {i2 : Int32} {V : aa_V} {K : aa_K} (h :
    (i2 < (160 : Int32) →
      ((V 80 7) = (-1 : Int32) →
        ((V 80 6) < (V 80 5) →
          vp_in (V 80 6) 161 ∧
          ((V 82 (((V 80 6)).toNatClampNeg)) = (308 : Int32) →
            ab_E G (ac_ST L xs) l (d + 1) ac_SK 41 [.ref 80, .int i1] (aa_up V 80 6 ((V 80 6) + (1 : Int32))) (aa_rV (fun V1 =>
              ∃ (q2 : Nat), ((V1 80 8)).toNatClampNeg = q2 + 1 ∧
              aa_is ac_SK q2 6 ∧
              ab_E G (ac_ST L xs) l (d + 1) ac_SK 70 [.ref q2, .int (20002 : Int32)] V1 (aa_rV (fun V3 =>
                ab_J G (ac_ST L xs) l (d + 2) 40 7 [some (.ref 80), some (.int i1), some (.int (i2 + 1))] [] ac_SK V3 ac_SK K))))) ∧
          (¬ (V 82 (((V 80 6)).toNatClampNeg)) = (308 : Int32) →
            K none V)) ∧
        (¬ (V 80 6) < (V 80 5) →
          K none V)) ∧
      (¬ (V 80 7) = (-1 : Int32) →
        K none V)) ∧
    (¬ i2 < (160 : Int32) →
      K none V)) :
    ab_J G (ac_ST L xs) l (d + 2) 40 7 [some (.ref 80), some (.int i1), some (.int i2)] [] ac_SK V ac_SK K := by
  refine vc_40_7 ?_
  refine ⟨fun c => ?_, fun c => ?_⟩
  · replace h := h.1 c
    refine vc_37_0 ?_
    refine ⟨fun c => ?_, fun c => ?_⟩
    · replace h := h.1 c
      refine ⟨fun c => ?_, fun c => ?_⟩
      · replace h := h.1 c
        refine ⟨h.1, ?_⟩
        replace h := h.2
        exact h
      · replace h := h.2 c
        refine ⟨fun q => absurd q (by decide), fun q => ?_⟩
        exact h
    · replace h := h.2 c
      refine ⟨fun q => absurd q (by decide), fun q => ?_⟩
      exact h
  · replace h := h.2 c
    exact h

set_option maxRecDepth 20000 in
/-- FrameCounty$Reader readAnd(I)V, from 0 -/
theorem iv_41_0 {G : ab_G} {L : Nat} {xs : Nat → Int32} {l : Launch} {d : Nat} {i1 : Int32} {V : aa_V} {K : aa_K} (h :
    ab_E G (ac_ST L xs) l (d + 1) ac_SK 42 [.ref 80, .int i1] V (aa_rV (fun V1 =>
      ab_J G (ac_ST L xs) l (d + 2) 41 7 [some (.ref 80), some (.int i1), some (.int (0 : Int32))] [] ac_SK V1 ac_SK K))) :
    ab_E G (ac_ST L xs) l (d + 2) ac_SK 41 [.ref 80, .int i1] V K := by
  refine vc_41_0 ?_
  exact h

set_option maxRecDepth 20000 in
/-- FrameCounty$Reader readAnd(I)V, from 7 -/
theorem iv_41_7 {G : ab_G} {L : Nat} {xs : Nat → Int32} {l : Launch} {d : Nat} {i1 : Int32} {i2 : Int32} {V : aa_V} {K : aa_K} (h :
    (i2 < (160 : Int32) →
      ((V 80 7) = (-1 : Int32) →
        ((V 80 6) < (V 80 5) →
          vp_in (V 80 6) 161 ∧
          ((V 82 (((V 80 6)).toNatClampNeg)) = (309 : Int32) →
            ab_E G (ac_ST L xs) l (d + 1) ac_SK 42 [.ref 80, .int i1] (aa_up V 80 6 ((V 80 6) + (1 : Int32))) (aa_rV (fun V1 =>
              ∃ (q2 : Nat), ((V1 80 8)).toNatClampNeg = q2 + 1 ∧
              aa_is ac_SK q2 6 ∧
              ab_E G (ac_ST L xs) l (d + 1) ac_SK 70 [.ref q2, .int (20003 : Int32)] V1 (aa_rV (fun V3 =>
                ab_J G (ac_ST L xs) l (d + 2) 41 7 [some (.ref 80), some (.int i1), some (.int (i2 + 1))] [] ac_SK V3 ac_SK K))))) ∧
          (¬ (V 82 (((V 80 6)).toNatClampNeg)) = (309 : Int32) →
            K none V)) ∧
        (¬ (V 80 6) < (V 80 5) →
          K none V)) ∧
      (¬ (V 80 7) = (-1 : Int32) →
        K none V)) ∧
    (¬ i2 < (160 : Int32) →
      K none V)) :
    ab_J G (ac_ST L xs) l (d + 2) 41 7 [some (.ref 80), some (.int i1), some (.int i2)] [] ac_SK V ac_SK K := by
  refine vc_41_7 ?_
  refine ⟨fun c => ?_, fun c => ?_⟩
  · replace h := h.1 c
    refine vc_37_0 ?_
    refine ⟨fun c => ?_, fun c => ?_⟩
    · replace h := h.1 c
      refine ⟨fun c => ?_, fun c => ?_⟩
      · replace h := h.1 c
        refine ⟨h.1, ?_⟩
        replace h := h.2
        exact h
      · replace h := h.2 c
        refine ⟨fun q => absurd q (by decide), fun q => ?_⟩
        exact h
    · replace h := h.2 c
      refine ⟨fun q => absurd q (by decide), fun q => ?_⟩
      exact h
  · replace h := h.2 c
    exact h

set_option maxRecDepth 20000 in
/-- FrameCounty$Reader readNot(I)V, from 0 -/
theorem iv_42_0 {G : ab_G} {L : Nat} {xs : Nat → Int32} {l : Launch} {d : Nat} {i1 : Int32} {V : aa_V} {K : aa_K} (h :
    ((V 80 7) = (-1 : Int32) →
      ((V 80 6) < (V 80 5) →
        vp_in (V 80 6) 161 ∧
        ((V 82 (((V 80 6)).toNatClampNeg)) = (310 : Int32) →
          ab_E G (ac_ST L xs) l (d + 1) ac_SK 46 [.ref 80, .int i1] V (aa_rI (fun x1 V1 =>
            (x1 = 0 →
              K none V1) ∧
            (¬ x1 = 0 →
              ab_E G (ac_ST L xs) l (d + 1) ac_SK 42 [.ref 80, .int (i1 + (1 : Int32))] V1 (aa_rV (fun V2 =>
                ∃ (q3 : Nat), ((V2 80 8)).toNatClampNeg = q3 + 1 ∧
                aa_is ac_SK q3 6 ∧
                ab_E G (ac_ST L xs) l (d + 1) ac_SK 70 [.ref q3, .int (20000 : Int32)] V2 (aa_rV (fun V4 =>
                  K none V4)))))))) ∧
        (¬ (V 82 (((V 80 6)).toNatClampNeg)) = (310 : Int32) →
          ab_E G (ac_ST L xs) l (d + 1) ac_SK 43 [.ref 80, .int i1] V (aa_rV (fun V1 =>
            ((V1 80 7) = (-1 : Int32) →
              ((V1 80 6) < (V1 80 5) →
                vp_in (V1 80 6) 161 ∧
                ((V1 82 (((V1 80 6)).toNatClampNeg)) = (60 : Int32) →
                  ab_E G (ac_ST L xs) l (d + 1) ac_SK 43 [.ref 80, .int i1] (aa_up V1 80 6 ((V1 80 6) + (1 : Int32))) (aa_rV (fun V2 =>
                    ∃ (q3 : Nat), ((V2 80 8)).toNatClampNeg = q3 + 1 ∧
                    ((V1 82 (((V1 80 6)).toNatClampNeg)) = (60 : Int32) →
                      aa_is ac_SK q3 6 ∧
                      ab_E G (ac_ST L xs) l (d + 1) ac_SK 70 [.ref q3, .int (20004 : Int32)] V2 (aa_rV (fun V4 =>
                        K none V4))) ∧
                    (¬ (V1 82 (((V1 80 6)).toNatClampNeg)) = (60 : Int32) →
                      aa_is ac_SK q3 6 ∧
                      ab_E G (ac_ST L xs) l (d + 1) ac_SK 70 [.ref q3, .int (20005 : Int32)] V2 (aa_rV (fun V4 =>
                        K none V4)))))) ∧
                (¬ (V1 82 (((V1 80 6)).toNatClampNeg)) = (60 : Int32) →
                  ((V1 82 (((V1 80 6)).toNatClampNeg)) = (61 : Int32) →
                    ab_E G (ac_ST L xs) l (d + 1) ac_SK 43 [.ref 80, .int i1] (aa_up V1 80 6 ((V1 80 6) + (1 : Int32))) (aa_rV (fun V2 =>
                      ∃ (q3 : Nat), ((V2 80 8)).toNatClampNeg = q3 + 1 ∧
                      ((V1 82 (((V1 80 6)).toNatClampNeg)) = (60 : Int32) →
                        aa_is ac_SK q3 6 ∧
                        ab_E G (ac_ST L xs) l (d + 1) ac_SK 70 [.ref q3, .int (20004 : Int32)] V2 (aa_rV (fun V4 =>
                          K none V4))) ∧
                      (¬ (V1 82 (((V1 80 6)).toNatClampNeg)) = (60 : Int32) →
                        aa_is ac_SK q3 6 ∧
                        ab_E G (ac_ST L xs) l (d + 1) ac_SK 70 [.ref q3, .int (20005 : Int32)] V2 (aa_rV (fun V4 =>
                          K none V4)))))) ∧
                  (¬ (V1 82 (((V1 80 6)).toNatClampNeg)) = (61 : Int32) →
                    K none V1))) ∧
              (¬ (V1 80 6) < (V1 80 5) →
                K none V1)) ∧
            (¬ (V1 80 7) = (-1 : Int32) →
              K none V1))))) ∧
      (¬ (V 80 6) < (V 80 5) →
        ab_E G (ac_ST L xs) l (d + 1) ac_SK 43 [.ref 80, .int i1] V (aa_rV (fun V1 =>
          ((V1 80 7) = (-1 : Int32) →
            ((V1 80 6) < (V1 80 5) →
              vp_in (V1 80 6) 161 ∧
              ((V1 82 (((V1 80 6)).toNatClampNeg)) = (60 : Int32) →
                ab_E G (ac_ST L xs) l (d + 1) ac_SK 43 [.ref 80, .int i1] (aa_up V1 80 6 ((V1 80 6) + (1 : Int32))) (aa_rV (fun V2 =>
                  ∃ (q3 : Nat), ((V2 80 8)).toNatClampNeg = q3 + 1 ∧
                  ((V1 82 (((V1 80 6)).toNatClampNeg)) = (60 : Int32) →
                    aa_is ac_SK q3 6 ∧
                    ab_E G (ac_ST L xs) l (d + 1) ac_SK 70 [.ref q3, .int (20004 : Int32)] V2 (aa_rV (fun V4 =>
                      K none V4))) ∧
                  (¬ (V1 82 (((V1 80 6)).toNatClampNeg)) = (60 : Int32) →
                    aa_is ac_SK q3 6 ∧
                    ab_E G (ac_ST L xs) l (d + 1) ac_SK 70 [.ref q3, .int (20005 : Int32)] V2 (aa_rV (fun V4 =>
                      K none V4)))))) ∧
              (¬ (V1 82 (((V1 80 6)).toNatClampNeg)) = (60 : Int32) →
                ((V1 82 (((V1 80 6)).toNatClampNeg)) = (61 : Int32) →
                  ab_E G (ac_ST L xs) l (d + 1) ac_SK 43 [.ref 80, .int i1] (aa_up V1 80 6 ((V1 80 6) + (1 : Int32))) (aa_rV (fun V2 =>
                    ∃ (q3 : Nat), ((V2 80 8)).toNatClampNeg = q3 + 1 ∧
                    ((V1 82 (((V1 80 6)).toNatClampNeg)) = (60 : Int32) →
                      aa_is ac_SK q3 6 ∧
                      ab_E G (ac_ST L xs) l (d + 1) ac_SK 70 [.ref q3, .int (20004 : Int32)] V2 (aa_rV (fun V4 =>
                        K none V4))) ∧
                    (¬ (V1 82 (((V1 80 6)).toNatClampNeg)) = (60 : Int32) →
                      aa_is ac_SK q3 6 ∧
                      ab_E G (ac_ST L xs) l (d + 1) ac_SK 70 [.ref q3, .int (20005 : Int32)] V2 (aa_rV (fun V4 =>
                        K none V4)))))) ∧
                (¬ (V1 82 (((V1 80 6)).toNatClampNeg)) = (61 : Int32) →
                  K none V1))) ∧
            (¬ (V1 80 6) < (V1 80 5) →
              K none V1)) ∧
          (¬ (V1 80 7) = (-1 : Int32) →
            K none V1))))) ∧
    (¬ (V 80 7) = (-1 : Int32) →
      ab_E G (ac_ST L xs) l (d + 1) ac_SK 43 [.ref 80, .int i1] V (aa_rV (fun V1 =>
        ((V1 80 7) = (-1 : Int32) →
          ((V1 80 6) < (V1 80 5) →
            vp_in (V1 80 6) 161 ∧
            ((V1 82 (((V1 80 6)).toNatClampNeg)) = (60 : Int32) →
              ab_E G (ac_ST L xs) l (d + 1) ac_SK 43 [.ref 80, .int i1] (aa_up V1 80 6 ((V1 80 6) + (1 : Int32))) (aa_rV (fun V2 =>
                ∃ (q3 : Nat), ((V2 80 8)).toNatClampNeg = q3 + 1 ∧
                ((V1 82 (((V1 80 6)).toNatClampNeg)) = (60 : Int32) →
                  aa_is ac_SK q3 6 ∧
                  ab_E G (ac_ST L xs) l (d + 1) ac_SK 70 [.ref q3, .int (20004 : Int32)] V2 (aa_rV (fun V4 =>
                    K none V4))) ∧
                (¬ (V1 82 (((V1 80 6)).toNatClampNeg)) = (60 : Int32) →
                  aa_is ac_SK q3 6 ∧
                  ab_E G (ac_ST L xs) l (d + 1) ac_SK 70 [.ref q3, .int (20005 : Int32)] V2 (aa_rV (fun V4 =>
                    K none V4)))))) ∧
            (¬ (V1 82 (((V1 80 6)).toNatClampNeg)) = (60 : Int32) →
              ((V1 82 (((V1 80 6)).toNatClampNeg)) = (61 : Int32) →
                ab_E G (ac_ST L xs) l (d + 1) ac_SK 43 [.ref 80, .int i1] (aa_up V1 80 6 ((V1 80 6) + (1 : Int32))) (aa_rV (fun V2 =>
                  ∃ (q3 : Nat), ((V2 80 8)).toNatClampNeg = q3 + 1 ∧
                  ((V1 82 (((V1 80 6)).toNatClampNeg)) = (60 : Int32) →
                    aa_is ac_SK q3 6 ∧
                    ab_E G (ac_ST L xs) l (d + 1) ac_SK 70 [.ref q3, .int (20004 : Int32)] V2 (aa_rV (fun V4 =>
                      K none V4))) ∧
                  (¬ (V1 82 (((V1 80 6)).toNatClampNeg)) = (60 : Int32) →
                    aa_is ac_SK q3 6 ∧
                    ab_E G (ac_ST L xs) l (d + 1) ac_SK 70 [.ref q3, .int (20005 : Int32)] V2 (aa_rV (fun V4 =>
                      K none V4)))))) ∧
              (¬ (V1 82 (((V1 80 6)).toNatClampNeg)) = (61 : Int32) →
                K none V1))) ∧
          (¬ (V1 80 6) < (V1 80 5) →
            K none V1)) ∧
        (¬ (V1 80 7) = (-1 : Int32) →
          K none V1))))) :
    ab_E G (ac_ST L xs) l (d + 2) ac_SK 42 [.ref 80, .int i1] V K := by
  refine vc_42_0 ?_
  refine vc_37_0 ?_
  refine ⟨fun c => ?_, fun c => ?_⟩
  · replace h := h.1 c
    refine ⟨fun c => ?_, fun c => ?_⟩
    · replace h := h.1 c
      refine ⟨h.1, ?_⟩
      replace h := h.2
      refine ⟨fun c => ?_, fun c => ?_⟩
      · replace h := h.1 c
        exact h
      · replace h := h.2 c
        refine ab_EmV (fun V1 h => ?_) h
        refine vc_37_0 ?_
        refine ⟨fun c => ?_, fun c => ?_⟩
        · replace h := h.1 c
          refine ⟨fun c => ?_, fun c => ?_⟩
          · replace h := h.1 c
            refine ⟨h.1, ?_⟩
            replace h := h.2
            exact h
          · replace h := h.2 c
            refine ⟨fun q => absurd q (by decide), fun q => ?_⟩
            refine ⟨fun q => absurd q (by decide), fun q => ?_⟩
            exact h
        · replace h := h.2 c
          refine ⟨fun q => absurd q (by decide), fun q => ?_⟩
          refine ⟨fun q => absurd q (by decide), fun q => ?_⟩
          exact h
    · replace h := h.2 c
      refine ⟨fun q => absurd q (by decide), fun q => ?_⟩
      refine ab_EmV (fun V1 h => ?_) h
      refine vc_37_0 ?_
      refine ⟨fun c => ?_, fun c => ?_⟩
      · replace h := h.1 c
        refine ⟨fun c => ?_, fun c => ?_⟩
        · replace h := h.1 c
          refine ⟨h.1, ?_⟩
          replace h := h.2
          exact h
        · replace h := h.2 c
          refine ⟨fun q => absurd q (by decide), fun q => ?_⟩
          refine ⟨fun q => absurd q (by decide), fun q => ?_⟩
          exact h
      · replace h := h.2 c
        refine ⟨fun q => absurd q (by decide), fun q => ?_⟩
        refine ⟨fun q => absurd q (by decide), fun q => ?_⟩
        exact h
  · replace h := h.2 c
    refine ⟨fun q => absurd q (by decide), fun q => ?_⟩
    refine ab_EmV (fun V1 h => ?_) h
    refine vc_37_0 ?_
    refine ⟨fun c => ?_, fun c => ?_⟩
    · replace h := h.1 c
      refine ⟨fun c => ?_, fun c => ?_⟩
      · replace h := h.1 c
        refine ⟨h.1, ?_⟩
        replace h := h.2
        exact h
      · replace h := h.2 c
        refine ⟨fun q => absurd q (by decide), fun q => ?_⟩
        refine ⟨fun q => absurd q (by decide), fun q => ?_⟩
        exact h
    · replace h := h.2 c
      refine ⟨fun q => absurd q (by decide), fun q => ?_⟩
      refine ⟨fun q => absurd q (by decide), fun q => ?_⟩
      exact h

set_option maxRecDepth 20000 in
/-- FrameCounty$Reader readSum(I)V, from 0 -/
theorem iv_43_0 {G : ab_G} {L : Nat} {xs : Nat → Int32} {l : Launch} {d : Nat} {i1 : Int32} {V : aa_V} {K : aa_K} (h :
    ab_E G (ac_ST L xs) l (d + 1) ac_SK 44 [.ref 80, .int i1] V (aa_rV (fun V1 =>
      ab_J G (ac_ST L xs) l (d + 2) 43 7 [some (.ref 80), some (.int i1), some (.int (0 : Int32)), none] [] ac_SK V1 ac_SK K))) :
    ab_E G (ac_ST L xs) l (d + 2) ac_SK 43 [.ref 80, .int i1] V K := by
  refine vc_43_0 ?_
  exact h

set_option maxRecDepth 20000 in
/-- FrameCounty$Reader readSum(I)V, from 7 -/
theorem iv_43_7 {G : ab_G} {L : Nat} {xs : Nat → Int32} {l : Launch} {d : Nat} {i1 : Int32} {i2 : Int32} {V : aa_V} {K : aa_K} (h :
    (i2 < (160 : Int32) →
      ((V 80 7) = (-1 : Int32) →
        ((V 80 6) < (V 80 5) →
          vp_in (V 80 6) 161 ∧
          ((V 82 (((V 80 6)).toNatClampNeg)) = (43 : Int32) →
            ((V 80 7) = (-1 : Int32) →
              ((V 80 6) < (V 80 5) →
                vp_in (V 80 6) 161 ∧
                ab_E G (ac_ST L xs) l (d + 1) ac_SK 44 [.ref 80, .int i1] (aa_up V 80 6 ((V 80 6) + (1 : Int32))) (aa_rV (fun V1 =>
                  ∃ (q2 : Nat), ((V1 80 8)).toNatClampNeg = q2 + 1 ∧
                  ((V 82 (((V 80 6)).toNatClampNeg)) = (43 : Int32) →
                    aa_is ac_SK q2 6 ∧
                    ab_E G (ac_ST L xs) l (d + 1) ac_SK 70 [.ref q2, .int (20006 : Int32)] V1 (aa_rV (fun V3 =>
                      ab_J G (ac_ST L xs) l (d + 2) 43 7 [some (.ref 80), some (.int i1), some (.int (i2 + 1)), none] [] ac_SK V3 ac_SK K))) ∧
                  (¬ (V 82 (((V 80 6)).toNatClampNeg)) = (43 : Int32) →
                    aa_is ac_SK q2 6 ∧
                    ab_E G (ac_ST L xs) l (d + 1) ac_SK 70 [.ref q2, .int (20007 : Int32)] V1 (aa_rV (fun V3 =>
                      ab_J G (ac_ST L xs) l (d + 2) 43 7 [some (.ref 80), some (.int i1), some (.int (i2 + 1)), none] [] ac_SK V3 ac_SK K)))))) ∧
              (¬ (V 80 6) < (V 80 5) →
                ab_E G (ac_ST L xs) l (d + 1) ac_SK 44 [.ref 80, .int i1] (aa_up V 80 6 ((V 80 6) + (1 : Int32))) (aa_rV (fun V1 =>
                  ∃ (q2 : Nat), ((V1 80 8)).toNatClampNeg = q2 + 1 ∧
                  aa_is ac_SK q2 6 ∧
                  ab_E G (ac_ST L xs) l (d + 1) ac_SK 70 [.ref q2, .int (20007 : Int32)] V1 (aa_rV (fun V3 =>
                    ab_J G (ac_ST L xs) l (d + 2) 43 7 [some (.ref 80), some (.int i1), some (.int (i2 + 1)), none] [] ac_SK V3 ac_SK K)))))) ∧
            (¬ (V 80 7) = (-1 : Int32) →
              ab_E G (ac_ST L xs) l (d + 1) ac_SK 44 [.ref 80, .int i1] (aa_up V 80 6 ((V 80 6) + (1 : Int32))) (aa_rV (fun V1 =>
                ∃ (q2 : Nat), ((V1 80 8)).toNatClampNeg = q2 + 1 ∧
                aa_is ac_SK q2 6 ∧
                ab_E G (ac_ST L xs) l (d + 1) ac_SK 70 [.ref q2, .int (20007 : Int32)] V1 (aa_rV (fun V3 =>
                  ab_J G (ac_ST L xs) l (d + 2) 43 7 [some (.ref 80), some (.int i1), some (.int (i2 + 1)), none] [] ac_SK V3 ac_SK K)))))) ∧
          (¬ (V 82 (((V 80 6)).toNatClampNeg)) = (43 : Int32) →
            ((V 80 7) = (-1 : Int32) →
              ((V 80 6) < (V 80 5) →
                vp_in (V 80 6) 161 ∧
                ((V 82 (((V 80 6)).toNatClampNeg)) = (45 : Int32) →
                  ((V 80 7) = (-1 : Int32) →
                    ((V 80 6) < (V 80 5) →
                      vp_in (V 80 6) 161 ∧
                      ab_E G (ac_ST L xs) l (d + 1) ac_SK 44 [.ref 80, .int i1] (aa_up V 80 6 ((V 80 6) + (1 : Int32))) (aa_rV (fun V1 =>
                        ∃ (q2 : Nat), ((V1 80 8)).toNatClampNeg = q2 + 1 ∧
                        ((V 82 (((V 80 6)).toNatClampNeg)) = (43 : Int32) →
                          aa_is ac_SK q2 6 ∧
                          ab_E G (ac_ST L xs) l (d + 1) ac_SK 70 [.ref q2, .int (20006 : Int32)] V1 (aa_rV (fun V3 =>
                            ab_J G (ac_ST L xs) l (d + 2) 43 7 [some (.ref 80), some (.int i1), some (.int (i2 + 1)), none] [] ac_SK V3 ac_SK K))) ∧
                        (¬ (V 82 (((V 80 6)).toNatClampNeg)) = (43 : Int32) →
                          aa_is ac_SK q2 6 ∧
                          ab_E G (ac_ST L xs) l (d + 1) ac_SK 70 [.ref q2, .int (20007 : Int32)] V1 (aa_rV (fun V3 =>
                            ab_J G (ac_ST L xs) l (d + 2) 43 7 [some (.ref 80), some (.int i1), some (.int (i2 + 1)), none] [] ac_SK V3 ac_SK K)))))) ∧
                    (¬ (V 80 6) < (V 80 5) →
                      ab_E G (ac_ST L xs) l (d + 1) ac_SK 44 [.ref 80, .int i1] (aa_up V 80 6 ((V 80 6) + (1 : Int32))) (aa_rV (fun V1 =>
                        ∃ (q2 : Nat), ((V1 80 8)).toNatClampNeg = q2 + 1 ∧
                        aa_is ac_SK q2 6 ∧
                        ab_E G (ac_ST L xs) l (d + 1) ac_SK 70 [.ref q2, .int (20007 : Int32)] V1 (aa_rV (fun V3 =>
                          ab_J G (ac_ST L xs) l (d + 2) 43 7 [some (.ref 80), some (.int i1), some (.int (i2 + 1)), none] [] ac_SK V3 ac_SK K)))))) ∧
                  (¬ (V 80 7) = (-1 : Int32) →
                    ab_E G (ac_ST L xs) l (d + 1) ac_SK 44 [.ref 80, .int i1] (aa_up V 80 6 ((V 80 6) + (1 : Int32))) (aa_rV (fun V1 =>
                      ∃ (q2 : Nat), ((V1 80 8)).toNatClampNeg = q2 + 1 ∧
                      aa_is ac_SK q2 6 ∧
                      ab_E G (ac_ST L xs) l (d + 1) ac_SK 70 [.ref q2, .int (20007 : Int32)] V1 (aa_rV (fun V3 =>
                        ab_J G (ac_ST L xs) l (d + 2) 43 7 [some (.ref 80), some (.int i1), some (.int (i2 + 1)), none] [] ac_SK V3 ac_SK K)))))) ∧
                (¬ (V 82 (((V 80 6)).toNatClampNeg)) = (45 : Int32) →
                  K none V)) ∧
              (¬ (V 80 6) < (V 80 5) →
                K none V)) ∧
            (¬ (V 80 7) = (-1 : Int32) →
              K none V))) ∧
        (¬ (V 80 6) < (V 80 5) →
          ((V 80 7) = (-1 : Int32) →
            ((V 80 6) < (V 80 5) →
              vp_in (V 80 6) 161 ∧
              ((V 82 (((V 80 6)).toNatClampNeg)) = (45 : Int32) →
                ((V 80 7) = (-1 : Int32) →
                  ((V 80 6) < (V 80 5) →
                    vp_in (V 80 6) 161 ∧
                    ab_E G (ac_ST L xs) l (d + 1) ac_SK 44 [.ref 80, .int i1] (aa_up V 80 6 ((V 80 6) + (1 : Int32))) (aa_rV (fun V1 =>
                      ∃ (q2 : Nat), ((V1 80 8)).toNatClampNeg = q2 + 1 ∧
                      ((V 82 (((V 80 6)).toNatClampNeg)) = (43 : Int32) →
                        aa_is ac_SK q2 6 ∧
                        ab_E G (ac_ST L xs) l (d + 1) ac_SK 70 [.ref q2, .int (20006 : Int32)] V1 (aa_rV (fun V3 =>
                          ab_J G (ac_ST L xs) l (d + 2) 43 7 [some (.ref 80), some (.int i1), some (.int (i2 + 1)), none] [] ac_SK V3 ac_SK K))) ∧
                      (¬ (V 82 (((V 80 6)).toNatClampNeg)) = (43 : Int32) →
                        aa_is ac_SK q2 6 ∧
                        ab_E G (ac_ST L xs) l (d + 1) ac_SK 70 [.ref q2, .int (20007 : Int32)] V1 (aa_rV (fun V3 =>
                          ab_J G (ac_ST L xs) l (d + 2) 43 7 [some (.ref 80), some (.int i1), some (.int (i2 + 1)), none] [] ac_SK V3 ac_SK K)))))) ∧
                  (¬ (V 80 6) < (V 80 5) →
                    ab_E G (ac_ST L xs) l (d + 1) ac_SK 44 [.ref 80, .int i1] (aa_up V 80 6 ((V 80 6) + (1 : Int32))) (aa_rV (fun V1 =>
                      ∃ (q2 : Nat), ((V1 80 8)).toNatClampNeg = q2 + 1 ∧
                      aa_is ac_SK q2 6 ∧
                      ab_E G (ac_ST L xs) l (d + 1) ac_SK 70 [.ref q2, .int (20007 : Int32)] V1 (aa_rV (fun V3 =>
                        ab_J G (ac_ST L xs) l (d + 2) 43 7 [some (.ref 80), some (.int i1), some (.int (i2 + 1)), none] [] ac_SK V3 ac_SK K)))))) ∧
                (¬ (V 80 7) = (-1 : Int32) →
                  ab_E G (ac_ST L xs) l (d + 1) ac_SK 44 [.ref 80, .int i1] (aa_up V 80 6 ((V 80 6) + (1 : Int32))) (aa_rV (fun V1 =>
                    ∃ (q2 : Nat), ((V1 80 8)).toNatClampNeg = q2 + 1 ∧
                    aa_is ac_SK q2 6 ∧
                    ab_E G (ac_ST L xs) l (d + 1) ac_SK 70 [.ref q2, .int (20007 : Int32)] V1 (aa_rV (fun V3 =>
                      ab_J G (ac_ST L xs) l (d + 2) 43 7 [some (.ref 80), some (.int i1), some (.int (i2 + 1)), none] [] ac_SK V3 ac_SK K)))))) ∧
              (¬ (V 82 (((V 80 6)).toNatClampNeg)) = (45 : Int32) →
                K none V)) ∧
            (¬ (V 80 6) < (V 80 5) →
              K none V)) ∧
          (¬ (V 80 7) = (-1 : Int32) →
            K none V))) ∧
      (¬ (V 80 7) = (-1 : Int32) →
        ((V 80 7) = (-1 : Int32) →
          ((V 80 6) < (V 80 5) →
            vp_in (V 80 6) 161 ∧
            ((V 82 (((V 80 6)).toNatClampNeg)) = (45 : Int32) →
              ((V 80 7) = (-1 : Int32) →
                ((V 80 6) < (V 80 5) →
                  vp_in (V 80 6) 161 ∧
                  ab_E G (ac_ST L xs) l (d + 1) ac_SK 44 [.ref 80, .int i1] (aa_up V 80 6 ((V 80 6) + (1 : Int32))) (aa_rV (fun V1 =>
                    ∃ (q2 : Nat), ((V1 80 8)).toNatClampNeg = q2 + 1 ∧
                    ((V 82 (((V 80 6)).toNatClampNeg)) = (43 : Int32) →
                      aa_is ac_SK q2 6 ∧
                      ab_E G (ac_ST L xs) l (d + 1) ac_SK 70 [.ref q2, .int (20006 : Int32)] V1 (aa_rV (fun V3 =>
                        ab_J G (ac_ST L xs) l (d + 2) 43 7 [some (.ref 80), some (.int i1), some (.int (i2 + 1)), none] [] ac_SK V3 ac_SK K))) ∧
                    (¬ (V 82 (((V 80 6)).toNatClampNeg)) = (43 : Int32) →
                      aa_is ac_SK q2 6 ∧
                      ab_E G (ac_ST L xs) l (d + 1) ac_SK 70 [.ref q2, .int (20007 : Int32)] V1 (aa_rV (fun V3 =>
                        ab_J G (ac_ST L xs) l (d + 2) 43 7 [some (.ref 80), some (.int i1), some (.int (i2 + 1)), none] [] ac_SK V3 ac_SK K)))))) ∧
                (¬ (V 80 6) < (V 80 5) →
                  ab_E G (ac_ST L xs) l (d + 1) ac_SK 44 [.ref 80, .int i1] (aa_up V 80 6 ((V 80 6) + (1 : Int32))) (aa_rV (fun V1 =>
                    ∃ (q2 : Nat), ((V1 80 8)).toNatClampNeg = q2 + 1 ∧
                    aa_is ac_SK q2 6 ∧
                    ab_E G (ac_ST L xs) l (d + 1) ac_SK 70 [.ref q2, .int (20007 : Int32)] V1 (aa_rV (fun V3 =>
                      ab_J G (ac_ST L xs) l (d + 2) 43 7 [some (.ref 80), some (.int i1), some (.int (i2 + 1)), none] [] ac_SK V3 ac_SK K)))))) ∧
              (¬ (V 80 7) = (-1 : Int32) →
                ab_E G (ac_ST L xs) l (d + 1) ac_SK 44 [.ref 80, .int i1] (aa_up V 80 6 ((V 80 6) + (1 : Int32))) (aa_rV (fun V1 =>
                  ∃ (q2 : Nat), ((V1 80 8)).toNatClampNeg = q2 + 1 ∧
                  aa_is ac_SK q2 6 ∧
                  ab_E G (ac_ST L xs) l (d + 1) ac_SK 70 [.ref q2, .int (20007 : Int32)] V1 (aa_rV (fun V3 =>
                    ab_J G (ac_ST L xs) l (d + 2) 43 7 [some (.ref 80), some (.int i1), some (.int (i2 + 1)), none] [] ac_SK V3 ac_SK K)))))) ∧
            (¬ (V 82 (((V 80 6)).toNatClampNeg)) = (45 : Int32) →
              K none V)) ∧
          (¬ (V 80 6) < (V 80 5) →
            K none V)) ∧
        (¬ (V 80 7) = (-1 : Int32) →
          K none V))) ∧
    (¬ i2 < (160 : Int32) →
      K none V)) :
    ab_J G (ac_ST L xs) l (d + 2) 43 7 [some (.ref 80), some (.int i1), some (.int i2), none] [] ac_SK V ac_SK K := by
  refine vc_43_7 ?_
  refine ⟨fun c => ?_, fun c => ?_⟩
  · replace h := h.1 c
    refine vc_37_0 ?_
    refine ⟨fun c => ?_, fun c => ?_⟩
    · replace h := h.1 c
      refine ⟨fun c => ?_, fun c => ?_⟩
      · replace h := h.1 c
        refine ⟨h.1, ?_⟩
        replace h := h.2
        refine ⟨fun c => ?_, fun c => ?_⟩
        · replace h := h.1 c
          refine vc_37_0 ?_
          refine ⟨fun c => ?_, fun c => ?_⟩
          · replace h := h.1 c
            refine ⟨fun c => ?_, fun c => ?_⟩
            · replace h := h.1 c
              refine ⟨h.1, ?_⟩
              replace h := h.2
              exact h
            · replace h := h.2 c
              refine ab_EmV (fun V1 h => ?_) h
              obtain ⟨q2, e2_0, h⟩ := h
              refine ⟨q2, e2_0, ?_⟩
              refine ⟨fun q => absurd q (by decide), fun q => ?_⟩
              exact h
          · replace h := h.2 c
            refine ab_EmV (fun V1 h => ?_) h
            obtain ⟨q2, e2_0, h⟩ := h
            refine ⟨q2, e2_0, ?_⟩
            refine ⟨fun q => absurd q (by decide), fun q => ?_⟩
            exact h
        · replace h := h.2 c
          refine vc_37_0 ?_
          refine ⟨fun c => ?_, fun c => ?_⟩
          · replace h := h.1 c
            refine ⟨fun c => ?_, fun c => ?_⟩
            · replace h := h.1 c
              refine ⟨h.1, ?_⟩
              replace h := h.2
              refine ⟨fun c => ?_, fun c => ?_⟩
              · replace h := h.1 c
                refine vc_37_0 ?_
                refine ⟨fun c => ?_, fun c => ?_⟩
                · replace h := h.1 c
                  refine ⟨fun c => ?_, fun c => ?_⟩
                  · replace h := h.1 c
                    refine ⟨h.1, ?_⟩
                    replace h := h.2
                    exact h
                  · replace h := h.2 c
                    refine ab_EmV (fun V1 h => ?_) h
                    obtain ⟨q2, e2_0, h⟩ := h
                    refine ⟨q2, e2_0, ?_⟩
                    refine ⟨fun q => absurd q (by decide), fun q => ?_⟩
                    exact h
                · replace h := h.2 c
                  refine ab_EmV (fun V1 h => ?_) h
                  obtain ⟨q2, e2_0, h⟩ := h
                  refine ⟨q2, e2_0, ?_⟩
                  refine ⟨fun q => absurd q (by decide), fun q => ?_⟩
                  exact h
              · replace h := h.2 c
                exact h
            · replace h := h.2 c
              refine ⟨fun q => absurd q (by decide), fun q => ?_⟩
              exact h
          · replace h := h.2 c
            refine ⟨fun q => absurd q (by decide), fun q => ?_⟩
            exact h
      · replace h := h.2 c
        refine ⟨fun q => absurd q (by decide), fun q => ?_⟩
        refine vc_37_0 ?_
        refine ⟨fun c => ?_, fun c => ?_⟩
        · replace h := h.1 c
          refine ⟨fun c => ?_, fun c => ?_⟩
          · replace h := h.1 c
            refine ⟨h.1, ?_⟩
            replace h := h.2
            refine ⟨fun c => ?_, fun c => ?_⟩
            · replace h := h.1 c
              refine vc_37_0 ?_
              refine ⟨fun c => ?_, fun c => ?_⟩
              · replace h := h.1 c
                refine ⟨fun c => ?_, fun c => ?_⟩
                · replace h := h.1 c
                  refine ⟨h.1, ?_⟩
                  replace h := h.2
                  exact h
                · replace h := h.2 c
                  refine ab_EmV (fun V1 h => ?_) h
                  obtain ⟨q2, e2_0, h⟩ := h
                  refine ⟨q2, e2_0, ?_⟩
                  refine ⟨fun q => absurd q (by decide), fun q => ?_⟩
                  exact h
              · replace h := h.2 c
                refine ab_EmV (fun V1 h => ?_) h
                obtain ⟨q2, e2_0, h⟩ := h
                refine ⟨q2, e2_0, ?_⟩
                refine ⟨fun q => absurd q (by decide), fun q => ?_⟩
                exact h
            · replace h := h.2 c
              exact h
          · replace h := h.2 c
            refine ⟨fun q => absurd q (by decide), fun q => ?_⟩
            exact h
        · replace h := h.2 c
          refine ⟨fun q => absurd q (by decide), fun q => ?_⟩
          exact h
    · replace h := h.2 c
      refine ⟨fun q => absurd q (by decide), fun q => ?_⟩
      refine vc_37_0 ?_
      refine ⟨fun c => ?_, fun c => ?_⟩
      · replace h := h.1 c
        refine ⟨fun c => ?_, fun c => ?_⟩
        · replace h := h.1 c
          refine ⟨h.1, ?_⟩
          replace h := h.2
          refine ⟨fun c => ?_, fun c => ?_⟩
          · replace h := h.1 c
            refine vc_37_0 ?_
            refine ⟨fun c => ?_, fun c => ?_⟩
            · replace h := h.1 c
              refine ⟨fun c => ?_, fun c => ?_⟩
              · replace h := h.1 c
                refine ⟨h.1, ?_⟩
                replace h := h.2
                exact h
              · replace h := h.2 c
                refine ab_EmV (fun V1 h => ?_) h
                obtain ⟨q2, e2_0, h⟩ := h
                refine ⟨q2, e2_0, ?_⟩
                refine ⟨fun q => absurd q (by decide), fun q => ?_⟩
                exact h
            · replace h := h.2 c
              refine ab_EmV (fun V1 h => ?_) h
              obtain ⟨q2, e2_0, h⟩ := h
              refine ⟨q2, e2_0, ?_⟩
              refine ⟨fun q => absurd q (by decide), fun q => ?_⟩
              exact h
          · replace h := h.2 c
            exact h
        · replace h := h.2 c
          refine ⟨fun q => absurd q (by decide), fun q => ?_⟩
          exact h
      · replace h := h.2 c
        refine ⟨fun q => absurd q (by decide), fun q => ?_⟩
        exact h
  · replace h := h.2 c
    exact h

set_option maxRecDepth 20000 in
/-- FrameCounty$Reader readTerm(I)V, from 0 -/
theorem iv_44_0 {G : ab_G} {L : Nat} {xs : Nat → Int32} {l : Launch} {d : Nat} {i1 : Int32} {V : aa_V} {K : aa_K} (h :
    ab_E G (ac_ST L xs) l (d + 1) ac_SK 45 [.ref 80, .int i1] V (aa_rV (fun V1 =>
      ab_J G (ac_ST L xs) l (d + 2) 44 7 [some (.ref 80), some (.int i1), some (.int (0 : Int32))] [] ac_SK V1 ac_SK K))) :
    ab_E G (ac_ST L xs) l (d + 2) ac_SK 44 [.ref 80, .int i1] V K := by
  refine vc_44_0 ?_
  exact h

set_option maxRecDepth 20000 in
/-- FrameCounty$Reader readTerm(I)V, from 7 -/
theorem iv_44_7 {G : ab_G} {L : Nat} {xs : Nat → Int32} {l : Launch} {d : Nat} {i1 : Int32} {i2 : Int32} {V : aa_V} {K : aa_K} (h :
    (i2 < (160 : Int32) →
      ((V 80 7) = (-1 : Int32) →
        ((V 80 6) < (V 80 5) →
          vp_in (V 80 6) 161 ∧
          ((V 82 (((V 80 6)).toNatClampNeg)) = (42 : Int32) →
            ab_E G (ac_ST L xs) l (d + 1) ac_SK 45 [.ref 80, .int i1] (aa_up V 80 6 ((V 80 6) + (1 : Int32))) (aa_rV (fun V1 =>
              ∃ (q2 : Nat), ((V1 80 8)).toNatClampNeg = q2 + 1 ∧
              aa_is ac_SK q2 6 ∧
              ab_E G (ac_ST L xs) l (d + 1) ac_SK 70 [.ref q2, .int (20008 : Int32)] V1 (aa_rV (fun V3 =>
                ab_J G (ac_ST L xs) l (d + 2) 44 7 [some (.ref 80), some (.int i1), some (.int (i2 + 1))] [] ac_SK V3 ac_SK K))))) ∧
          (¬ (V 82 (((V 80 6)).toNatClampNeg)) = (42 : Int32) →
            K none V)) ∧
        (¬ (V 80 6) < (V 80 5) →
          K none V)) ∧
      (¬ (V 80 7) = (-1 : Int32) →
        K none V)) ∧
    (¬ i2 < (160 : Int32) →
      K none V)) :
    ab_J G (ac_ST L xs) l (d + 2) 44 7 [some (.ref 80), some (.int i1), some (.int i2)] [] ac_SK V ac_SK K := by
  refine vc_44_7 ?_
  refine ⟨fun c => ?_, fun c => ?_⟩
  · replace h := h.1 c
    refine vc_37_0 ?_
    refine ⟨fun c => ?_, fun c => ?_⟩
    · replace h := h.1 c
      refine ⟨fun c => ?_, fun c => ?_⟩
      · replace h := h.1 c
        refine ⟨h.1, ?_⟩
        replace h := h.2
        exact h
      · replace h := h.2 c
        refine ⟨fun q => absurd q (by decide), fun q => ?_⟩
        exact h
    · replace h := h.2 c
      refine ⟨fun q => absurd q (by decide), fun q => ?_⟩
      exact h
  · replace h := h.2 c
    exact h

set_option maxRecDepth 20000 in
/-- FrameCounty$Reader readOne(I)V, from 0 -/
theorem iv_45_0 {G : ab_G} {L : Nat} {xs : Nat → Int32} {l : Launch} {d : Nat} {i1 : Int32} {V : aa_V} {K : aa_K} (h :
    ((V 80 7) = (-1 : Int32) →
      ((V 80 6) < (V 80 5) →
        vp_in (V 80 6) 161 ∧
        ((V 82 (((V 80 6)).toNatClampNeg)) = (258 : Int32) →
          ∃ (q1 : Nat), ((V 80 8)).toNatClampNeg = q1 + 1 ∧
          vp_in (V 80 6) 161 ∧
          aa_is ac_SK q1 6 ∧
          ab_E G (ac_ST L xs) l (d + 1) ac_SK 70 [.ref q1, .int (V 84 (((V 80 6)).toNatClampNeg))] V (aa_rV (fun V2 =>
            K none (aa_up V2 80 6 ((V2 80 6) + (1 : Int32)))))) ∧
        (¬ (V 82 (((V 80 6)).toNatClampNeg)) = (258 : Int32) →
          ((V 82 (((V 80 6)).toNatClampNeg)) < (300 : Int32) →
            ((V 82 (((V 80 6)).toNatClampNeg)) = (45 : Int32) →
              ab_E G (ac_ST L xs) l (d + 1) ac_SK 46 [.ref 80, .int i1] V (aa_rI (fun x1 V1 =>
                (x1 = 0 →
                  K none V1) ∧
                (¬ x1 = 0 →
                  ab_E G (ac_ST L xs) l (d + 1) ac_SK 45 [.ref 80, .int (i1 + (1 : Int32))] V1 (aa_rV (fun V2 =>
                    ∃ (q3 : Nat), ((V2 80 8)).toNatClampNeg = q3 + 1 ∧
                    aa_is ac_SK q3 6 ∧
                    ab_E G (ac_ST L xs) l (d + 1) ac_SK 70 [.ref q3, .int (20001 : Int32)] V2 (aa_rV (fun V4 =>
                      K none V4)))))))) ∧
            (¬ (V 82 (((V 80 6)).toNatClampNeg)) = (45 : Int32) →
              ((V 82 (((V 80 6)).toNatClampNeg)) = (40 : Int32) →
                ab_E G (ac_ST L xs) l (d + 1) ac_SK 46 [.ref 80, .int i1] V (aa_rI (fun x1 V1 =>
                  (x1 = 0 →
                    K none V1) ∧
                  (¬ x1 = 0 →
                    ab_E G (ac_ST L xs) l (d + 1) ac_SK 40 [.ref 80, .int (i1 + (1 : Int32))] V1 (aa_rV (fun V2 =>
                      ab_E G (ac_ST L xs) l (d + 1) ac_SK 39 [.ref 80, .int (41 : Int32)] V2 (aa_rV (fun V3 =>
                        K none V3)))))))) ∧
              (¬ (V 82 (((V 80 6)).toNatClampNeg)) = (40 : Int32) →
                ((V 80 7) = (-1 : Int32) →
                  ((V 80 6) < (V 80 5) →
                    vp_in (V 80 6) 161 ∧
                    K none (aa_up V 80 7 (V 83 (((V 80 6)).toNatClampNeg)))) ∧
                  (¬ (V 80 6) < (V 80 5) →
                    K none V)) ∧
                (¬ (V 80 7) = (-1 : Int32) →
                  K none V)))) ∧
          (¬ (V 82 (((V 80 6)).toNatClampNeg)) < (300 : Int32) →
            ((305 : Int32) < (V 82 (((V 80 6)).toNatClampNeg)) →
              ((V 82 (((V 80 6)).toNatClampNeg)) = (45 : Int32) →
                ab_E G (ac_ST L xs) l (d + 1) ac_SK 46 [.ref 80, .int i1] V (aa_rI (fun x1 V1 =>
                  (x1 = 0 →
                    K none V1) ∧
                  (¬ x1 = 0 →
                    ab_E G (ac_ST L xs) l (d + 1) ac_SK 45 [.ref 80, .int (i1 + (1 : Int32))] V1 (aa_rV (fun V2 =>
                      ∃ (q3 : Nat), ((V2 80 8)).toNatClampNeg = q3 + 1 ∧
                      aa_is ac_SK q3 6 ∧
                      ab_E G (ac_ST L xs) l (d + 1) ac_SK 70 [.ref q3, .int (20001 : Int32)] V2 (aa_rV (fun V4 =>
                        K none V4)))))))) ∧
              (¬ (V 82 (((V 80 6)).toNatClampNeg)) = (45 : Int32) →
                ((V 82 (((V 80 6)).toNatClampNeg)) = (40 : Int32) →
                  ab_E G (ac_ST L xs) l (d + 1) ac_SK 46 [.ref 80, .int i1] V (aa_rI (fun x1 V1 =>
                    (x1 = 0 →
                      K none V1) ∧
                    (¬ x1 = 0 →
                      ab_E G (ac_ST L xs) l (d + 1) ac_SK 40 [.ref 80, .int (i1 + (1 : Int32))] V1 (aa_rV (fun V2 =>
                        ab_E G (ac_ST L xs) l (d + 1) ac_SK 39 [.ref 80, .int (41 : Int32)] V2 (aa_rV (fun V3 =>
                          K none V3)))))))) ∧
                (¬ (V 82 (((V 80 6)).toNatClampNeg)) = (40 : Int32) →
                  ((V 80 7) = (-1 : Int32) →
                    ((V 80 6) < (V 80 5) →
                      vp_in (V 80 6) 161 ∧
                      K none (aa_up V 80 7 (V 83 (((V 80 6)).toNatClampNeg)))) ∧
                    (¬ (V 80 6) < (V 80 5) →
                      K none V)) ∧
                  (¬ (V 80 7) = (-1 : Int32) →
                    K none V)))) ∧
            (¬ (305 : Int32) < (V 82 (((V 80 6)).toNatClampNeg)) →
              ∃ (q1 : Nat), ((V 80 8)).toNatClampNeg = q1 + 1 ∧
              aa_is ac_SK q1 6 ∧
              ab_E G (ac_ST L xs) l (d + 1) ac_SK 71 [.ref q1, .int ((V 82 (((V 80 6)).toNatClampNeg)) - (300 : Int32))] V (aa_rV (fun V2 =>
                K none (aa_up V2 80 6 ((V2 80 6) + (1 : Int32))))))))) ∧
      (¬ (V 80 6) < (V 80 5) →
        ((V 80 7) = (-1 : Int32) →
          ((V 80 6) < (V 80 5) →
            vp_in (V 80 6) 161 ∧
            K none (aa_up V 80 7 (V 83 (((V 80 6)).toNatClampNeg)))) ∧
          (¬ (V 80 6) < (V 80 5) →
            K none V)) ∧
        (¬ (V 80 7) = (-1 : Int32) →
          K none V))) ∧
    (¬ (V 80 7) = (-1 : Int32) →
      ((V 80 7) = (-1 : Int32) →
        ((V 80 6) < (V 80 5) →
          vp_in (V 80 6) 161 ∧
          K none (aa_up V 80 7 (V 83 (((V 80 6)).toNatClampNeg)))) ∧
        (¬ (V 80 6) < (V 80 5) →
          K none V)) ∧
      (¬ (V 80 7) = (-1 : Int32) →
        K none V))) :
    ab_E G (ac_ST L xs) l (d + 2) ac_SK 45 [.ref 80, .int i1] V K := by
  refine vc_45_0 ?_
  refine vc_37_0 ?_
  refine ⟨fun c => ?_, fun c => ?_⟩
  · replace h := h.1 c
    refine ⟨fun c => ?_, fun c => ?_⟩
    · replace h := h.1 c
      refine ⟨h.1, ?_⟩
      replace h := h.2
      refine ⟨fun c => ?_, fun c => ?_⟩
      · replace h := h.1 c
        obtain ⟨q1, e1_0, h⟩ := h
        refine ⟨q1, e1_0, ?_⟩
        refine ⟨h.1, ?_⟩
        replace h := h.2
        exact h
      · replace h := h.2 c
        refine vc_182_0 ?_
        refine ⟨fun c => ?_, fun c => ?_⟩
        · replace h := h.1 c
          refine ⟨Or.inl rfl, ?_⟩
          refine ⟨fun q => ?_, fun q => absurd rfl q⟩
          refine ⟨fun c => ?_, fun c => ?_⟩
          · replace h := h.1 c
            exact h
          · replace h := h.2 c
            refine ⟨fun c => ?_, fun c => ?_⟩
            · replace h := h.1 c
              exact h
            · replace h := h.2 c
              refine vc_38_0 ?_
              refine ⟨fun c => ?_, fun c => ?_⟩
              · replace h := h.1 c
                refine ⟨fun c => ?_, fun c => ?_⟩
                · replace h := h.1 c
                  refine ⟨h.1, ?_⟩
                  replace h := h.2
                  exact h
                · replace h := h.2 c
                  exact h
              · replace h := h.2 c
                exact h
        · replace h := h.2 c
          refine ⟨fun c => ?_, fun c => ?_⟩
          · replace h := h.1 c
            refine ⟨Or.inl rfl, ?_⟩
            refine ⟨fun q => ?_, fun q => absurd rfl q⟩
            refine ⟨fun c => ?_, fun c => ?_⟩
            · replace h := h.1 c
              exact h
            · replace h := h.2 c
              refine ⟨fun c => ?_, fun c => ?_⟩
              · replace h := h.1 c
                exact h
              · replace h := h.2 c
                refine vc_38_0 ?_
                refine ⟨fun c => ?_, fun c => ?_⟩
                · replace h := h.1 c
                  refine ⟨fun c => ?_, fun c => ?_⟩
                  · replace h := h.1 c
                    refine ⟨h.1, ?_⟩
                    replace h := h.2
                    exact h
                  · replace h := h.2 c
                    exact h
                · replace h := h.2 c
                  exact h
          · replace h := h.2 c
            refine ⟨Or.inr rfl, ?_⟩
            refine ⟨fun q => absurd q (by decide), fun q => ?_⟩
            obtain ⟨q1, e1_0, h⟩ := h
            refine ⟨q1, e1_0, ?_⟩
            exact h
    · replace h := h.2 c
      refine ⟨fun q => absurd q (by decide), fun q => ?_⟩
      refine vc_182_0 ?_
      refine ⟨fun q => ?_, fun q => absurd (by decide) q⟩
      refine ⟨Or.inl rfl, ?_⟩
      refine ⟨fun q => ?_, fun q => absurd rfl q⟩
      refine ⟨fun q => absurd q (by decide), fun q => ?_⟩
      refine ⟨fun q => absurd q (by decide), fun q => ?_⟩
      refine vc_38_0 ?_
      refine ⟨fun c => ?_, fun c => ?_⟩
      · replace h := h.1 c
        refine ⟨fun c => ?_, fun c => ?_⟩
        · replace h := h.1 c
          refine ⟨h.1, ?_⟩
          replace h := h.2
          exact h
        · replace h := h.2 c
          exact h
      · replace h := h.2 c
        exact h
  · replace h := h.2 c
    refine ⟨fun q => absurd q (by decide), fun q => ?_⟩
    refine vc_182_0 ?_
    refine ⟨fun q => ?_, fun q => absurd (by decide) q⟩
    refine ⟨Or.inl rfl, ?_⟩
    refine ⟨fun q => ?_, fun q => absurd rfl q⟩
    refine ⟨fun q => absurd q (by decide), fun q => ?_⟩
    refine ⟨fun q => absurd q (by decide), fun q => ?_⟩
    refine vc_38_0 ?_
    refine ⟨fun c => ?_, fun c => ?_⟩
    · replace h := h.1 c
      refine ⟨fun c => ?_, fun c => ?_⟩
      · replace h := h.1 c
        refine ⟨h.1, ?_⟩
        replace h := h.2
        exact h
      · replace h := h.2 c
        exact h
    · replace h := h.2 c
      exact h

set_option maxRecDepth 20000 in
/-- FrameCounty$Reader mayOpen(I)Z, from 0 -/
theorem iv_46_0 {G : ab_G} {L : Nat} {xs : Nat → Int32} {l : Launch} {d : Nat} {i1 : Int32} {V : aa_V} {K : aa_K} (h :
    (i1 < (5 : Int32) →
      K (some (.int (1 : Int32))) (aa_up V 80 6 ((V 80 6) + (1 : Int32)))) ∧
    (¬ i1 < (5 : Int32) →
      ((V 80 7) = (-1 : Int32) →
        ((V 80 6) < (V 80 5) →
          vp_in (V 80 6) 161 ∧
          K (some (.int (0 : Int32))) (aa_up V 80 7 (V 83 (((V 80 6)).toNatClampNeg)))) ∧
        (¬ (V 80 6) < (V 80 5) →
          K (some (.int (0 : Int32))) V)) ∧
      (¬ (V 80 7) = (-1 : Int32) →
        K (some (.int (0 : Int32))) V))) :
    ab_E G (ac_ST L xs) l (d + 2) ac_SK 46 [.ref 80, .int i1] V K := by
  refine vc_46_0 ?_
  refine ⟨fun c => ?_, fun c => ?_⟩
  · replace h := h.1 c
    exact ⟨Or.inr rfl, h⟩
  · replace h := h.2 c
    refine vc_38_0 ?_
    refine ⟨fun c => ?_, fun c => ?_⟩
    · replace h := h.1 c
      refine ⟨fun c => ?_, fun c => ?_⟩
      · replace h := h.1 c
        refine ⟨h.1, ?_⟩
        replace h := h.2
        exact ⟨Or.inl rfl, h⟩
      · replace h := h.2 c
        exact ⟨Or.inl rfl, h⟩
    · replace h := h.2 c
      exact ⟨Or.inl rfl, h⟩

set_option maxRecDepth 20000 in
/-- FrameCounty$Roads canTake(I)Z, from 0 -/
theorem iv_49_0 {G : ab_G} {L : Nat} {xs : Nat → Int32} {l : Launch} {d : Nat} {i0 : Int32} {V : aa_V} {K : aa_K} (h :
    (i0 < (1 : Int32) →
      (i0 = (99 : Int32) →
        K (some (.int (1 : Int32))) V) ∧
      (¬ i0 = (99 : Int32) →
        K (some (.int (0 : Int32))) V)) ∧
    (¬ i0 < (1 : Int32) →
      ((9 : Int32) < i0 →
        (i0 = (99 : Int32) →
          K (some (.int (1 : Int32))) V) ∧
        (¬ i0 = (99 : Int32) →
          K (some (.int (0 : Int32))) V)) ∧
      (¬ (9 : Int32) < i0 →
        K (some (.int (1 : Int32))) V))) :
    ab_E G (ac_ST L xs) l (d + 2) ac_SK 49 [.int i0] V K := by
  refine vc_49_0 ?_
  refine vc_182_0 ?_
  refine ⟨fun c => ?_, fun c => ?_⟩
  · replace h := h.1 c
    refine ⟨Or.inl rfl, ?_⟩
    refine ⟨fun q => ?_, fun q => absurd rfl q⟩
    refine ⟨fun c => ?_, fun c => ?_⟩
    · replace h := h.1 c
      exact ⟨Or.inr rfl, h⟩
    · replace h := h.2 c
      exact ⟨Or.inl rfl, h⟩
  · replace h := h.2 c
    refine ⟨fun c => ?_, fun c => ?_⟩
    · replace h := h.1 c
      refine ⟨Or.inl rfl, ?_⟩
      refine ⟨fun q => ?_, fun q => absurd rfl q⟩
      refine ⟨fun c => ?_, fun c => ?_⟩
      · replace h := h.1 c
        exact ⟨Or.inr rfl, h⟩
      · replace h := h.2 c
        exact ⟨Or.inl rfl, h⟩
    · replace h := h.2 c
      refine ⟨Or.inr rfl, ?_⟩
      refine ⟨fun q => absurd q (by decide), fun q => ?_⟩
      exact ⟨Or.inr rfl, h⟩

set_option maxRecDepth 20000 in
/-- FrameCounty$Roads lay(III)I, from 0 -/
theorem iv_50_0 {G : ab_G} {L : Nat} {xs : Nat → Int32} {l : Launch} {d : Nat} {i1 : Int32} {i2 : Int32} {i3 : Int32} {V : aa_V} {K : aa_K} (h :
    ∃ (n1 : Nat) (rs1 : List Nat) (q1 : Nat), aa_sh ac_SK 2 = some (103, n1, rs1) ∧ vp_in i1 n1 ∧ aa_nth rs1 (i1).toNatClampNeg = q1 + 1 ∧
    ∃ (n2 : Nat) (rs2 : List Nat), aa_sh ac_SK q1 = some (100, n2, rs2) ∧ vp_in i2 n2 ∧
    ∃ (n3 : Nat) (rs3 : List Nat) (q3 : Nat), aa_sh ac_SK 2 = some (103, n3, rs3) ∧ vp_in i1 n3 ∧ aa_nth rs3 (i1).toNatClampNeg = q3 + 1 ∧
    ∃ (n4 : Nat) (rs4 : List Nat), aa_sh ac_SK q3 = some (100, n4, rs4) ∧ vp_in i2 n4 ∧
    ∃ (n5 : Nat) (rs5 : List Nat) (q5 : Nat), aa_sh ac_SK 2 = some (103, n5, rs5) ∧ vp_in i2 n5 ∧ aa_nth rs5 (i2).toNatClampNeg = q5 + 1 ∧
    ∃ (n6 : Nat) (rs6 : List Nat), aa_sh ac_SK q5 = some (100, n6, rs6) ∧ vp_in i1 n6 ∧
    ab_E G (ac_ST L xs) l (d + 1) ac_SK 54 [.ref 1, .ref 11, .int (0 : Int32)] (aa_up (aa_up V q3 ((i2).toNatClampNeg) i3) q5 ((i1).toNatClampNeg) i3) (aa_rV (fun V7 =>
      ab_E G (ac_ST L xs) l (d + 1) ac_SK 54 [.ref 1, .ref 20, .int (1 : Int32)] V7 (aa_rV (fun V8 =>
        K (some (.int (V q1 ((i2).toNatClampNeg)))) V8))))) :
    ab_E G (ac_ST L xs) l (d + 2) ac_SK 50 [.ref 1, .int i1, .int i2, .int i3] V K := by
  refine vc_50_0 ?_
  obtain ⟨n1, rs1, q1, e1_0, e1_1, e1_2, h⟩ := h
  refine ⟨n1, rs1, q1, e1_0, e1_1, e1_2, ?_⟩
  obtain ⟨n2, rs2, e2_0, e2_1, h⟩ := h
  refine ⟨n2, rs2, e2_0, e2_1, ?_⟩
  obtain ⟨n3, rs3, q3, e3_0, e3_1, e3_2, h⟩ := h
  refine ⟨n3, rs3, q3, e3_0, e3_1, e3_2, ?_⟩
  obtain ⟨n4, rs4, e4_0, e4_1, h⟩ := h
  refine ⟨n4, rs4, e4_0, e4_1, ?_⟩
  obtain ⟨n5, rs5, q5, e5_0, e5_1, e5_2, h⟩ := h
  refine ⟨n5, rs5, q5, e5_0, e5_1, e5_2, ?_⟩
  obtain ⟨n6, rs6, e6_0, e6_1, h⟩ := h
  refine ⟨n6, rs6, e6_0, e6_1, ?_⟩
  exact h

set_option maxRecDepth 20000 in
/-- FrameCounty$Roads distance(III)I, from 0 -/
theorem iv_51_0 {G : ab_G} {L : Nat} {xs : Nat → Int32} {l : Launch} {d : Nat} {i1 : Int32} {i2 : Int32} {i3 : Int32} {V : aa_V} {K : aa_K} (h :
    ¬ (30 : Int32) = 0 ∧
    ((i3 - i3 / (30 : Int32) * (30 : Int32)) < (8 : Int32) →
      ∃ (n1 : Nat) (rs1 : List Nat) (q1 : Nat), aa_sh ac_SK 20 = some (103, n1, rs1) ∧ vp_in i1 n1 ∧ aa_nth rs1 (i1).toNatClampNeg = q1 + 1 ∧
      ∃ (n2 : Nat) (rs2 : List Nat), aa_sh ac_SK q1 = some (100, n2, rs2) ∧ vp_in i2 n2 ∧
      K (some (.int (V q1 ((i2).toNatClampNeg)))) V) ∧
    (¬ (i3 - i3 / (30 : Int32) * (30 : Int32)) < (8 : Int32) →
      ((22 : Int32) < (i3 - i3 / (30 : Int32) * (30 : Int32)) →
        ∃ (n1 : Nat) (rs1 : List Nat) (q1 : Nat), aa_sh ac_SK 20 = some (103, n1, rs1) ∧ vp_in i1 n1 ∧ aa_nth rs1 (i1).toNatClampNeg = q1 + 1 ∧
        ∃ (n2 : Nat) (rs2 : List Nat), aa_sh ac_SK q1 = some (100, n2, rs2) ∧ vp_in i2 n2 ∧
        K (some (.int (V q1 ((i2).toNatClampNeg)))) V) ∧
      (¬ (22 : Int32) < (i3 - i3 / (30 : Int32) * (30 : Int32)) →
        ∃ (n1 : Nat) (rs1 : List Nat) (q1 : Nat), aa_sh ac_SK 11 = some (103, n1, rs1) ∧ vp_in i1 n1 ∧ aa_nth rs1 (i1).toNatClampNeg = q1 + 1 ∧
        ∃ (n2 : Nat) (rs2 : List Nat), aa_sh ac_SK q1 = some (100, n2, rs2) ∧ vp_in i2 n2 ∧
        K (some (.int (V q1 ((i2).toNatClampNeg)))) V))) :
    ab_E G (ac_ST L xs) l (d + 1) ac_SK 51 [.ref 1, .int i1, .int i2, .int i3] V K := by
  refine vc_51_0 ?_
  refine ⟨h.1, ?_⟩
  replace h := h.2
  exact h

set_option maxRecDepth 20000 in
/-- FrameCounty$Roads isReached(IIII)Z, from 0 -/
theorem iv_52_0 {G : ab_G} {L : Nat} {xs : Nat → Int32} {l : Launch} {d : Nat} {i1 : Int32} {i2 : Int32} {i3 : Int32} {i4 : Int32} {V : aa_V} {K : aa_K} (h :
    ab_E G (ac_ST L xs) l (d + 1) ac_SK 51 [.ref 1, .int i1, .int i2, .int i4] V (aa_rI (fun x1 V1 =>
      (x1 = (99 : Int32) →
        K (some (.int (0 : Int32))) V1) ∧
      (¬ x1 = (99 : Int32) →
        (i3 < x1 →
          K (some (.int (0 : Int32))) V1) ∧
        (¬ i3 < x1 →
          K (some (.int (1 : Int32))) V1))))) :
    ab_E G (ac_ST L xs) l (d + 2) ac_SK 52 [.ref 1, .int i1, .int i2, .int i3, .int i4] V K := by
  refine vc_52_0 ?_
  refine ab_EmI (fun x1 V1 h => ?_) h
  refine ⟨fun c => ?_, fun c => ?_⟩
  · replace h := h.1 c
    exact ⟨Or.inl rfl, h⟩
  · replace h := h.2 c
    refine ⟨fun c => ?_, fun c => ?_⟩
    · replace h := h.1 c
      exact ⟨Or.inl rfl, h⟩
    · replace h := h.2 c
      exact ⟨Or.inr rfl, h⟩

set_option maxRecDepth 20000 in
/-- FrameCounty$Roads isReachedFromOne(IIII)Z, from 0 -/
theorem iv_53_0 {G : ab_G} {L : Nat} {xs : Nat → Int32} {l : Launch} {d : Nat} {i1 : Int32} {i2 : Int32} {i3 : Int32} {i4 : Int32} {V : aa_V} {K : aa_K} (h :
    ab_J G (ac_ST L xs) l (d + 2) 53 3 [some (.ref 1), some (.int i1), some (.int i2), some (.int i3), some (.int i4), some (.int (0 : Int32))] [] ac_SK V ac_SK K) :
    ab_E G (ac_ST L xs) l (d + 2) ac_SK 53 [.ref 1, .int i1, .int i2, .int i3, .int i4] V K := by
  refine vc_53_0 ?_
  exact h

set_option maxRecDepth 20000 in
/-- FrameCounty$Roads isReachedFromOne(IIII)Z, from 3 -/
theorem iv_53_3 {G : ab_G} {L : Nat} {xs : Nat → Int32} {l : Launch} {d : Nat} {i1 : Int32} {i2 : Int32} {i3 : Int32} {i4 : Int32} {i5 : Int32} {V : aa_V} {K : aa_K} (h :
    (i5 < (8 : Int32) →
      (((i1 >>> (i5 &&& 31)) &&& (1 : Int32)) = (1 : Int32) →
        ab_E G (ac_ST L xs) l (d + 1) ac_SK 52 [.ref 1, .int i5, .int i2, .int i3, .int i4] V (aa_rI (fun x1 V1 =>
          (x1 = 0 →
            ab_J G (ac_ST L xs) l (d + 2) 53 3 [some (.ref 1), some (.int i1), some (.int i2), some (.int i3), some (.int i4), some (.int (i5 + 1))] [] ac_SK V1 ac_SK K) ∧
          (¬ x1 = 0 →
            K (some (.int (1 : Int32))) V1)))) ∧
      (¬ ((i1 >>> (i5 &&& 31)) &&& (1 : Int32)) = (1 : Int32) →
        ab_J G (ac_ST L xs) l (d + 2) 53 3 [some (.ref 1), some (.int i1), some (.int i2), some (.int i3), some (.int i4), some (.int (i5 + 1))] [] ac_SK V ac_SK K)) ∧
    (¬ i5 < (8 : Int32) →
      K (some (.int (0 : Int32))) V)) :
    ab_J G (ac_ST L xs) l (d + 2) 53 3 [some (.ref 1), some (.int i1), some (.int i2), some (.int i3), some (.int i4), some (.int i5)] [] ac_SK V ac_SK K := by
  refine vc_53_3 ?_
  refine ⟨fun c => ?_, fun c => ?_⟩
  · replace h := h.1 c
    refine ⟨fun c => ?_, fun c => ?_⟩
    · replace h := h.1 c
      refine ab_EmI (fun x1 V1 h => ?_) h
      refine ⟨fun c => ?_, fun c => ?_⟩
      · replace h := h.1 c
        exact h
      · replace h := h.2 c
        exact ⟨Or.inr rfl, h⟩
    · replace h := h.2 c
      exact h
  · replace h := h.2 c
    exact ⟨Or.inl rfl, h⟩

set_option maxRecDepth 20000 in
/-- FrameCounty$Roads measure([[II)V, from 0 -/
theorem iv_54_0 {G : ab_G} {L : Nat} {xs : Nat → Int32} {l : Launch} {d : Nat} {r1 : Nat} {i2 : Int32} {V : aa_V} {K : aa_K} (h :
    ab_J G (ac_ST L xs) l (d + 1) 54 2 [some (.ref 1), some (.ref r1), some (.int i2), some (.int (0 : Int32)), none, none] [] ac_SK V ac_SK K) :
    ab_E G (ac_ST L xs) l (d + 1) ac_SK 54 [.ref 1, .ref r1, .int i2] V K := by
  refine vc_54_0 ?_
  exact h

set_option maxRecDepth 20000 in
/-- FrameCounty$Roads measure([[II)V, from 2 -/
theorem iv_54_2 {G : ab_G} {L : Nat} {xs : Nat → Int32} {l : Launch} {d : Nat} {r1 : Nat} {i2 : Int32} {i3 : Int32} {V : aa_V} {K : aa_K} (h :
    (i3 < (8 : Int32) →
      ab_J G (ac_ST L xs) l (d + 1) 54 11 [some (.ref 1), some (.ref r1), some (.int i2), some (.int i3), some (.int (0 : Int32)), none] [] ac_SK V ac_SK K) ∧
    (¬ i3 < (8 : Int32) →
      ab_J G (ac_ST L xs) l (d + 1) 54 78 [none, some (.ref r1), none, some (.int (0 : Int32)), none, none] [] ac_SK V ac_SK K)) :
    ab_J G (ac_ST L xs) l (d + 1) 54 2 [some (.ref 1), some (.ref r1), some (.int i2), some (.int i3), none, none] [] ac_SK V ac_SK K := by
  refine vc_54_2 ?_
  exact h

set_option maxRecDepth 20000 in
/-- FrameCounty$Roads measure([[II)V, from 11 -/
theorem iv_54_11 {G : ab_G} {L : Nat} {xs : Nat → Int32} {l : Launch} {d : Nat} {r1 : Nat} {i2 : Int32} {i3 : Int32} {i4 : Int32} {V : aa_V} {K : aa_K} (h :
    (i4 < (8 : Int32) →
      ∃ (n1 : Nat) (rs1 : List Nat) (q1 : Nat), aa_sh ac_SK r1 = some (103, n1, rs1) ∧ vp_in i3 n1 ∧ aa_nth rs1 (i3).toNatClampNeg = q1 + 1 ∧
      (i3 = i4 →
        ∃ (n2 : Nat) (rs2 : List Nat), aa_sh ac_SK q1 = some (100, n2, rs2) ∧ vp_in i4 n2 ∧
        ab_J G (ac_ST L xs) l (d + 1) 54 11 [some (.ref 1), some (.ref r1), some (.int i2), some (.int i3), some (.int (i4 + 1)), none] [] ac_SK (aa_up V q1 ((i4).toNatClampNeg) (0 : Int32)) ac_SK K) ∧
      (¬ i3 = i4 →
        ∃ (n2 : Nat) (rs2 : List Nat) (q2 : Nat), aa_sh ac_SK 2 = some (103, n2, rs2) ∧ vp_in i3 n2 ∧ aa_nth rs2 (i3).toNatClampNeg = q2 + 1 ∧
        ∃ (n3 : Nat) (rs3 : List Nat), aa_sh ac_SK q2 = some (100, n3, rs3) ∧ vp_in i4 n3 ∧
        ((V q2 ((i4).toNatClampNeg)) = (99 : Int32) →
          ∃ (n4 : Nat) (rs4 : List Nat), aa_sh ac_SK q1 = some (100, n4, rs4) ∧ vp_in i4 n4 ∧
          ab_J G (ac_ST L xs) l (d + 1) 54 11 [some (.ref 1), some (.ref r1), some (.int i2), some (.int i3), some (.int (i4 + 1)), none] [] ac_SK (aa_up V q1 ((i4).toNatClampNeg) (99 : Int32)) ac_SK K) ∧
        (¬ (V q2 ((i4).toNatClampNeg)) = (99 : Int32) →
          ∃ (n4 : Nat) (rs4 : List Nat) (q4 : Nat), aa_sh ac_SK 2 = some (103, n4, rs4) ∧ vp_in i3 n4 ∧ aa_nth rs4 (i3).toNatClampNeg = q4 + 1 ∧
          ∃ (n5 : Nat) (rs5 : List Nat), aa_sh ac_SK q4 = some (100, n5, rs5) ∧ vp_in i4 n5 ∧
          ∃ (n6 : Nat) (rs6 : List Nat), aa_sh ac_SK q1 = some (100, n6, rs6) ∧ vp_in i4 n6 ∧
          ab_J G (ac_ST L xs) l (d + 1) 54 11 [some (.ref 1), some (.ref r1), some (.int i2), some (.int i3), some (.int (i4 + 1)), none] [] ac_SK (aa_up V q1 ((i4).toNatClampNeg) ((V q4 ((i4).toNatClampNeg)) + i2)) ac_SK K))) ∧
    (¬ i4 < (8 : Int32) →
      ab_J G (ac_ST L xs) l (d + 1) 54 2 [some (.ref 1), some (.ref r1), some (.int i2), some (.int (i3 + 1)), none, none] [] ac_SK V ac_SK K)) :
    ab_J G (ac_ST L xs) l (d + 1) 54 11 [some (.ref 1), some (.ref r1), some (.int i2), some (.int i3), some (.int i4), none] [] ac_SK V ac_SK K := by
  refine vc_54_11 ?_
  exact h

set_option maxRecDepth 20000 in
/-- FrameCounty$Roads measure([[II)V, from 78 -/
theorem iv_54_78 {G : ab_G} {L : Nat} {xs : Nat → Int32} {l : Launch} {d : Nat} {r1 : Nat} {i3 : Int32} {V : aa_V} {K : aa_K} (h :
    (i3 < (8 : Int32) →
      ab_J G (ac_ST L xs) l (d + 1) 54 87 [none, some (.ref r1), none, some (.int i3), some (.int (0 : Int32)), none] [] ac_SK V ac_SK K) ∧
    (¬ i3 < (8 : Int32) →
      K none V)) :
    ab_J G (ac_ST L xs) l (d + 1) 54 78 [none, some (.ref r1), none, some (.int i3), none, none] [] ac_SK V ac_SK K := by
  refine vc_54_78 ?_
  exact h

set_option maxRecDepth 20000 in
/-- FrameCounty$Roads measure([[II)V, from 87 -/
theorem iv_54_87 {G : ab_G} {L : Nat} {xs : Nat → Int32} {l : Launch} {d : Nat} {r1 : Nat} {i3 : Int32} {i4 : Int32} {V : aa_V} {K : aa_K} (h :
    (i4 < (8 : Int32) →
      ab_J G (ac_ST L xs) l (d + 1) 54 97 [none, some (.ref r1), none, some (.int i3), some (.int i4), some (.int (0 : Int32))] [] ac_SK V ac_SK K) ∧
    (¬ i4 < (8 : Int32) →
      ab_J G (ac_ST L xs) l (d + 1) 54 78 [none, some (.ref r1), none, some (.int (i3 + 1)), none, none] [] ac_SK V ac_SK K)) :
    ab_J G (ac_ST L xs) l (d + 1) 54 87 [none, some (.ref r1), none, some (.int i3), some (.int i4), none] [] ac_SK V ac_SK K := by
  refine vc_54_87 ?_
  exact h

set_option maxRecDepth 20000 in
/-- FrameCounty$Roads measure([[II)V, from 97 -/
theorem iv_54_97 {G : ab_G} {L : Nat} {xs : Nat → Int32} {l : Launch} {d : Nat} {r1 : Nat} {i3 : Int32} {i4 : Int32} {i5 : Int32} {V : aa_V} {K : aa_K} (h :
    (i5 < (8 : Int32) →
      ∃ (n1 : Nat) (rs1 : List Nat) (q1 : Nat), aa_sh ac_SK r1 = some (103, n1, rs1) ∧ vp_in i4 n1 ∧ aa_nth rs1 (i4).toNatClampNeg = q1 + 1 ∧
      ∃ (n2 : Nat) (rs2 : List Nat) (q2 : Nat), aa_sh ac_SK r1 = some (103, n2, rs2) ∧ vp_in i4 n2 ∧ aa_nth rs2 (i4).toNatClampNeg = q2 + 1 ∧
      ∃ (n3 : Nat) (rs3 : List Nat), aa_sh ac_SK q2 = some (100, n3, rs3) ∧ vp_in i5 n3 ∧
      ∃ (n4 : Nat) (rs4 : List Nat) (q4 : Nat), aa_sh ac_SK r1 = some (103, n4, rs4) ∧ vp_in i4 n4 ∧ aa_nth rs4 (i4).toNatClampNeg = q4 + 1 ∧
      ∃ (n5 : Nat) (rs5 : List Nat), aa_sh ac_SK q4 = some (100, n5, rs5) ∧ vp_in i3 n5 ∧
      ∃ (n6 : Nat) (rs6 : List Nat) (q6 : Nat), aa_sh ac_SK r1 = some (103, n6, rs6) ∧ vp_in i3 n6 ∧ aa_nth rs6 (i3).toNatClampNeg = q6 + 1 ∧
      ∃ (n7 : Nat) (rs7 : List Nat), aa_sh ac_SK q6 = some (100, n7, rs7) ∧ vp_in i5 n7 ∧
      ∃ (n8 : Nat) (rs8 : List Nat), aa_sh ac_SK q1 = some (100, n8, rs8) ∧ vp_in i5 n8 ∧
      ab_J G (ac_ST L xs) l (d + 1) 54 97 [none, some (.ref r1), none, some (.int i3), some (.int i4), some (.int (i5 + 1))] [] ac_SK (aa_up V q1 ((i5).toNatClampNeg) (if ((V q4 ((i3).toNatClampNeg)) + (V q6 ((i5).toNatClampNeg))) < (V q2 ((i5).toNatClampNeg)) then ((V q4 ((i3).toNatClampNeg)) + (V q6 ((i5).toNatClampNeg))) else (V q2 ((i5).toNatClampNeg)))) ac_SK K) ∧
    (¬ i5 < (8 : Int32) →
      ab_J G (ac_ST L xs) l (d + 1) 54 87 [none, some (.ref r1), none, some (.int i3), some (.int (i4 + 1)), none] [] ac_SK V ac_SK K)) :
    ab_J G (ac_ST L xs) l (d + 1) 54 97 [none, some (.ref r1), none, some (.int i3), some (.int i4), some (.int i5)] [] ac_SK V ac_SK K := by
  refine vc_54_97 ?_
  exact h

set_option maxRecDepth 20000 in
/-- FrameCounty$Sheets isStretch(III)Z, from 0 -/
theorem iv_61_0 {G : ab_G} {L : Nat} {xs : Nat → Int32} {l : Launch} {d : Nat} {i1 : Int32} {i2 : Int32} {i3 : Int32} {V : aa_V} {K : aa_K} (h :
    (i3 < 0 →
      K (some (.int (0 : Int32))) V) ∧
    (¬ i3 < 0 →
      vp_in i1 4 ∧
      (i2 < (0 : Int32) →
        K (some (.int (0 : Int32))) V) ∧
      (¬ i2 < (0 : Int32) →
        (((V 74 ((i1).toNatClampNeg)) - i3) < i2 →
          K (some (.int (0 : Int32))) V) ∧
        (¬ ((V 74 ((i1).toNatClampNeg)) - i3) < i2 →
          K (some (.int (1 : Int32))) V)))) :
    ab_E G (ac_ST L xs) l (d + 2) ac_SK 61 [.ref 72, .int i1, .int i2, .int i3] V K := by
  refine vc_61_0 ?_
  refine ⟨fun c => ?_, fun c => ?_⟩
  · replace h := h.1 c
    exact ⟨Or.inl rfl, h⟩
  · replace h := h.2 c
    refine ⟨h.1, ?_⟩
    replace h := h.2
    refine vc_182_0 ?_
    refine ⟨fun c => ?_, fun c => ?_⟩
    · replace h := h.1 c
      refine ⟨Or.inl rfl, ?_⟩
      refine ⟨fun q => ?_, fun q => absurd rfl q⟩
      exact ⟨Or.inl rfl, h⟩
    · replace h := h.2 c
      refine ⟨fun c => ?_, fun c => ?_⟩
      · replace h := h.1 c
        refine ⟨Or.inl rfl, ?_⟩
        refine ⟨fun q => ?_, fun q => absurd rfl q⟩
        exact ⟨Or.inl rfl, h⟩
      · replace h := h.2 c
        refine ⟨Or.inr rfl, ?_⟩
        refine ⟨fun q => absurd q (by decide), fun q => ?_⟩
        exact ⟨Or.inr rfl, h⟩

set_option maxRecDepth 20000 in
/-- FrameCounty$Sheets lay(III)V, from 0 -/
theorem iv_63_0 {G : ab_G} {L : Nat} {xs : Nat → Int32} {l : Launch} {d : Nat} {i1 : Int32} {i2 : Int32} {i3 : Int32} {V : aa_V} {K : aa_K} (h :
    vp_in i1 4 ∧
    vp_in i1 4 ∧
    ∃ (n1 : Nat) (rs1 : List Nat) (q1 : Nat), aa_sh ac_SK 75 = some (103, n1, rs1) ∧ vp_in i1 n1 ∧ aa_nth rs1 (i1).toNatClampNeg = q1 + 1 ∧
    ab_E G (ac_ST L xs) l (d + 1) ac_SK 299 [.ref q1, .int (0 : Int32)] (aa_up (aa_up V 73 ((i1).toNatClampNeg) i2) 74 ((i1).toNatClampNeg) i3) (aa_rV (fun V2 =>
      K none V2))) :
    ab_E G (ac_ST L xs) l (d + 2) ac_SK 63 [.ref 72, .int i1, .int i2, .int i3] V K := by
  refine vc_63_0 ?_
  refine ⟨h.1, ?_⟩
  replace h := h.2
  refine ⟨h.1, ?_⟩
  replace h := h.2
  obtain ⟨n1, rs1, q1, e1_0, e1_1, e1_2, h⟩ := h
  refine ⟨n1, rs1, q1, e1_0, e1_1, e1_2, ?_⟩
  exact h

set_option maxRecDepth 20000 in
/-- FrameCounty$Sheets put(III)V, from 0 -/
theorem iv_64_0 {G : ab_G} {L : Nat} {xs : Nat → Int32} {l : Launch} {d : Nat} {i1 : Int32} {i2 : Int32} {i3 : Int32} {V : aa_V} {K : aa_K} (h :
    ∃ (n1 : Nat) (rs1 : List Nat) (q1 : Nat), aa_sh ac_SK 75 = some (103, n1, rs1) ∧ vp_in i1 n1 ∧ aa_nth rs1 (i1).toNatClampNeg = q1 + 1 ∧
    vp_in i1 4 ∧
    ((V 73 ((i1).toNatClampNeg)) = 0 →
      ∃ (n2 : Nat) (rs2 : List Nat), aa_sh ac_SK q1 = some (100, n2, rs2) ∧ vp_in i2 n2 ∧
      K none (aa_up V q1 ((i2).toNatClampNeg) (i3.toInt8.toInt32))) ∧
    (¬ (V 73 ((i1).toNatClampNeg)) = 0 →
      vp_in i1 4 ∧
      ((V 73 ((i1).toNatClampNeg)) = (1 : Int32) →
        ∃ (n2 : Nat) (rs2 : List Nat), aa_sh ac_SK q1 = some (100, n2, rs2) ∧ vp_in i2 n2 ∧
        K none (aa_up V q1 ((i2).toNatClampNeg) (i3.toInt16.toInt32))) ∧
      (¬ (V 73 ((i1).toNatClampNeg)) = (1 : Int32) →
        ∃ (n2 : Nat) (rs2 : List Nat), aa_sh ac_SK q1 = some (100, n2, rs2) ∧ vp_in i2 n2 ∧
        K none (aa_up V q1 ((i2).toNatClampNeg) i3)))) :
    ab_E G (ac_ST L xs) l (d + 1) ac_SK 64 [.ref 72, .int i1, .int i2, .int i3] V K := by
  refine vc_64_0 ?_
  obtain ⟨n1, rs1, q1, e1_0, e1_1, e1_2, h⟩ := h
  refine ⟨n1, rs1, q1, e1_0, e1_1, e1_2, ?_⟩
  refine ⟨h.1, ?_⟩
  replace h := h.2
  exact h

set_option maxRecDepth 20000 in
/-- FrameCounty$Sheets itemAt(II)I, from 0 -/
theorem iv_65_0 {G : ab_G} {L : Nat} {xs : Nat → Int32} {l : Launch} {d : Nat} {i1 : Int32} {i2 : Int32} {V : aa_V} {K : aa_K} (h :
    ∃ (n1 : Nat) (rs1 : List Nat) (q1 : Nat), aa_sh ac_SK 75 = some (103, n1, rs1) ∧ vp_in i1 n1 ∧ aa_nth rs1 (i1).toNatClampNeg = q1 + 1 ∧
    ∃ (n2 : Nat) (rs2 : List Nat), aa_sh ac_SK q1 = some (100, n2, rs2) ∧ vp_in i2 n2 ∧
    K (some (.int (V q1 ((i2).toNatClampNeg)))) V) :
    ab_E G (ac_ST L xs) l (d + 1) ac_SK 65 [.ref 72, .int i1, .int i2] V K := by
  refine vc_65_0 ?_
  obtain ⟨n1, rs1, q1, e1_0, e1_1, e1_2, h⟩ := h
  refine ⟨n1, rs1, q1, e1_0, e1_1, e1_2, ?_⟩
  obtain ⟨n2, rs2, e2_0, e2_1, h⟩ := h
  refine ⟨n2, rs2, e2_0, e2_1, ?_⟩
  exact h

set_option maxRecDepth 20000 in
/-- FrameCounty$Sheets move(IIIII)V, from 0 -/
theorem iv_66_0 {G : ab_G} {L : Nat} {xs : Nat → Int32} {l : Launch} {d : Nat} {i1 : Int32} {i2 : Int32} {i3 : Int32} {i4 : Int32} {i5 : Int32} {V : aa_V} {K : aa_K} (h :
    ∃ (n1 : Nat) (rs1 : List Nat) (q1 : Nat), aa_sh ac_SK 75 = some (103, n1, rs1) ∧ vp_in i1 n1 ∧ aa_nth rs1 (i1).toNatClampNeg = q1 + 1 ∧
    ∃ (n2 : Nat) (rs2 : List Nat) (q2 : Nat), aa_sh ac_SK 75 = some (103, n2, rs2) ∧ vp_in i3 n2 ∧ aa_nth rs2 (i3).toNatClampNeg = q2 + 1 ∧
    ∃ (n3 : Nat) (m3 : Nat) (rs3 : List Nat) (ss3 : List Nat), aa_sh ac_SK q1 = some (100, n3, rs3) ∧ aa_sh ac_SK q2 = some (100, m3, ss3) ∧ ¬ i2 < 0 ∧ ¬ i4 < 0 ∧ ¬ i5 < 0 ∧ (i2).toNatClampNeg + (i5).toNatClampNeg ≤ n3 ∧ (i4).toNatClampNeg + (i5).toNatClampNeg ≤ m3 ∧ aa_cat [] ≤ 8 ∧ 151 ≤ ac_SK.length ∧
    K none (aa_row V q2 (va_cpy (V q1) (V q2) (i2).toNatClampNeg (i4).toNatClampNeg (i5).toNatClampNeg))) :
    ab_E G (ac_ST L xs) l (d + 1) ac_SK 66 [.ref 72, .int i1, .int i2, .int i3, .int i4, .int i5] V K := by
  refine vc_66_0 ?_
  obtain ⟨n1, rs1, q1, e1_0, e1_1, e1_2, h⟩ := h
  refine ⟨n1, rs1, q1, e1_0, e1_1, e1_2, ?_⟩
  obtain ⟨n2, rs2, q2, e2_0, e2_1, e2_2, h⟩ := h
  refine ⟨n2, rs2, q2, e2_0, e2_1, e2_2, ?_⟩
  obtain ⟨n3, m3, rs3, ss3, e3_0, e3_1, e3_2, e3_3, e3_4, e3_5, e3_6, e3_7, e3_8, h⟩ := h
  refine ⟨n3, m3, rs3, ss3, e3_0, e3_1, e3_2, e3_3, e3_4, e3_5, e3_6, e3_7, e3_8, ?_⟩
  exact h

set_option maxRecDepth 20000 in
/-- FrameCounty$Text add(I)V, from 0 -/
theorem iv_70_0 {G : ab_G} {L : Nat} {xs : Nat → Int32} {l : Launch} {d : Nat} {r0 : Nat} {i1 : Int32} {V : aa_V} {K : aa_K} (h :
    aa_is ac_SK r0 6 ∧
    ∃ (n1 : Nat) (rs1 : List Nat) (q1 : Nat), aa_sh ac_SK r0 = some (6, n1, rs1) ∧ aa_nth rs1 0 = q1 + 1 ∧
    ∃ (c2 : Nat) (n2 : Nat) (rs2 : List Nat), aa_sh ac_SK q1 = some (c2, n2, rs2) ∧ 100 ≤ c2 ∧
    ((V r0 3) < (nI n2) →
      ∃ (n3 : Nat) (rs3 : List Nat) (q3 : Nat), aa_sh ac_SK r0 = some (6, n3, rs3) ∧ aa_nth rs3 0 = q3 + 1 ∧
      aa_is ac_SK r0 6 ∧
      ∃ (n4 : Nat) (rs4 : List Nat), aa_sh ac_SK q3 = some (100, n4, rs4) ∧ vp_in (V r0 3) n4 ∧
      aa_is ac_SK r0 6 ∧
      aa_is ac_SK r0 6 ∧
      K none (aa_up (aa_up V q3 (((V r0 3)).toNatClampNeg) i1) r0 3 (((aa_up V q3 (((V r0 3)).toNatClampNeg) i1) r0 3) + (1 : Int32)))) ∧
    (¬ (V r0 3) < (nI n2) →
      K none V)) :
    ab_E G (ac_ST L xs) l (d + 1) ac_SK 70 [.ref r0, .int i1] V K := by
  refine vc_70_0 ?_
  refine ⟨h.1, ?_⟩
  replace h := h.2
  obtain ⟨n1, rs1, q1, e1_0, e1_1, h⟩ := h
  refine ⟨n1, rs1, q1, e1_0, e1_1, ?_⟩
  obtain ⟨c2, n2, rs2, e2_0, e2_1, h⟩ := h
  refine ⟨c2, n2, rs2, e2_0, e2_1, ?_⟩
  exact h

set_option maxRecDepth 20000 in
/-- FrameCounty$Text work(II[I)I, from 0 -/
theorem iv_74_0 {G : ab_G} {L : Nat} {xs : Nat → Int32} {l : Launch} {d : Nat} {r0 : Nat} {i1 : Int32} {i2 : Int32} {V : aa_V} {K : aa_K} (h :
    ab_J G (ac_ST L xs) l (d + 3) 74 6 [some (.ref r0), none, some (.int i2), some (.ref 86), some (.int (0 : Int32)), some (.int i1), none, none] [] ac_SK V ac_SK K) :
    ab_E G (ac_ST L xs) l (d + 3) ac_SK 74 [.ref r0, .int i1, .int i2, .ref 86] V K := by
  refine vc_74_0 ?_
  exact h

set_option maxRecDepth 20000 in
/-- FrameCounty$Text work(II[I)I, from 6 -/
theorem iv_74_6 {G : ab_G} {L : Nat} {xs : Nat → Int32} {l : Launch} {d : Nat} {r0 : Nat} {i2 : Int32} {i4 : Int32} {i5 : Int32} {V : aa_V} {K : aa_K} (h :
    (i5 < i2 →
      ∃ (n1 : Nat) (rs1 : List Nat) (q1 : Nat), aa_sh ac_SK r0 = some (6, n1, rs1) ∧ aa_nth rs1 0 = q1 + 1 ∧
      ∃ (n2 : Nat) (rs2 : List Nat), aa_sh ac_SK q1 = some (100, n2, rs2) ∧ vp_in i5 n2 ∧
      ((V q1 ((i5).toNatClampNeg)) < (20000 : Int32) →
        (i4 < (0 : Int32) →
          K (some (.int (0 : Int32))) V) ∧
        (¬ i4 < (0 : Int32) →
          ∃ (n3 : Nat) (rs3 : List Nat) (q3 : Nat), aa_sh ac_SK r0 = some (6, n3, rs3) ∧ aa_nth rs3 1 = q3 + 1 ∧
          ∃ (c4 : Nat) (n4 : Nat) (rs4 : List Nat), aa_sh ac_SK q3 = some (c4, n4, rs4) ∧ 100 ≤ c4 ∧
          ((i4 - (0 : Int32)) < (nI n4) →
            ∃ (n5 : Nat) (rs5 : List Nat) (q5 : Nat), aa_sh ac_SK r0 = some (6, n5, rs5) ∧ aa_nth rs5 1 = q5 + 1 ∧
            (((V q1 ((i5).toNatClampNeg)) - (10000 : Int32)) < (0 : Int32) →
              ∃ (n6 : Nat) (rs6 : List Nat), aa_sh ac_SK q5 = some (100, n6, rs6) ∧ vp_in (i4 - (0 : Int32)) n6 ∧
              ab_J G (ac_ST L xs) l (d + 3) 74 6 [some (.ref r0), none, some (.int i2), some (.ref 86), some (.int ((i4 - (0 : Int32)) + 1)), some (.int (i5 + 1)), none, none] [] ac_SK (aa_up V q5 (((i4 - (0 : Int32))).toNatClampNeg) (V q1 ((i5).toNatClampNeg))) ac_SK K) ∧
            (¬ ((V q1 ((i5).toNatClampNeg)) - (10000 : Int32)) < (0 : Int32) →
              (((nI 6) - (1 : Int32)) < ((V q1 ((i5).toNatClampNeg)) - (10000 : Int32)) →
                ∃ (n6 : Nat) (rs6 : List Nat), aa_sh ac_SK q5 = some (100, n6, rs6) ∧ vp_in (i4 - (0 : Int32)) n6 ∧
                ab_J G (ac_ST L xs) l (d + 3) 74 6 [some (.ref r0), none, some (.int i2), some (.ref 86), some (.int ((i4 - (0 : Int32)) + 1)), some (.int (i5 + 1)), none, none] [] ac_SK (aa_up V q5 (((i4 - (0 : Int32))).toNatClampNeg) (V q1 ((i5).toNatClampNeg))) ac_SK K) ∧
              (¬ ((nI 6) - (1 : Int32)) < ((V q1 ((i5).toNatClampNeg)) - (10000 : Int32)) →
                vp_in ((V q1 ((i5).toNatClampNeg)) - (10000 : Int32)) 6 ∧
                ∃ (n6 : Nat) (rs6 : List Nat), aa_sh ac_SK q5 = some (100, n6, rs6) ∧ vp_in (i4 - (0 : Int32)) n6 ∧
                ab_J G (ac_ST L xs) l (d + 3) 74 6 [some (.ref r0), none, some (.int i2), some (.ref 86), some (.int ((i4 - (0 : Int32)) + 1)), some (.int (i5 + 1)), none, none] [] ac_SK (aa_up V q5 (((i4 - (0 : Int32))).toNatClampNeg) (V 86 ((((V q1 ((i5).toNatClampNeg)) - (10000 : Int32))).toNatClampNeg))) ac_SK K))) ∧
          (¬ (i4 - (0 : Int32)) < (nI n4) →
            K (some (.int (0 : Int32))) V))) ∧
      (¬ (V q1 ((i5).toNatClampNeg)) < (20000 : Int32) →
        ((20001 : Int32) < (V q1 ((i5).toNatClampNeg)) →
          (i4 < (2 : Int32) →
            K (some (.int (0 : Int32))) V) ∧
          (¬ i4 < (2 : Int32) →
            ∃ (n3 : Nat) (rs3 : List Nat) (q3 : Nat), aa_sh ac_SK r0 = some (6, n3, rs3) ∧ aa_nth rs3 1 = q3 + 1 ∧
            ∃ (c4 : Nat) (n4 : Nat) (rs4 : List Nat), aa_sh ac_SK q3 = some (c4, n4, rs4) ∧ 100 ≤ c4 ∧
            ((i4 - (2 : Int32)) < (nI n4) →
              ∃ (n5 : Nat) (rs5 : List Nat) (q5 : Nat), aa_sh ac_SK r0 = some (6, n5, rs5) ∧ aa_nth rs5 1 = q5 + 1 ∧
              ∃ (n6 : Nat) (rs6 : List Nat) (q6 : Nat), aa_sh ac_SK r0 = some (6, n6, rs6) ∧ aa_nth rs6 1 = q6 + 1 ∧
              ∃ (n7 : Nat) (rs7 : List Nat), aa_sh ac_SK q6 = some (100, n7, rs7) ∧ vp_in (i4 - (2 : Int32)) n7 ∧
              ∃ (n8 : Nat) (rs8 : List Nat) (q8 : Nat), aa_sh ac_SK r0 = some (6, n8, rs8) ∧ aa_nth rs8 1 = q8 + 1 ∧
              ∃ (n9 : Nat) (rs9 : List Nat), aa_sh ac_SK q8 = some (100, n9, rs9) ∧ vp_in ((i4 - (2 : Int32)) + (1 : Int32)) n9 ∧
              ab_E G (ac_ST L xs) l (d + 2) ac_SK 77 [.int (V q1 ((i5).toNatClampNeg)), .int (V q6 (((i4 - (2 : Int32))).toNatClampNeg)), .int (V q8 ((((i4 - (2 : Int32)) + (1 : Int32))).toNatClampNeg))] V (aa_rI (fun x10 V10 =>
                ∃ (n11 : Nat) (rs11 : List Nat), aa_sh ac_SK q5 = some (100, n11, rs11) ∧ vp_in (i4 - (2 : Int32)) n11 ∧
                ab_J G (ac_ST L xs) l (d + 3) 74 6 [some (.ref r0), none, some (.int i2), some (.ref 86), some (.int ((i4 - (2 : Int32)) + 1)), some (.int (i5 + 1)), none, none] [] ac_SK (aa_up V10 q5 (((i4 - (2 : Int32))).toNatClampNeg) x10) ac_SK K))) ∧
            (¬ (i4 - (2 : Int32)) < (nI n4) →
              K (some (.int (0 : Int32))) V))) ∧
        (¬ (20001 : Int32) < (V q1 ((i5).toNatClampNeg)) →
          (i4 < (1 : Int32) →
            K (some (.int (0 : Int32))) V) ∧
          (¬ i4 < (1 : Int32) →
            ∃ (n3 : Nat) (rs3 : List Nat) (q3 : Nat), aa_sh ac_SK r0 = some (6, n3, rs3) ∧ aa_nth rs3 1 = q3 + 1 ∧
            ∃ (c4 : Nat) (n4 : Nat) (rs4 : List Nat), aa_sh ac_SK q3 = some (c4, n4, rs4) ∧ 100 ≤ c4 ∧
            ((i4 - (1 : Int32)) < (nI n4) →
              ∃ (n5 : Nat) (rs5 : List Nat) (q5 : Nat), aa_sh ac_SK r0 = some (6, n5, rs5) ∧ aa_nth rs5 1 = q5 + 1 ∧
              ∃ (n6 : Nat) (rs6 : List Nat) (q6 : Nat), aa_sh ac_SK r0 = some (6, n6, rs6) ∧ aa_nth rs6 1 = q6 + 1 ∧
              ∃ (n7 : Nat) (rs7 : List Nat), aa_sh ac_SK q6 = some (100, n7, rs7) ∧ vp_in (i4 - (1 : Int32)) n7 ∧
              ((V q1 ((i5).toNatClampNeg)) = (20000 : Int32) →
                ((V q6 (((i4 - (1 : Int32))).toNatClampNeg)) = 0 →
                  ∃ (n8 : Nat) (rs8 : List Nat), aa_sh ac_SK q5 = some (100, n8, rs8) ∧ vp_in (i4 - (1 : Int32)) n8 ∧
                  ab_J G (ac_ST L xs) l (d + 3) 74 6 [some (.ref r0), none, some (.int i2), some (.ref 86), some (.int ((i4 - (1 : Int32)) + 1)), some (.int (i5 + 1)), none, none] [] ac_SK (aa_up V q5 (((i4 - (1 : Int32))).toNatClampNeg) (1 : Int32)) ac_SK K) ∧
                (¬ (V q6 (((i4 - (1 : Int32))).toNatClampNeg)) = 0 →
                  ∃ (n8 : Nat) (rs8 : List Nat), aa_sh ac_SK q5 = some (100, n8, rs8) ∧ vp_in (i4 - (1 : Int32)) n8 ∧
                  ab_J G (ac_ST L xs) l (d + 3) 74 6 [some (.ref r0), none, some (.int i2), some (.ref 86), some (.int ((i4 - (1 : Int32)) + 1)), some (.int (i5 + 1)), none, none] [] ac_SK (aa_up V q5 (((i4 - (1 : Int32))).toNatClampNeg) (0 : Int32)) ac_SK K)) ∧
              (¬ (V q1 ((i5).toNatClampNeg)) = (20000 : Int32) →
                ∃ (n8 : Nat) (rs8 : List Nat), aa_sh ac_SK q5 = some (100, n8, rs8) ∧ vp_in (i4 - (1 : Int32)) n8 ∧
                ab_J G (ac_ST L xs) l (d + 3) 74 6 [some (.ref r0), none, some (.int i2), some (.ref 86), some (.int ((i4 - (1 : Int32)) + 1)), some (.int (i5 + 1)), none, none] [] ac_SK (aa_up V q5 (((i4 - (1 : Int32))).toNatClampNeg) (-(V q6 (((i4 - (1 : Int32))).toNatClampNeg)))) ac_SK K)) ∧
            (¬ (i4 - (1 : Int32)) < (nI n4) →
              K (some (.int (0 : Int32))) V))))) ∧
    (¬ i5 < i2 →
      ∃ (n1 : Nat) (rs1 : List Nat) (q1 : Nat), aa_sh ac_SK r0 = some (6, n1, rs1) ∧ aa_nth rs1 1 = q1 + 1 ∧
      ∃ (n2 : Nat) (rs2 : List Nat), aa_sh ac_SK q1 = some (100, n2, rs2) ∧ vp_in (0 : Int32) n2 ∧
      K (some (.int (V q1 (((0 : Int32)).toNatClampNeg)))) V)) :
    ab_J G (ac_ST L xs) l (d + 3) 74 6 [some (.ref r0), none, some (.int i2), some (.ref 86), some (.int i4), some (.int i5), none, none] [] ac_SK V ac_SK K := by
  refine vc_74_6 ?_
  refine ⟨fun c => ?_, fun c => ?_⟩
  · replace h := h.1 c
    obtain ⟨n1, rs1, q1, e1_0, e1_1, h⟩ := h
    refine ⟨n1, rs1, q1, e1_0, e1_1, ?_⟩
    obtain ⟨n2, rs2, e2_0, e2_1, h⟩ := h
    refine ⟨n2, rs2, e2_0, e2_1, ?_⟩
    refine ⟨fun c => ?_, fun c => ?_⟩
    · replace h := h.1 c
      refine ⟨fun c => ?_, fun c => ?_⟩
      · replace h := h.1 c
        exact h
      · replace h := h.2 c
        obtain ⟨n3, rs3, q3, e3_0, e3_1, h⟩ := h
        refine ⟨n3, rs3, q3, e3_0, e3_1, ?_⟩
        obtain ⟨c4, n4, rs4, e4_0, e4_1, h⟩ := h
        refine ⟨c4, n4, rs4, e4_0, e4_1, ?_⟩
        refine ⟨fun c => ?_, fun c => ?_⟩
        · replace h := h.1 c
          refine ⟨fun q => ?_, fun q => absurd rfl q⟩
          obtain ⟨n5, rs5, q5, e5_0, e5_1, h⟩ := h
          refine ⟨n5, rs5, q5, e5_0, e5_1, ?_⟩
          refine vc_75_0 ?_
          refine vc_182_0 ?_
          refine ⟨fun c => ?_, fun c => ?_⟩
          · replace h := h.1 c
            refine ⟨Or.inl rfl, ?_⟩
            refine ⟨fun q => ?_, fun q => absurd rfl q⟩
            obtain ⟨n6, rs6, e6_0, e6_1, h⟩ := h
            refine ⟨n6, rs6, e6_0, e6_1, ?_⟩
            exact h
          · replace h := h.2 c
            refine ⟨fun c => ?_, fun c => ?_⟩
            · replace h := h.1 c
              refine ⟨Or.inl rfl, ?_⟩
              refine ⟨fun q => ?_, fun q => absurd rfl q⟩
              obtain ⟨n6, rs6, e6_0, e6_1, h⟩ := h
              refine ⟨n6, rs6, e6_0, e6_1, ?_⟩
              exact h
            · replace h := h.2 c
              refine ⟨Or.inr rfl, ?_⟩
              refine ⟨fun q => absurd q (by decide), fun q => ?_⟩
              refine ⟨h.1, ?_⟩
              replace h := h.2
              obtain ⟨n6, rs6, e6_0, e6_1, h⟩ := h
              refine ⟨n6, rs6, e6_0, e6_1, ?_⟩
              exact h
        · replace h := h.2 c
          exact h
    · replace h := h.2 c
      refine ⟨fun c => ?_, fun c => ?_⟩
      · replace h := h.1 c
        refine ⟨fun c => ?_, fun c => ?_⟩
        · replace h := h.1 c
          exact h
        · replace h := h.2 c
          obtain ⟨n3, rs3, q3, e3_0, e3_1, h⟩ := h
          refine ⟨n3, rs3, q3, e3_0, e3_1, ?_⟩
          obtain ⟨c4, n4, rs4, e4_0, e4_1, h⟩ := h
          refine ⟨c4, n4, rs4, e4_0, e4_1, ?_⟩
          refine ⟨fun c => ?_, fun c => ?_⟩
          · replace h := h.1 c
            refine ⟨fun q => absurd q (by decide), fun q => ?_⟩
            refine ⟨fun q => absurd q (by decide), fun q => ?_⟩
            obtain ⟨n5, rs5, q5, e5_0, e5_1, h⟩ := h
            refine ⟨n5, rs5, q5, e5_0, e5_1, ?_⟩
            obtain ⟨n6, rs6, q6, e6_0, e6_1, h⟩ := h
            refine ⟨n6, rs6, q6, e6_0, e6_1, ?_⟩
            obtain ⟨n7, rs7, e7_0, e7_1, h⟩ := h
            refine ⟨n7, rs7, e7_0, e7_1, ?_⟩
            obtain ⟨n8, rs8, q8, e8_0, e8_1, h⟩ := h
            refine ⟨n8, rs8, q8, e8_0, e8_1, ?_⟩
            obtain ⟨n9, rs9, e9_0, e9_1, h⟩ := h
            refine ⟨n9, rs9, e9_0, e9_1, ?_⟩
            exact h
          · replace h := h.2 c
            exact h
      · replace h := h.2 c
        refine ⟨fun c => ?_, fun c => ?_⟩
        · replace h := h.1 c
          exact h
        · replace h := h.2 c
          obtain ⟨n3, rs3, q3, e3_0, e3_1, h⟩ := h
          refine ⟨n3, rs3, q3, e3_0, e3_1, ?_⟩
          obtain ⟨c4, n4, rs4, e4_0, e4_1, h⟩ := h
          refine ⟨c4, n4, rs4, e4_0, e4_1, ?_⟩
          refine ⟨fun c => ?_, fun c => ?_⟩
          · replace h := h.1 c
            refine ⟨fun q => absurd q (by decide), fun q => ?_⟩
            refine ⟨fun q => ?_, fun q => absurd rfl q⟩
            obtain ⟨n5, rs5, q5, e5_0, e5_1, h⟩ := h
            refine ⟨n5, rs5, q5, e5_0, e5_1, ?_⟩
            obtain ⟨n6, rs6, q6, e6_0, e6_1, h⟩ := h
            refine ⟨n6, rs6, q6, e6_0, e6_1, ?_⟩
            obtain ⟨n7, rs7, e7_0, e7_1, h⟩ := h
            refine ⟨n7, rs7, e7_0, e7_1, ?_⟩
            refine vc_76_0 ?_
            refine ⟨fun c => ?_, fun c => ?_⟩
            · replace h := h.1 c
              refine ⟨fun c => ?_, fun c => ?_⟩
              · replace h := h.1 c
                refine vc_78_0 ?_
                refine ⟨fun q => absurd q (by decide), fun q => ?_⟩
                obtain ⟨n8, rs8, e8_0, e8_1, h⟩ := h
                refine ⟨n8, rs8, e8_0, e8_1, ?_⟩
                exact h
              · replace h := h.2 c
                refine vc_78_0 ?_
                refine ⟨fun q => ?_, fun q => absurd rfl q⟩
                obtain ⟨n8, rs8, e8_0, e8_1, h⟩ := h
                refine ⟨n8, rs8, e8_0, e8_1, ?_⟩
                exact h
            · replace h := h.2 c
              obtain ⟨n8, rs8, e8_0, e8_1, h⟩ := h
              refine ⟨n8, rs8, e8_0, e8_1, ?_⟩
              exact h
          · replace h := h.2 c
            exact h
  · replace h := h.2 c
    obtain ⟨n1, rs1, q1, e1_0, e1_1, h⟩ := h
    refine ⟨n1, rs1, q1, e1_0, e1_1, ?_⟩
    obtain ⟨n2, rs2, e2_0, e2_1, h⟩ := h
    refine ⟨n2, rs2, e2_0, e2_1, ?_⟩
    exact h

set_option maxRecDepth 20000 in
/-- FrameCounty$Text ofTwo(III)I, from 0 -/
theorem iv_77_0 {G : ab_G} {L : Nat} {xs : Nat → Int32} {l : Launch} {d : Nat} {i0 : Int32} {i1 : Int32} {i2 : Int32} {V : aa_V} {K : aa_K} (h :
    (i0 = 20002 →
      (i1 = 0 →
        (i2 = 0 →
          K (some (.int (0 : Int32))) V) ∧
        (¬ i2 = 0 →
          K (some (.int (1 : Int32))) V)) ∧
      (¬ i1 = 0 →
        K (some (.int (1 : Int32))) V)) ∧
    (¬ i0 = 20002 →
    (i0 = 20003 →
      (i1 = 0 →
        K (some (.int (0 : Int32))) V) ∧
      (¬ i1 = 0 →
        (i2 = 0 →
          K (some (.int (0 : Int32))) V) ∧
        (¬ i2 = 0 →
          K (some (.int (1 : Int32))) V))) ∧
    (¬ i0 = 20003 →
    (i0 = 20004 →
      (i1 < i2 →
        K (some (.int (1 : Int32))) V) ∧
      (¬ i1 < i2 →
        K (some (.int (0 : Int32))) V)) ∧
    (¬ i0 = 20004 →
    (i0 = 20005 →
      (i1 = i2 →
        K (some (.int (1 : Int32))) V) ∧
      (¬ i1 = i2 →
        K (some (.int (0 : Int32))) V)) ∧
    (¬ i0 = 20005 →
    (i0 = 20006 →
      K (some (.int (i1 + i2))) V) ∧
    (¬ i0 = 20006 →
    (i0 = 20007 →
      K (some (.int (i1 - i2))) V) ∧
    (¬ i0 = 20007 →
    K (some (.int (i1 * i2))) V))))))) :
    ab_E G (ac_ST L xs) l (d + 2) ac_SK 77 [.int i0, .int i1, .int i2] V K := by
  refine vc_77_0 ?_
  refine ⟨fun c => ?_, fun c => ?_⟩
  · replace h := h.1 c
    refine ⟨fun c => ?_, fun c => ?_⟩
    · replace h := h.1 c
      refine ⟨fun c => ?_, fun c => ?_⟩
      · replace h := h.1 c
        refine vc_78_0 ?_
        refine ⟨fun q => ?_, fun q => absurd rfl q⟩
        exact h
      · replace h := h.2 c
        refine vc_78_0 ?_
        refine ⟨fun q => absurd q (by decide), fun q => ?_⟩
        exact h
    · replace h := h.2 c
      refine vc_78_0 ?_
      refine ⟨fun q => absurd q (by decide), fun q => ?_⟩
      exact h
  · replace h := h.2 c
    refine ⟨fun c => ?_, fun c => ?_⟩
    · replace h := h.1 c
      refine ⟨fun c => ?_, fun c => ?_⟩
      · replace h := h.1 c
        refine vc_78_0 ?_
        refine ⟨fun q => ?_, fun q => absurd rfl q⟩
        exact h
      · replace h := h.2 c
        refine ⟨fun c => ?_, fun c => ?_⟩
        · replace h := h.1 c
          refine vc_78_0 ?_
          refine ⟨fun q => ?_, fun q => absurd rfl q⟩
          exact h
        · replace h := h.2 c
          refine vc_78_0 ?_
          refine ⟨fun q => absurd q (by decide), fun q => ?_⟩
          exact h
    · replace h := h.2 c
      refine ⟨fun c => ?_, fun c => ?_⟩
      · replace h := h.1 c
        refine ⟨fun c => ?_, fun c => ?_⟩
        · replace h := h.1 c
          refine vc_78_0 ?_
          refine ⟨fun q => absurd q (by decide), fun q => ?_⟩
          exact h
        · replace h := h.2 c
          refine vc_78_0 ?_
          refine ⟨fun q => ?_, fun q => absurd rfl q⟩
          exact h
      · replace h := h.2 c
        refine ⟨fun c => ?_, fun c => ?_⟩
        · replace h := h.1 c
          refine ⟨fun c => ?_, fun c => ?_⟩
          · replace h := h.1 c
            refine vc_78_0 ?_
            refine ⟨fun q => absurd q (by decide), fun q => ?_⟩
            exact h
          · replace h := h.2 c
            refine vc_78_0 ?_
            refine ⟨fun q => ?_, fun q => absurd rfl q⟩
            exact h
        · replace h := h.2 c
          refine ⟨fun c => ?_, fun c => ?_⟩
          · replace h := h.1 c
            exact h
          · replace h := h.2 c
            refine ⟨fun c => ?_, fun c => ?_⟩
            · replace h := h.1 c
              exact h
            · replace h := h.2 c
              exact h

set_option maxRecDepth 20000 in
/-- FrameCounty$Watch isPossible(IIIII)Z, from 0 -/
theorem iv_87_0 {G : ab_G} {L : Nat} {xs : Nat → Int32} {l : Launch} {d : Nat} {i1 : Int32} {i2 : Int32} {i3 : Int32} {i4 : Int32} {i5 : Int32} {V : aa_V} {K : aa_K} (h :
    vp_in i1 12 ∧
    ab_E G (ac_ST L xs) l (d + 1) ac_SK 52 [.ref 1, .int (V 43 ((i1).toNatClampNeg)), .int i2, .int i4, .int i3] V (aa_rI (fun x1 V1 =>
      (x1 = 0 →
        K (some (.int (0 : Int32))) V1) ∧
      (¬ x1 = 0 →
        ab_J G (ac_ST L xs) l (d + 2) 87 25 [some (.ref 42), some (.int i1), some (.int i2), some (.int i3), some (.int i4), some (.int i5), some (.int (0 : Int32)), none, none] [] ac_SK V1 ac_SK K)))) :
    ab_E G (ac_ST L xs) l (d + 2) ac_SK 87 [.ref 42, .int i1, .int i2, .int i3, .int i4, .int i5] V K := by
  refine vc_87_0 ?_
  refine ⟨h.1, ?_⟩
  replace h := h.2
  refine ab_EmI (fun x1 V1 h => ?_) h
  refine ⟨fun c => ?_, fun c => ?_⟩
  · replace h := h.1 c
    exact ⟨Or.inl rfl, h⟩
  · replace h := h.2 c
    exact h

set_option maxRecDepth 20000 in
/-- FrameCounty$Watch isPossible(IIIII)Z, from 25 -/
theorem iv_87_25 {G : ab_G} {L : Nat} {xs : Nat → Int32} {l : Launch} {d : Nat} {i1 : Int32} {i2 : Int32} {i3 : Int32} {i4 : Int32} {i5 : Int32} {i6 : Int32} {V : aa_V} {K : aa_K} (h :
    (i6 < (V 42 4) →
      vp_in i6 40 ∧
      ((V 44 ((i6).toNatClampNeg)) = i1 →
        vp_in i6 40 ∧
        ((V 46 ((i6).toNatClampNeg)) = i3 →
          vp_in i6 40 ∧
          (i5 < (V 48 ((i6).toNatClampNeg)) →
            vp_in i6 40 ∧
            ab_J G (ac_ST L xs) l (d + 2) 87 25 [some (.ref 42), some (.int i1), some (.int i2), some (.int i3), some (.int i4), some (.int i5), some (.int (i6 + 1)), none, none] [] ac_SK V ac_SK K) ∧
          (¬ i5 < (V 48 ((i6).toNatClampNeg)) →
            vp_in i6 40 ∧
            vp_in i6 40 ∧
            ab_E G (ac_ST L xs) l (d + 1) ac_SK 52 [.ref 1, .int (V 45 ((i6).toNatClampNeg)), .int i2, .int (if 0 ≤ (i4 - (V 47 ((i6).toNatClampNeg))) then (i4 - (V 47 ((i6).toNatClampNeg))) else 0 - (i4 - (V 47 ((i6).toNatClampNeg)))), .int i3] V (aa_rI (fun x1 V1 =>
              (x1 = 0 →
                K (some (.int (0 : Int32))) V1) ∧
              (¬ x1 = 0 →
                ab_J G (ac_ST L xs) l (d + 2) 87 25 [some (.ref 42), some (.int i1), some (.int i2), some (.int i3), some (.int i4), some (.int i5), some (.int (i6 + 1)), none, none] [] ac_SK V1 ac_SK K))))) ∧
        (¬ (V 46 ((i6).toNatClampNeg)) = i3 →
          vp_in i6 40 ∧
          ab_J G (ac_ST L xs) l (d + 2) 87 25 [some (.ref 42), some (.int i1), some (.int i2), some (.int i3), some (.int i4), some (.int i5), some (.int (i6 + 1)), none, none] [] ac_SK V ac_SK K)) ∧
      (¬ (V 44 ((i6).toNatClampNeg)) = i1 →
        vp_in i6 40 ∧
        ab_J G (ac_ST L xs) l (d + 2) 87 25 [some (.ref 42), some (.int i1), some (.int i2), some (.int i3), some (.int i4), some (.int i5), some (.int (i6 + 1)), none, none] [] ac_SK V ac_SK K)) ∧
    (¬ i6 < (V 42 4) →
      K (some (.int (1 : Int32))) V)) :
    ab_J G (ac_ST L xs) l (d + 2) 87 25 [some (.ref 42), some (.int i1), some (.int i2), some (.int i3), some (.int i4), some (.int i5), some (.int i6), none, none] [] ac_SK V ac_SK K := by
  refine vc_87_25 ?_
  refine ⟨fun c => ?_, fun c => ?_⟩
  · replace h := h.1 c
    refine ⟨h.1, ?_⟩
    replace h := h.2
    refine ⟨fun c => ?_, fun c => ?_⟩
    · replace h := h.1 c
      refine ⟨h.1, ?_⟩
      replace h := h.2
      refine ⟨fun c => ?_, fun c => ?_⟩
      · replace h := h.1 c
        refine ⟨h.1, ?_⟩
        replace h := h.2
        refine ⟨fun c => ?_, fun c => ?_⟩
        · replace h := h.1 c
          refine ⟨h.1, ?_⟩
          replace h := h.2
          refine ⟨fun q => ?_, fun q => absurd rfl q⟩
          exact h
        · replace h := h.2 c
          refine ⟨h.1, ?_⟩
          replace h := h.2
          refine ⟨fun q => absurd q (by decide), fun q => ?_⟩
          refine ⟨h.1, ?_⟩
          replace h := h.2
          refine ab_EmI (fun x1 V1 h => ?_) h
          refine ⟨fun c => ?_, fun c => ?_⟩
          · replace h := h.1 c
            exact ⟨Or.inl rfl, h⟩
          · replace h := h.2 c
            exact h
      · replace h := h.2 c
        refine ⟨h.1, ?_⟩
        replace h := h.2
        refine ⟨fun q => ?_, fun q => absurd rfl q⟩
        exact h
    · replace h := h.2 c
      refine ⟨h.1, ?_⟩
      replace h := h.2
      refine ⟨fun q => ?_, fun q => absurd rfl q⟩
      exact h
  · replace h := h.2 c
    exact ⟨Or.inr rfl, h⟩

set_option maxRecDepth 20000 in
/-- FrameCounty$Watch couldRaid(II)I, from 0 -/
theorem iv_89_0 {G : ab_G} {L : Nat} {xs : Nat → Int32} {l : Launch} {d : Nat} {i1 : Int32} {i2 : Int32} {V : aa_V} {K : aa_K} (h :
    ab_J G (ac_ST L xs) l (d + 4) 89 5 [some (.ref 42), some (.int i1), some (.int i2), some (.int (0 : Int32)), some (.int (0 : Int32))] [] ac_SK V ac_SK K) :
    ab_E G (ac_ST L xs) l (d + 4) ac_SK 89 [.ref 42, .int i1, .int i2] V K := by
  refine vc_89_0 ?_
  exact h

set_option maxRecDepth 20000 in
/-- FrameCounty$Watch couldRaid(II)I, from 5 -/
theorem iv_89_5 {G : ab_G} {L : Nat} {xs : Nat → Int32} {l : Launch} {d : Nat} {i1 : Int32} {i2 : Int32} {i3 : Int32} {i4 : Int32} {V : aa_V} {K : aa_K} (h :
    (i4 < (V 42 2) →
      vp_in i1 30 ∧
      vp_in (V 39 ((i1).toNatClampNeg)) 20 ∧
      vp_in (V 33 (((V 39 ((i1).toNatClampNeg))).toNatClampNeg)) 8 ∧
      vp_in i1 30 ∧
      vp_in i1 30 ∧
      ab_E G (ac_ST L xs) l (d + 2) ac_SK 87 [.ref 42, .int i4, .int (V 30 (((V 33 (((V 39 ((i1).toNatClampNeg))).toNatClampNeg))).toNatClampNeg)), .int (V 40 ((i1).toNatClampNeg)), .int (V 41 ((i1).toNatClampNeg)), .int i2] V (aa_rI (fun x1 V1 =>
        aa_bit x1 ∧
        (x1 = 0 →
          ab_J G (ac_ST L xs) l (d + 4) 89 5 [some (.ref 42), some (.int i1), some (.int i2), some (.int i3), some (.int (i4 + 1))] [] ac_SK V1 ac_SK K) ∧
        (¬ x1 = 0 →
          ab_J G (ac_ST L xs) l (d + 4) 89 5 [some (.ref 42), some (.int i1), some (.int i2), some (.int (i3 ||| ((1 : Int32) <<< (i4 &&& 31)))), some (.int (i4 + 1))] [] ac_SK V1 ac_SK K)))) ∧
    (¬ i4 < (V 42 2) →
      K (some (.int i3)) V)) :
    ab_J G (ac_ST L xs) l (d + 4) 89 5 [some (.ref 42), some (.int i1), some (.int i2), some (.int i3), some (.int i4)] [] ac_SK V ac_SK K := by
  refine vc_89_5 ?_
  refine ⟨fun c => ?_, fun c => ?_⟩
  · replace h := h.1 c
    refine vc_88_0 ?_
    refine vc_21_0 ?_
    refine ⟨h.1, ?_⟩
    replace h := h.2
    refine vc_114_0 ?_
    refine ⟨h.1, ?_⟩
    replace h := h.2
    refine vc_111_0 ?_
    refine ⟨h.1, ?_⟩
    replace h := h.2
    refine vc_22_0 ?_
    refine ⟨h.1, ?_⟩
    replace h := h.2
    refine vc_23_0 ?_
    refine ⟨h.1, ?_⟩
    replace h := h.2
    refine ab_EmI (fun x1 V1 h => ?_) h
    refine ⟨h.1, ?_⟩
    replace h := h.2
    exact h
  · replace h := h.2 c
    exact h

set_option maxRecDepth 20000 in
/-- FrameCounty$Watch lies(I)I, from 0 -/
theorem iv_90_0 {G : ab_G} {L : Nat} {xs : Nat → Int32} {l : Launch} {d : Nat} {i1 : Int32} {V : aa_V} {K : aa_K} (h :
    ab_J G (ac_ST L xs) l (d + 4) 90 4 [some (.ref 42), some (.int i1), some (.int (0 : Int32)), some (.int (0 : Int32))] [] ac_SK V ac_SK K) :
    ab_E G (ac_ST L xs) l (d + 4) ac_SK 90 [.ref 42, .int i1] V K := by
  refine vc_90_0 ?_
  exact h

set_option maxRecDepth 20000 in
/-- FrameCounty$Watch lies(I)I, from 4 -/
theorem iv_90_4 {G : ab_G} {L : Nat} {xs : Nat → Int32} {l : Launch} {d : Nat} {i1 : Int32} {i2 : Int32} {i3 : Int32} {V : aa_V} {K : aa_K} (h :
    (i3 < (V 42 10) →
      vp_in i3 24 ∧
      (i1 < (V 53 ((i3).toNatClampNeg)) →
        ab_J G (ac_ST L xs) l (d + 4) 90 4 [some (.ref 42), some (.int i1), some (.int i2), some (.int (i3 + 1))] [] ac_SK V ac_SK K) ∧
      (¬ i1 < (V 53 ((i3).toNatClampNeg)) →
        vp_in i3 24 ∧
        vp_in i3 24 ∧
        vp_in (V 51 ((i3).toNatClampNeg)) 30 ∧
        vp_in (V 39 (((V 51 ((i3).toNatClampNeg))).toNatClampNeg)) 20 ∧
        vp_in (V 33 (((V 39 (((V 51 ((i3).toNatClampNeg))).toNatClampNeg))).toNatClampNeg)) 8 ∧
        vp_in (V 51 ((i3).toNatClampNeg)) 30 ∧
        vp_in (V 51 ((i3).toNatClampNeg)) 30 ∧
        ab_E G (ac_ST L xs) l (d + 2) ac_SK 87 [.ref 42, .int (V 50 ((i3).toNatClampNeg)), .int (V 30 (((V 33 (((V 39 (((V 51 ((i3).toNatClampNeg))).toNatClampNeg))).toNatClampNeg))).toNatClampNeg)), .int (V 40 (((V 51 ((i3).toNatClampNeg))).toNatClampNeg)), .int (V 41 (((V 51 ((i3).toNatClampNeg))).toNatClampNeg)), .int i1] V (aa_rI (fun x1 V1 =>
          aa_bit x1 ∧
          (x1 = 0 →
            ab_J G (ac_ST L xs) l (d + 4) 90 4 [some (.ref 42), some (.int i1), some (.int (i2 ||| ((1 : Int32) <<< (i3 &&& 31)))), some (.int (i3 + 1))] [] ac_SK V1 ac_SK K) ∧
          (¬ x1 = 0 →
            ab_J G (ac_ST L xs) l (d + 4) 90 4 [some (.ref 42), some (.int i1), some (.int i2), some (.int (i3 + 1))] [] ac_SK V1 ac_SK K))))) ∧
    (¬ i3 < (V 42 10) →
      K (some (.int i2)) V)) :
    ab_J G (ac_ST L xs) l (d + 4) 90 4 [some (.ref 42), some (.int i1), some (.int i2), some (.int i3)] [] ac_SK V ac_SK K := by
  refine vc_90_4 ?_
  refine ⟨fun c => ?_, fun c => ?_⟩
  · replace h := h.1 c
    refine ⟨h.1, ?_⟩
    replace h := h.2
    refine ⟨fun c => ?_, fun c => ?_⟩
    · replace h := h.1 c
      exact h
    · replace h := h.2 c
      refine ⟨h.1, ?_⟩
      replace h := h.2
      refine ⟨h.1, ?_⟩
      replace h := h.2
      refine vc_88_0 ?_
      refine vc_21_0 ?_
      refine ⟨h.1, ?_⟩
      replace h := h.2
      refine vc_114_0 ?_
      refine ⟨h.1, ?_⟩
      replace h := h.2
      refine vc_111_0 ?_
      refine ⟨h.1, ?_⟩
      replace h := h.2
      refine vc_22_0 ?_
      refine ⟨h.1, ?_⟩
      replace h := h.2
      refine vc_23_0 ?_
      refine ⟨h.1, ?_⟩
      replace h := h.2
      refine ab_EmI (fun x1 V1 h => ?_) h
      refine ⟨h.1, ?_⟩
      replace h := h.2
      exact h
  · replace h := h.2 c
    exact h

set_option maxRecDepth 20000 in
/-- FrameCounty$Watch wordsOf(II)I, from 0 -/
theorem iv_91_0 {G : ab_G} {L : Nat} {xs : Nat → Int32} {l : Launch} {d : Nat} {i1 : Int32} {i2 : Int32} {V : aa_V} {K : aa_K} (h :
    ab_J G (ac_ST L xs) l (d + 1) 91 5 [some (.ref 42), some (.int i1), some (.int i2), some (.int (0 : Int32)), some (.int (0 : Int32))] [] ac_SK V ac_SK K) :
    ab_E G (ac_ST L xs) l (d + 1) ac_SK 91 [.ref 42, .int i1, .int i2] V K := by
  refine vc_91_0 ?_
  exact h

set_option maxRecDepth 20000 in
/-- FrameCounty$Watch wordsOf(II)I, from 5 -/
theorem iv_91_5 {G : ab_G} {L : Nat} {xs : Nat → Int32} {l : Launch} {d : Nat} {i1 : Int32} {i2 : Int32} {i3 : Int32} {i4 : Int32} {V : aa_V} {K : aa_K} (h :
    (i4 < (V 42 10) →
      vp_in i4 24 ∧
      (i2 < (V 53 ((i4).toNatClampNeg)) →
        ab_J G (ac_ST L xs) l (d + 1) 91 5 [some (.ref 42), some (.int i1), some (.int i2), some (.int i3), some (.int (i4 + 1))] [] ac_SK V ac_SK K) ∧
      (¬ i2 < (V 53 ((i4).toNatClampNeg)) →
        vp_in i4 24 ∧
        ((V 49 ((i4).toNatClampNeg)) = i1 →
          ab_J G (ac_ST L xs) l (d + 1) 91 5 [some (.ref 42), some (.int i1), some (.int i2), some (.int (i3 ||| ((1 : Int32) <<< (i4 &&& 31)))), some (.int (i4 + 1))] [] ac_SK V ac_SK K) ∧
        (¬ (V 49 ((i4).toNatClampNeg)) = i1 →
          ab_J G (ac_ST L xs) l (d + 1) 91 5 [some (.ref 42), some (.int i1), some (.int i2), some (.int i3), some (.int (i4 + 1))] [] ac_SK V ac_SK K))) ∧
    (¬ i4 < (V 42 10) →
      K (some (.int i3)) V)) :
    ab_J G (ac_ST L xs) l (d + 1) 91 5 [some (.ref 42), some (.int i1), some (.int i2), some (.int i3), some (.int i4)] [] ac_SK V ac_SK K := by
  refine vc_91_5 ?_
  exact h

set_option maxRecDepth 20000 in
/-- FrameCounty$Watch wordsOn(II)I, from 0 -/
theorem iv_92_0 {G : ab_G} {L : Nat} {xs : Nat → Int32} {l : Launch} {d : Nat} {i1 : Int32} {i2 : Int32} {V : aa_V} {K : aa_K} (h :
    ab_J G (ac_ST L xs) l (d + 1) 92 5 [some (.ref 42), some (.int i1), some (.int i2), some (.int (0 : Int32)), some (.int (0 : Int32))] [] ac_SK V ac_SK K) :
    ab_E G (ac_ST L xs) l (d + 1) ac_SK 92 [.ref 42, .int i1, .int i2] V K := by
  refine vc_92_0 ?_
  exact h

set_option maxRecDepth 20000 in
/-- FrameCounty$Watch wordsOn(II)I, from 5 -/
theorem iv_92_5 {G : ab_G} {L : Nat} {xs : Nat → Int32} {l : Launch} {d : Nat} {i1 : Int32} {i2 : Int32} {i3 : Int32} {i4 : Int32} {V : aa_V} {K : aa_K} (h :
    (i4 < (V 42 10) →
      vp_in i4 24 ∧
      (i2 < (V 53 ((i4).toNatClampNeg)) →
        ab_J G (ac_ST L xs) l (d + 1) 92 5 [some (.ref 42), some (.int i1), some (.int i2), some (.int i3), some (.int (i4 + 1))] [] ac_SK V ac_SK K) ∧
      (¬ i2 < (V 53 ((i4).toNatClampNeg)) →
        vp_in i4 24 ∧
        ((V 50 ((i4).toNatClampNeg)) = i1 →
          ab_J G (ac_ST L xs) l (d + 1) 92 5 [some (.ref 42), some (.int i1), some (.int i2), some (.int (i3 ||| ((1 : Int32) <<< (i4 &&& 31)))), some (.int (i4 + 1))] [] ac_SK V ac_SK K) ∧
        (¬ (V 50 ((i4).toNatClampNeg)) = i1 →
          ab_J G (ac_ST L xs) l (d + 1) 92 5 [some (.ref 42), some (.int i1), some (.int i2), some (.int i3), some (.int (i4 + 1))] [] ac_SK V ac_SK K))) ∧
    (¬ i4 < (V 42 10) →
      K (some (.int i3)) V)) :
    ab_J G (ac_ST L xs) l (d + 1) 92 5 [some (.ref 42), some (.int i1), some (.int i2), some (.int i3), some (.int i4)] [] ac_SK V ac_SK K := by
  refine vc_92_5 ?_
  exact h

set_option maxRecDepth 20000 in
/-- FrameCounty$Watch paidFor(I)I, from 0 -/
theorem iv_93_0 {G : ab_G} {L : Nat} {xs : Nat → Int32} {l : Launch} {d : Nat} {i1 : Int32} {V : aa_V} {K : aa_K} (h :
    ab_J G (ac_ST L xs) l (d + 1) 93 4 [some (.ref 42), some (.int i1), some (.int (0 : Int32)), some (.int (0 : Int32))] [] ac_SK V ac_SK K) :
    ab_E G (ac_ST L xs) l (d + 1) ac_SK 93 [.ref 42, .int i1] V K := by
  refine vc_93_0 ?_
  exact h

set_option maxRecDepth 20000 in
/-- FrameCounty$Watch paidFor(I)I, from 4 -/
theorem iv_93_4 {G : ab_G} {L : Nat} {xs : Nat → Int32} {l : Launch} {d : Nat} {i1 : Int32} {i2 : Int32} {i3 : Int32} {V : aa_V} {K : aa_K} (h :
    (i3 < (V 42 10) →
      (((i1 >>> (i3 &&& 31)) &&& (1 : Int32)) = (1 : Int32) →
        vp_in i3 24 ∧
        ab_J G (ac_ST L xs) l (d + 1) 93 4 [some (.ref 42), some (.int i1), some (.int (i2 + (V 52 ((i3).toNatClampNeg)))), some (.int (i3 + 1))] [] ac_SK V ac_SK K) ∧
      (¬ ((i1 >>> (i3 &&& 31)) &&& (1 : Int32)) = (1 : Int32) →
        ab_J G (ac_ST L xs) l (d + 1) 93 4 [some (.ref 42), some (.int i1), some (.int i2), some (.int (i3 + 1))] [] ac_SK V ac_SK K)) ∧
    (¬ i3 < (V 42 10) →
      K (some (.int i2)) V)) :
    ab_J G (ac_ST L xs) l (d + 1) 93 4 [some (.ref 42), some (.int i1), some (.int i2), some (.int i3)] [] ac_SK V ac_SK K := by
  refine vc_93_4 ?_
  exact h

set_option maxRecDepth 20000 in
/-- FrameCounty$Weeks addRow(J)I, from 0 -/
theorem iv_97_0 {G : ab_G} {L : Nat} {xs : Nat → Int32} {l : Launch} {d : Nat} {l1 : Int64} {V : aa_V} {K : aa_K} (h :
    ((V 64 0) < (6 : Int32) →
      ab_J G (ac_ST L xs) l (d + 1) 97 17 [some (.ref 64), none, none, some (.long l1), none, some (.int (0 : Int32))] [] ac_SK V ac_SK K) ∧
    (¬ (V 64 0) < (6 : Int32) →
      K (some (.int (-4 : Int32))) V)) :
    ab_E G (ac_ST L xs) l (d + 1) ac_SK 97 [.ref 64, .long l1] V K := by
  refine vc_97_0 ?_
  exact h

set_option maxRecDepth 20000 in
/-- FrameCounty$Weeks addRow(J)I, from 17 -/
theorem iv_97_17 {G : ab_G} {L : Nat} {xs : Nat → Int32} {l : Launch} {d : Nat} {l3 : Int64} {i5 : Int32} {V : aa_V} {K : aa_K} (h :
    (i5 < (5 : Int32) →
      ∃ (n1 : Nat) (rs1 : List Nat) (q1 : Nat), aa_sh ac_SK 65 = some (103, n1, rs1) ∧ vp_in (V 64 0) n1 ∧ aa_nth rs1 ((V 64 0)).toNatClampNeg = q1 + 1 ∧
      ¬ (100 : Int64) = 0 ∧
      ∃ (n2 : Nat) (rs2 : List Nat), aa_sh ac_SK q1 = some (100, n2, rs2) ∧ vp_in i5 n2 ∧
      ¬ (100 : Int64) = 0 ∧
      ab_J G (ac_ST L xs) l (d + 1) 97 17 [some (.ref 64), none, none, some (.long (l3 / (100 : Int64))), none, some (.int (i5 + 1))] [] ac_SK (aa_up V q1 ((i5).toNatClampNeg) ((l3 - l3 / (100 : Int64) * (100 : Int64)).toInt32)) ac_SK K) ∧
    (¬ i5 < (5 : Int32) →
      K (some (.int (((V 64 0) + (1 : Int32)) - (1 : Int32)))) (aa_up V 64 0 ((V 64 0) + (1 : Int32))))) :
    ab_J G (ac_ST L xs) l (d + 1) 97 17 [some (.ref 64), none, none, some (.long l3), none, some (.int i5)] [] ac_SK V ac_SK K := by
  refine vc_97_17 ?_
  exact h

set_option maxRecDepth 20000 in
/-- FrameCounty$Weeks bestPlan(I)I, from 0 -/
theorem iv_99_0 {G : ab_G} {L : Nat} {xs : Nat → Int32} {l : Launch} {d : Nat} {i1 : Int32} {V : aa_V} {K : aa_K} (h :
    ab_E G (ac_ST L xs) l (d + 1) ac_SK 100 [.ref 64, .int (0 : Int32), .int i1] V (aa_rI (fun x1 V1 =>
      ab_J G (ac_ST L xs) l (d + 2) 99 15 [some (.ref 64), some (.int i1), some (.int (0 : Int32)), some (.int x1), some (.int (0 : Int32)), some (.int (1 : Int32)), none, none] [] ac_SK V1 ac_SK K))) :
    ab_E G (ac_ST L xs) l (d + 2) ac_SK 99 [.ref 64, .int i1] V K := by
  refine vc_99_0 ?_
  exact h

set_option maxRecDepth 20000 in
/-- FrameCounty$Weeks bestPlan(I)I, from 15 -/
theorem iv_99_15 {G : ab_G} {L : Nat} {xs : Nat → Int32} {l : Launch} {d : Nat} {i1 : Int32} {i2 : Int32} {i3 : Int32} {i4 : Int32} {i5 : Int32} {V : aa_V} {K : aa_K} (h :
    vp_in i1 (ac_ST L xs 1).2.1 ∧
    (i5 < ((ac_ST L xs 1).2.2 (i1).toNatClampNeg) →
      ab_E G (ac_ST L xs) l (d + 1) ac_SK 100 [.ref 64, .int i5, .int i1] V (aa_rI (fun x1 V1 =>
        ab_E G (ac_ST L xs) l (d + 1) ac_SK 102 [.int i5, .int i1] V1 (aa_rI (fun x2 V2 =>
          (x1 < i3 →
            ab_J G (ac_ST L xs) l (d + 2) 99 15 [some (.ref 64), some (.int i1), some (.int i5), some (.int x1), some (.int x2), some (.int (i5 + 1)), none, none] [] ac_SK V2 ac_SK K) ∧
          (¬ x1 < i3 →
            (x1 = i3 →
              (x2 < i4 →
                ab_J G (ac_ST L xs) l (d + 2) 99 15 [some (.ref 64), some (.int i1), some (.int i5), some (.int x1), some (.int x2), some (.int (i5 + 1)), none, none] [] ac_SK V2 ac_SK K) ∧
              (¬ x2 < i4 →
                ab_J G (ac_ST L xs) l (d + 2) 99 15 [some (.ref 64), some (.int i1), some (.int i2), some (.int i3), some (.int i4), some (.int (i5 + 1)), none, none] [] ac_SK V2 ac_SK K)) ∧
            (¬ x1 = i3 →
              ab_J G (ac_ST L xs) l (d + 2) 99 15 [some (.ref 64), some (.int i1), some (.int i2), some (.int i3), some (.int i4), some (.int (i5 + 1)), none, none] [] ac_SK V2 ac_SK K))))))) ∧
    (¬ i5 < ((ac_ST L xs 1).2.2 (i1).toNatClampNeg) →
      K (some (.int i2)) V)) :
    ab_J G (ac_ST L xs) l (d + 2) 99 15 [some (.ref 64), some (.int i1), some (.int i2), some (.int i3), some (.int i4), some (.int i5), none, none] [] ac_SK V ac_SK K := by
  refine vc_99_15 ?_
  refine ⟨h.1, ?_⟩
  replace h := h.2
  exact h

set_option maxRecDepth 20000 in
/-- FrameCounty$Weeks mostBroken(II)I, from 0 -/
theorem iv_100_0 {G : ab_G} {L : Nat} {xs : Nat → Int32} {l : Launch} {d : Nat} {i1 : Int32} {i2 : Int32} {V : aa_V} {K : aa_K} (h :
    ab_J G (ac_ST L xs) l (d + 2) 100 5 [some (.ref 64), some (.int i1), some (.int i2), some (.int (0 : Int32)), some (.int (0 : Int32))] [] ac_SK V ac_SK K) :
    ab_E G (ac_ST L xs) l (d + 2) ac_SK 100 [.ref 64, .int i1, .int i2] V K := by
  refine vc_100_0 ?_
  exact h

set_option maxRecDepth 20000 in
/-- FrameCounty$Weeks mostBroken(II)I, from 5 -/
theorem iv_100_5 {G : ab_G} {L : Nat} {xs : Nat → Int32} {l : Launch} {d : Nat} {i1 : Int32} {i2 : Int32} {i3 : Int32} {i4 : Int32} {V : aa_V} {K : aa_K} (h :
    (i4 < (V 64 0) →
      ab_E G (ac_ST L xs) l (d + 1) ac_SK 101 [.ref 64, .int i4, .int i1, .int i2] V (aa_rI (fun x1 V1 =>
        ab_J G (ac_ST L xs) l (d + 2) 100 5 [some (.ref 64), some (.int i1), some (.int i2), some (.int (if i3 < x1 then x1 else i3)), some (.int (i4 + 1))] [] ac_SK V1 ac_SK K))) ∧
    (¬ i4 < (V 64 0) →
      K (some (.int i3)) V)) :
    ab_J G (ac_ST L xs) l (d + 2) 100 5 [some (.ref 64), some (.int i1), some (.int i2), some (.int i3), some (.int i4)] [] ac_SK V ac_SK K := by
  refine vc_100_5 ?_
  exact h

set_option maxRecDepth 20000 in
/-- FrameCounty$Weeks broken(III)I, from 0 -/
theorem iv_101_0 {G : ab_G} {L : Nat} {xs : Nat → Int32} {l : Launch} {d : Nat} {i1 : Int32} {i2 : Int32} {i3 : Int32} {V : aa_V} {K : aa_K} (h :
    ab_J G (ac_ST L xs) l (d + 2) 101 9 [some (.ref 64), some (.int i1), some (.int i2), some (.int i3), some (.int (0 : Int32)), some (.int (0 : Int32)), some (.int (0 : Int32)), none, none] [] ac_SK V ac_SK K) :
    ab_E G (ac_ST L xs) l (d + 2) ac_SK 101 [.ref 64, .int i1, .int i2, .int i3] V K := by
  refine vc_101_0 ?_
  exact h

set_option maxRecDepth 20000 in
/-- FrameCounty$Weeks broken(III)I, from 9 -/
theorem iv_101_9 {G : ab_G} {L : Nat} {xs : Nat → Int32} {l : Launch} {d : Nat} {i1 : Int32} {i2 : Int32} {i3 : Int32} {i4 : Int32} {i5 : Int32} {i6 : Int32} {V : aa_V} {K : aa_K} (h :
    (i6 < i3 →
      vp_in ((i3 - (1 : Int32)) - i6) (ac_ST L xs 1).2.1 ∧
      ¬ ((ac_ST L xs 1).2.2 (((i3 - (1 : Int32)) - i6)).toNatClampNeg) = 0 ∧
      ¬ (3 : Int32) = 0 ∧
      ∃ (n1 : Nat) (rs1 : List Nat) (q1 : Nat), aa_sh ac_SK 65 = some (103, n1, rs1) ∧ vp_in i1 n1 ∧ aa_nth rs1 (i1).toNatClampNeg = q1 + 1 ∧
      ∃ (n2 : Nat) (rs2 : List Nat), aa_sh ac_SK q1 = some (100, n2, rs2) ∧ vp_in i6 n2 ∧
      (((i2 / ((ac_ST L xs 1).2.2 (((i3 - (1 : Int32)) - i6)).toNatClampNeg)) - (i2 / ((ac_ST L xs 1).2.2 (((i3 - (1 : Int32)) - i6)).toNatClampNeg)) / (3 : Int32) * (3 : Int32)) = (1 : Int32) →
        ¬ (2 : Int32) = 0 ∧
        ab_J G (ac_ST L xs) l (d + 2) 101 9 [some (.ref 64), some (.int i1), some (.int i2), some (.int i3), some (.int (i4 + (((V q1 ((i6).toNatClampNeg)) + (1 : Int32)) / (2 : Int32)))), some (.int ((i2 / ((ac_ST L xs 1).2.2 (((i3 - (1 : Int32)) - i6)).toNatClampNeg)) - (i2 / ((ac_ST L xs 1).2.2 (((i3 - (1 : Int32)) - i6)).toNatClampNeg)) / (3 : Int32) * (3 : Int32))), some (.int (i6 + 1)), none, none] [] ac_SK V ac_SK K) ∧
      (¬ ((i2 / ((ac_ST L xs 1).2.2 (((i3 - (1 : Int32)) - i6)).toNatClampNeg)) - (i2 / ((ac_ST L xs 1).2.2 (((i3 - (1 : Int32)) - i6)).toNatClampNeg)) / (3 : Int32) * (3 : Int32)) = (1 : Int32) →
        (((i2 / ((ac_ST L xs 1).2.2 (((i3 - (1 : Int32)) - i6)).toNatClampNeg)) - (i2 / ((ac_ST L xs 1).2.2 (((i3 - (1 : Int32)) - i6)).toNatClampNeg)) / (3 : Int32) * (3 : Int32)) = (2 : Int32) →
          (i5 = (2 : Int32) →
            ab_J G (ac_ST L xs) l (d + 2) 101 9 [some (.ref 64), some (.int i1), some (.int i2), some (.int i3), some (.int (i4 + (V q1 ((i6).toNatClampNeg)))), some (.int ((i2 / ((ac_ST L xs 1).2.2 (((i3 - (1 : Int32)) - i6)).toNatClampNeg)) - (i2 / ((ac_ST L xs 1).2.2 (((i3 - (1 : Int32)) - i6)).toNatClampNeg)) / (3 : Int32) * (3 : Int32))), some (.int (i6 + 1)), none, none] [] ac_SK V ac_SK K) ∧
          (¬ i5 = (2 : Int32) →
            ¬ (3 : Int32) = 0 ∧
            ab_J G (ac_ST L xs) l (d + 2) 101 9 [some (.ref 64), some (.int i1), some (.int i2), some (.int i3), some (.int (i4 + (((V q1 ((i6).toNatClampNeg)) + (2 : Int32)) / (3 : Int32)))), some (.int ((i2 / ((ac_ST L xs 1).2.2 (((i3 - (1 : Int32)) - i6)).toNatClampNeg)) - (i2 / ((ac_ST L xs 1).2.2 (((i3 - (1 : Int32)) - i6)).toNatClampNeg)) / (3 : Int32) * (3 : Int32))), some (.int (i6 + 1)), none, none] [] ac_SK V ac_SK K)) ∧
        (¬ ((i2 / ((ac_ST L xs 1).2.2 (((i3 - (1 : Int32)) - i6)).toNatClampNeg)) - (i2 / ((ac_ST L xs 1).2.2 (((i3 - (1 : Int32)) - i6)).toNatClampNeg)) / (3 : Int32) * (3 : Int32)) = (2 : Int32) →
          ab_J G (ac_ST L xs) l (d + 2) 101 9 [some (.ref 64), some (.int i1), some (.int i2), some (.int i3), some (.int (i4 + (V q1 ((i6).toNatClampNeg)))), some (.int ((i2 / ((ac_ST L xs 1).2.2 (((i3 - (1 : Int32)) - i6)).toNatClampNeg)) - (i2 / ((ac_ST L xs 1).2.2 (((i3 - (1 : Int32)) - i6)).toNatClampNeg)) / (3 : Int32) * (3 : Int32))), some (.int (i6 + 1)), none, none] [] ac_SK V ac_SK K))) ∧
    (¬ i6 < i3 →
      K (some (.int i4)) V)) :
    ab_J G (ac_ST L xs) l (d + 2) 101 9 [some (.ref 64), some (.int i1), some (.int i2), some (.int i3), some (.int i4), some (.int i5), some (.int i6), none, none] [] ac_SK V ac_SK K := by
  refine vc_101_9 ?_
  refine ⟨fun c => ?_, fun c => ?_⟩
  · replace h := h.1 c
    refine vc_98_0 ?_
    refine ⟨h.1, ?_⟩
    replace h := h.2
    refine ⟨h.1, ?_⟩
    replace h := h.2
    refine ⟨h.1, ?_⟩
    replace h := h.2
    obtain ⟨n1, rs1, q1, e1_0, e1_1, e1_2, h⟩ := h
    refine ⟨n1, rs1, q1, e1_0, e1_1, e1_2, ?_⟩
    obtain ⟨n2, rs2, e2_0, e2_1, h⟩ := h
    refine ⟨n2, rs2, e2_0, e2_1, ?_⟩
    exact h
  · replace h := h.2 c
    exact h

set_option maxRecDepth 20000 in
/-- FrameCounty$Weeks weeksWithSoldiers(II)I, from 0 -/
theorem iv_102_0 {G : ab_G} {L : Nat} {xs : Nat → Int32} {l : Launch} {d : Nat} {i0 : Int32} {i1 : Int32} {V : aa_V} {K : aa_K} (h :
    ab_J G (ac_ST L xs) l (d + 2) 102 4 [some (.int i0), some (.int i1), some (.int (0 : Int32)), some (.int (0 : Int32))] [] ac_SK V ac_SK K) :
    ab_E G (ac_ST L xs) l (d + 2) ac_SK 102 [.int i0, .int i1] V K := by
  refine vc_102_0 ?_
  exact h

set_option maxRecDepth 20000 in
/-- FrameCounty$Weeks weeksWithSoldiers(II)I, from 4 -/
theorem iv_102_4 {G : ab_G} {L : Nat} {xs : Nat → Int32} {l : Launch} {d : Nat} {i0 : Int32} {i1 : Int32} {i2 : Int32} {i3 : Int32} {V : aa_V} {K : aa_K} (h :
    (i3 < i1 →
      vp_in ((i1 - (1 : Int32)) - i3) (ac_ST L xs 1).2.1 ∧
      ¬ ((ac_ST L xs 1).2.2 (((i1 - (1 : Int32)) - i3)).toNatClampNeg) = 0 ∧
      ¬ (3 : Int32) = 0 ∧
      (((i0 / ((ac_ST L xs 1).2.2 (((i1 - (1 : Int32)) - i3)).toNatClampNeg)) - (i0 / ((ac_ST L xs 1).2.2 (((i1 - (1 : Int32)) - i3)).toNatClampNeg)) / (3 : Int32) * (3 : Int32)) = (1 : Int32) →
        ab_J G (ac_ST L xs) l (d + 2) 102 4 [some (.int i0), some (.int i1), some (.int (i2 + 1)), some (.int (i3 + 1))] [] ac_SK V ac_SK K) ∧
      (¬ ((i0 / ((ac_ST L xs 1).2.2 (((i1 - (1 : Int32)) - i3)).toNatClampNeg)) - (i0 / ((ac_ST L xs 1).2.2 (((i1 - (1 : Int32)) - i3)).toNatClampNeg)) / (3 : Int32) * (3 : Int32)) = (1 : Int32) →
        ab_J G (ac_ST L xs) l (d + 2) 102 4 [some (.int i0), some (.int i1), some (.int i2), some (.int (i3 + 1))] [] ac_SK V ac_SK K)) ∧
    (¬ i3 < i1 →
      K (some (.int i2)) V)) :
    ab_J G (ac_ST L xs) l (d + 2) 102 4 [some (.int i0), some (.int i1), some (.int i2), some (.int i3)] [] ac_SK V ac_SK K := by
  refine vc_102_4 ?_
  refine ⟨fun c => ?_, fun c => ?_⟩
  · replace h := h.1 c
    refine vc_98_0 ?_
    refine ⟨h.1, ?_⟩
    replace h := h.2
    refine ⟨h.1, ?_⟩
    replace h := h.2
    refine ⟨h.1, ?_⟩
    replace h := h.2
    exact h
  · replace h := h.2 c
    exact h

set_option maxRecDepth 20000 in
/-- FrameCounty$Works tellOf(II)J, from 0 -/
theorem iv_120_0 {G : ab_G} {L : Nat} {xs : Nat → Int32} {l : Launch} {d : Nat} {i1 : Int32} {i2 : Int32} {V : aa_V} {K : aa_K} (h :
    (i2 = 0 →
      vp_in i1 20 ∧
      K (some (.long ((V 32 ((i1).toNatClampNeg)).toInt64))) V) ∧
    (¬ i2 = 0 →
    (i2 = 1 →
      vp_in i1 20 ∧
      K (some (.long ((V 33 ((i1).toNatClampNeg)).toInt64))) V) ∧
    (¬ i2 = 1 →
    (i2 = 2 →
      vp_in i1 20 ∧
      K (some (.long ((V 34 ((i1).toNatClampNeg)).toInt64))) V) ∧
    (¬ i2 = 2 →
    (i2 = 3 →
      vp_in i1 20 ∧
      K (some (.long ((V 35 ((i1).toNatClampNeg)).toInt64))) V) ∧
    (¬ i2 = 3 →
    (i2 = 4 →
      vp_in i1 20 ∧
      K (some (.long ((V 36 ((i1).toNatClampNeg)).toInt64))) V) ∧
    (¬ i2 = 4 →
    (i2 = 5 →
      ab_E G (ac_ST L xs) l (d + 2) ac_SK 126 [.ref 29, .int i1] V (aa_rI (fun x1 V1 =>
        K (some (.long (x1.toInt64))) V1))) ∧
    (¬ i2 = 5 →
    (i2 = 6 →
      ab_E G (ac_ST L xs) l (d + 2) ac_SK 125 [.ref 29, .int i1] V (aa_rI (fun x1 V1 =>
        K (some (.long (x1.toInt64))) V1))) ∧
    (¬ i2 = 6 →
    (i2 = 7 →
      vp_in i1 20 ∧
      ((V 36 ((i1).toNatClampNeg)) = 0 →
        ab_E G (ac_ST L xs) l (d + 1) ac_SK 126 [.ref 29, .int i1] V (aa_rI (fun x1 V1 =>
          vp_in i1 20 ∧
          vp_in (V1 33 ((i1).toNatClampNeg)) 8 ∧
          ab_E G (ac_ST L xs) l (d + 1) ac_SK 125 [.ref 29, .int i1] V1 (aa_rI (fun x2 V2 =>
            K (some (.long (((x1 * (V1 31 (((V1 33 ((i1).toNatClampNeg))).toNatClampNeg))) - x2).toInt64))) V2))))) ∧
      (¬ (V 36 ((i1).toNatClampNeg)) = 0 →
        ab_E G (ac_ST L xs) l (d + 1) ac_SK 125 [.ref 29, .int i1] V (aa_rI (fun x1 V1 =>
          K (some (.long (((0 : Int32) - x1).toInt64))) V1)))) ∧
    (¬ i2 = 7 →
    K (some (.long (-4611686018427387904 : Int64))) V))))))))) :
    ab_E G (ac_ST L xs) l (d + 3) ac_SK 120 [.ref 29, .int i1, .int i2] V K := by
  refine vc_120_0 ?_
  refine ⟨fun c => ?_, fun c => ?_⟩
  · replace h := h.1 c
    refine ⟨h.1, ?_⟩
    replace h := h.2
    exact h
  · replace h := h.2 c
    refine ⟨fun c => ?_, fun c => ?_⟩
    · replace h := h.1 c
      refine ⟨h.1, ?_⟩
      replace h := h.2
      exact h
    · replace h := h.2 c
      refine ⟨fun c => ?_, fun c => ?_⟩
      · replace h := h.1 c
        refine ⟨h.1, ?_⟩
        replace h := h.2
        exact h
      · replace h := h.2 c
        refine ⟨fun c => ?_, fun c => ?_⟩
        · replace h := h.1 c
          refine ⟨h.1, ?_⟩
          replace h := h.2
          exact h
        · replace h := h.2 c
          refine ⟨fun c => ?_, fun c => ?_⟩
          · replace h := h.1 c
            refine ⟨h.1, ?_⟩
            replace h := h.2
            exact h
          · replace h := h.2 c
            refine ⟨fun c => ?_, fun c => ?_⟩
            · replace h := h.1 c
              exact h
            · replace h := h.2 c
              refine ⟨fun c => ?_, fun c => ?_⟩
              · replace h := h.1 c
                exact h
              · replace h := h.2 c
                refine ⟨fun c => ?_, fun c => ?_⟩
                · replace h := h.1 c
                  refine vc_127_0 ?_
                  refine ⟨h.1, ?_⟩
                  replace h := h.2
                  refine ⟨fun c => ?_, fun c => ?_⟩
                  · replace h := h.1 c
                    refine ab_EmI (fun x1 V1 h => ?_) h
                    refine ⟨h.1, ?_⟩
                    replace h := h.2
                    refine ⟨h.1, ?_⟩
                    replace h := h.2
                    refine ab_EmI (fun x2 V2 h => ?_) h
                    exact h
                  · replace h := h.2 c
                    refine ab_EmI (fun x1 V1 h => ?_) h
                    exact h
                · replace h := h.2 c
                  exact h

set_option maxRecDepth 20000 in
/-- FrameCounty$Works change(II)Z, from 0 -/
theorem iv_121_0 {G : ab_G} {L : Nat} {xs : Nat → Int32} {l : Launch} {d : Nat} {i1 : Int32} {i2 : Int32} {V : aa_V} {K : aa_K} (h :
    (i2 = 0 →
      vp_in i1 20 ∧
      ((V 36 ((i1).toNatClampNeg)) = (1 : Int32) →
        vp_in i1 20 ∧
        K (some (.int (1 : Int32))) (aa_up V 36 ((i1).toNatClampNeg) (0 : Int32))) ∧
      (¬ (V 36 ((i1).toNatClampNeg)) = (1 : Int32) →
        K (some (.int (0 : Int32))) V)) ∧
    (¬ i2 = 0 →
      (i2 = (1 : Int32) →
        vp_in i1 20 ∧
        ((V 36 ((i1).toNatClampNeg)) = (2 : Int32) →
          vp_in i1 20 ∧
          K (some (.int (1 : Int32))) (aa_up V 36 ((i1).toNatClampNeg) (0 : Int32))) ∧
        (¬ (V 36 ((i1).toNatClampNeg)) = (2 : Int32) →
          K (some (.int (0 : Int32))) V)) ∧
      (¬ i2 = (1 : Int32) →
        vp_in i1 20 ∧
        ((V 36 ((i1).toNatClampNeg)) = (0 : Int32) →
          vp_in i1 20 ∧
          K (some (.int (1 : Int32))) (aa_up V 36 ((i1).toNatClampNeg) (2 : Int32))) ∧
        (¬ (V 36 ((i1).toNatClampNeg)) = (0 : Int32) →
          K (some (.int (0 : Int32))) V)))) :
    ab_E G (ac_ST L xs) l (d + 1) ac_SK 121 [.ref 29, .int i1, .int i2] V K := by
  refine vc_121_0 ?_
  refine ⟨fun c => ?_, fun c => ?_⟩
  · replace h := h.1 c
    refine ⟨h.1, ?_⟩
    replace h := h.2
    refine ⟨fun c => ?_, fun c => ?_⟩
    · replace h := h.1 c
      refine ⟨fun q => absurd q (by decide), fun q => ?_⟩
      refine ⟨h.1, ?_⟩
      replace h := h.2
      exact ⟨Or.inr rfl, h⟩
    · replace h := h.2 c
      exact ⟨Or.inl rfl, h⟩
  · replace h := h.2 c
    refine ⟨fun c => ?_, fun c => ?_⟩
    · replace h := h.1 c
      refine ⟨h.1, ?_⟩
      replace h := h.2
      refine ⟨fun c => ?_, fun c => ?_⟩
      · replace h := h.1 c
        refine ⟨fun q => absurd q (by decide), fun q => ?_⟩
        refine ⟨h.1, ?_⟩
        replace h := h.2
        exact ⟨Or.inr rfl, h⟩
      · replace h := h.2 c
        exact ⟨Or.inl rfl, h⟩
    · replace h := h.2 c
      refine ⟨h.1, ?_⟩
      replace h := h.2
      refine ⟨fun c => ?_, fun c => ?_⟩
      · replace h := h.1 c
        refine ⟨fun q => ?_, fun q => absurd rfl q⟩
        refine ⟨h.1, ?_⟩
        replace h := h.2
        exact ⟨Or.inr rfl, h⟩
      · replace h := h.2 c
        exact ⟨Or.inl rfl, h⟩

set_option maxRecDepth 20000 in
/-- FrameCounty$Works framesThatAre(I)I, from 0 -/
theorem iv_123_0 {G : ab_G} {L : Nat} {xs : Nat → Int32} {l : Launch} {d : Nat} {i1 : Int32} {V : aa_V} {K : aa_K} (h :
    ab_J G (ac_ST L xs) l (d + 1) 123 4 [some (.ref 29), some (.int i1), some (.int (0 : Int32)), some (.int (0 : Int32))] [] ac_SK V ac_SK K) :
    ab_E G (ac_ST L xs) l (d + 1) ac_SK 123 [.ref 29, .int i1] V K := by
  refine vc_123_0 ?_
  exact h

set_option maxRecDepth 20000 in
/-- FrameCounty$Works framesThatAre(I)I, from 4 -/
theorem iv_123_4 {G : ab_G} {L : Nat} {xs : Nat → Int32} {l : Launch} {d : Nat} {i1 : Int32} {i2 : Int32} {i3 : Int32} {V : aa_V} {K : aa_K} (h :
    (i3 < (V 29 3) →
      vp_in i3 20 ∧
      ((V 36 ((i3).toNatClampNeg)) = i1 →
        ab_J G (ac_ST L xs) l (d + 1) 123 4 [some (.ref 29), some (.int i1), some (.int (i2 + 1)), some (.int (i3 + 1))] [] ac_SK V ac_SK K) ∧
      (¬ (V 36 ((i3).toNatClampNeg)) = i1 →
        ab_J G (ac_ST L xs) l (d + 1) 123 4 [some (.ref 29), some (.int i1), some (.int i2), some (.int (i3 + 1))] [] ac_SK V ac_SK K)) ∧
    (¬ i3 < (V 29 3) →
      K (some (.int i2)) V)) :
    ab_J G (ac_ST L xs) l (d + 1) 123 4 [some (.ref 29), some (.int i1), some (.int i2), some (.int i3)] [] ac_SK V ac_SK K := by
  refine vc_123_4 ?_
  exact h

set_option maxRecDepth 20000 in
/-- FrameCounty$Works isOfKind(II)Z, from 0 -/
theorem iv_124_0 {G : ab_G} {L : Nat} {xs : Nat → Int32} {l : Launch} {d : Nat} {i1 : Int32} {i2 : Int32} {V : aa_V} {K : aa_K} (h :
    vp_in i1 20 ∧
    ab_J G (ac_ST L xs) l (d + 1) 124 10 [none, none, some (.int i2), some (.int (V 32 ((i1).toNatClampNeg))), some (.int (0 : Int32))] [] ac_SK V ac_SK K) :
    ab_E G (ac_ST L xs) l (d + 1) ac_SK 124 [.ref 29, .int i1, .int i2] V K := by
  refine vc_124_0 ?_
  refine ⟨h.1, ?_⟩
  replace h := h.2
  exact h

set_option maxRecDepth 20000 in
/-- FrameCounty$Works isOfKind(II)Z, from 10 -/
theorem iv_124_10 {G : ab_G} {L : Nat} {xs : Nat → Int32} {l : Launch} {d : Nat} {i2 : Int32} {i3 : Int32} {i4 : Int32} {V : aa_V} {K : aa_K} (h :
    (i4 < (6 : Int32) →
      (i3 = (-1 : Int32) →
        K (some (.int (0 : Int32))) V) ∧
      (¬ i3 = (-1 : Int32) →
        (i3 = i2 →
          K (some (.int (1 : Int32))) V) ∧
        (¬ i3 = i2 →
          vp_in i3 (ac_ST L xs 0).2.1 ∧
          ab_J G (ac_ST L xs) l (d + 1) 124 10 [none, none, some (.int i2), some (.int ((ac_ST L xs 0).2.2 (i3).toNatClampNeg)), some (.int (i4 + 1))] [] ac_SK V ac_SK K))) ∧
    (¬ i4 < (6 : Int32) →
      K (some (.int (0 : Int32))) V)) :
    ab_J G (ac_ST L xs) l (d + 1) 124 10 [none, none, some (.int i2), some (.int i3), some (.int i4)] [] ac_SK V ac_SK K := by
  refine vc_124_10 ?_
  refine ⟨fun c => ?_, fun c => ?_⟩
  · replace h := h.1 c
    refine ⟨fun c => ?_, fun c => ?_⟩
    · replace h := h.1 c
      exact ⟨Or.inl rfl, h⟩
    · replace h := h.2 c
      refine ⟨fun c => ?_, fun c => ?_⟩
      · replace h := h.1 c
        exact ⟨Or.inr rfl, h⟩
      · replace h := h.2 c
        refine ⟨h.1, ?_⟩
        replace h := h.2
        exact h
  · replace h := h.2 c
    exact ⟨Or.inl rfl, h⟩

set_option maxRecDepth 20000 in
/-- FrameCounty$Works rentPaid(I)I, from 0 -/
theorem iv_125_0 {G : ab_G} {L : Nat} {xs : Nat → Int32} {l : Launch} {d : Nat} {i1 : Int32} {V : aa_V} {K : aa_K} (h :
    vp_in i1 20 ∧
    ((V 32 ((i1).toNatClampNeg)) = 2 →
      vp_in i1 20 ∧
      ¬ (2 : Int32) = 0 ∧
      K (some (.int ((V 35 ((i1).toNatClampNeg)) / (2 : Int32)))) V) ∧
    (¬ (V 32 ((i1).toNatClampNeg)) = 2 →
    ((V 32 ((i1).toNatClampNeg)) = 3 →
      vp_in i1 20 ∧
      K (some (.int ((V 35 ((i1).toNatClampNeg)) + (2 : Int32)))) V) ∧
    (¬ (V 32 ((i1).toNatClampNeg)) = 3 →
    ((V 32 ((i1).toNatClampNeg)) = 4 →
      vp_in i1 20 ∧
      ¬ (2 : Int32) = 0 ∧
      K (some (.int ((V 35 ((i1).toNatClampNeg)) / (2 : Int32)))) V) ∧
    (¬ (V 32 ((i1).toNatClampNeg)) = 4 →
    ((V 32 ((i1).toNatClampNeg)) = 5 →
      vp_in i1 20 ∧
      vp_in i1 20 ∧
      K (some (.int ((V 35 ((i1).toNatClampNeg)) + (V 34 ((i1).toNatClampNeg))))) V) ∧
    (¬ (V 32 ((i1).toNatClampNeg)) = 5 →
    vp_in i1 20 ∧
    K (some (.int (V 35 ((i1).toNatClampNeg)))) V))))) :
    ab_E G (ac_ST L xs) l (d + 1) ac_SK 125 [.ref 29, .int i1] V K := by
  refine vc_125_0 ?_
  refine ⟨h.1, ?_⟩
  replace h := h.2
  exact h

set_option maxRecDepth 20000 in
/-- FrameCounty$Works makes(I)I, from 0 -/
theorem iv_126_0 {G : ab_G} {L : Nat} {xs : Nat → Int32} {l : Launch} {d : Nat} {i1 : Int32} {V : aa_V} {K : aa_K} (h :
    vp_in i1 20 ∧
    ¬ (10 : Int32) = 0 ∧
    vp_in i1 20 ∧
    ((V 32 ((i1).toNatClampNeg)) = 1 →
      K (some (.int (((V 34 ((i1).toNatClampNeg)) / (10 : Int32)) + (3 : Int32)))) V) ∧
    (¬ (V 32 ((i1).toNatClampNeg)) = 1 →
    ((V 32 ((i1).toNatClampNeg)) = 2 →
      K (some (.int (((V 34 ((i1).toNatClampNeg)) / (10 : Int32)) - (1 : Int32)))) V) ∧
    (¬ (V 32 ((i1).toNatClampNeg)) = 2 →
    ((V 32 ((i1).toNatClampNeg)) = 3 →
      K (some (.int ((((V 34 ((i1).toNatClampNeg)) / (10 : Int32)) + (3 : Int32)) * (2 : Int32)))) V) ∧
    (¬ (V 32 ((i1).toNatClampNeg)) = 3 →
    ((V 32 ((i1).toNatClampNeg)) = 4 →
      ¬ (2 : Int32) = 0 ∧
      K (some (.int ((((V 34 ((i1).toNatClampNeg)) / (10 : Int32)) - (1 : Int32)) / (2 : Int32)))) V) ∧
    (¬ (V 32 ((i1).toNatClampNeg)) = 4 →
    ((V 32 ((i1).toNatClampNeg)) = 5 →
      K (some (.int (((V 34 ((i1).toNatClampNeg)) / (10 : Int32)) * (4 : Int32)))) V) ∧
    (¬ (V 32 ((i1).toNatClampNeg)) = 5 →
    K (some (.int ((V 34 ((i1).toNatClampNeg)) / (10 : Int32)))) V)))))) :
    ab_E G (ac_ST L xs) l (d + 1) ac_SK 126 [.ref 29, .int i1] V K := by
  refine vc_126_0 ?_
  refine ⟨h.1, ?_⟩
  replace h := h.2
  refine ⟨h.1, ?_⟩
  replace h := h.2
  refine ⟨h.1, ?_⟩
  replace h := h.2
  exact h

set_option maxRecDepth 20000 in
/-- FrameCounty$Works earnedBy(I)I, from 0 -/
theorem iv_128_0 {G : ab_G} {L : Nat} {xs : Nat → Int32} {l : Launch} {d : Nat} {i1 : Int32} {V : aa_V} {K : aa_K} (h :
    ab_J G (ac_ST L xs) l (d + 3) 128 4 [some (.ref 29), some (.int i1), some (.int (0 : Int32)), some (.int (0 : Int32))] [] ac_SK V ac_SK K) :
    ab_E G (ac_ST L xs) l (d + 3) ac_SK 128 [.ref 29, .int i1] V K := by
  refine vc_128_0 ?_
  exact h

set_option maxRecDepth 20000 in
/-- FrameCounty$Works earnedBy(I)I, from 4 -/
theorem iv_128_4 {G : ab_G} {L : Nat} {xs : Nat → Int32} {l : Launch} {d : Nat} {i1 : Int32} {i2 : Int32} {i3 : Int32} {V : aa_V} {K : aa_K} (h :
    (i3 < (V 29 3) →
      vp_in i3 20 ∧
      ((V 33 ((i3).toNatClampNeg)) = i1 →
        vp_in i3 20 ∧
        ((V 36 ((i3).toNatClampNeg)) = 0 →
          ab_E G (ac_ST L xs) l (d + 1) ac_SK 126 [.ref 29, .int i3] V (aa_rI (fun x1 V1 =>
            vp_in i3 20 ∧
            vp_in (V1 33 ((i3).toNatClampNeg)) 8 ∧
            ab_E G (ac_ST L xs) l (d + 1) ac_SK 125 [.ref 29, .int i3] V1 (aa_rI (fun x2 V2 =>
              ab_J G (ac_ST L xs) l (d + 3) 128 4 [some (.ref 29), some (.int i1), some (.int (i2 + ((x1 * (V1 31 (((V1 33 ((i3).toNatClampNeg))).toNatClampNeg))) - x2))), some (.int (i3 + 1))] [] ac_SK V2 ac_SK K))))) ∧
        (¬ (V 36 ((i3).toNatClampNeg)) = 0 →
          ab_E G (ac_ST L xs) l (d + 1) ac_SK 125 [.ref 29, .int i3] V (aa_rI (fun x1 V1 =>
            ab_J G (ac_ST L xs) l (d + 3) 128 4 [some (.ref 29), some (.int i1), some (.int (i2 + ((0 : Int32) - x1))), some (.int (i3 + 1))] [] ac_SK V1 ac_SK K)))) ∧
      (¬ (V 33 ((i3).toNatClampNeg)) = i1 →
        ab_J G (ac_ST L xs) l (d + 3) 128 4 [some (.ref 29), some (.int i1), some (.int i2), some (.int (i3 + 1))] [] ac_SK V ac_SK K)) ∧
    (¬ i3 < (V 29 3) →
      K (some (.int i2)) V)) :
    ab_J G (ac_ST L xs) l (d + 3) 128 4 [some (.ref 29), some (.int i1), some (.int i2), some (.int i3)] [] ac_SK V ac_SK K := by
  refine vc_128_4 ?_
  refine ⟨fun c => ?_, fun c => ?_⟩
  · replace h := h.1 c
    refine ⟨h.1, ?_⟩
    replace h := h.2
    refine ⟨fun c => ?_, fun c => ?_⟩
    · replace h := h.1 c
      refine vc_127_0 ?_
      refine ⟨h.1, ?_⟩
      replace h := h.2
      refine ⟨fun c => ?_, fun c => ?_⟩
      · replace h := h.1 c
        refine ab_EmI (fun x1 V1 h => ?_) h
        refine ⟨h.1, ?_⟩
        replace h := h.2
        refine ⟨h.1, ?_⟩
        replace h := h.2
        refine ab_EmI (fun x2 V2 h => ?_) h
        exact h
      · replace h := h.2 c
        refine ab_EmI (fun x1 V1 h => ?_) h
        exact h
    · replace h := h.2 c
      exact h
  · replace h := h.2 c
    exact h

set_option maxRecDepth 20000 in
/-- FrameCounty$Works struckIn(I)I, from 0 -/
theorem iv_129_0 {G : ab_G} {L : Nat} {xs : Nat → Int32} {l : Launch} {d : Nat} {i1 : Int32} {V : aa_V} {K : aa_K} (h :
    ab_J G (ac_ST L xs) l (d + 1) 129 4 [some (.ref 29), some (.int i1), some (.int (0 : Int32)), some (.int (0 : Int32))] [] ac_SK V ac_SK K) :
    ab_E G (ac_ST L xs) l (d + 1) ac_SK 129 [.ref 29, .int i1] V K := by
  refine vc_129_0 ?_
  exact h

set_option maxRecDepth 20000 in
/-- FrameCounty$Works struckIn(I)I, from 4 -/
theorem iv_129_4 {G : ab_G} {L : Nat} {xs : Nat → Int32} {l : Launch} {d : Nat} {i1 : Int32} {i2 : Int32} {i3 : Int32} {V : aa_V} {K : aa_K} (h :
    (i3 < (V 29 3) →
      vp_in i3 20 ∧
      ((V 36 ((i3).toNatClampNeg)) = (1 : Int32) →
        vp_in i3 20 ∧
        ((V 37 ((i3).toNatClampNeg)) = i1 →
          ab_J G (ac_ST L xs) l (d + 1) 129 4 [some (.ref 29), some (.int i1), some (.int (i2 ||| ((1 : Int32) <<< (i3 &&& 31)))), some (.int (i3 + 1))] [] ac_SK V ac_SK K) ∧
        (¬ (V 37 ((i3).toNatClampNeg)) = i1 →
          ab_J G (ac_ST L xs) l (d + 1) 129 4 [some (.ref 29), some (.int i1), some (.int i2), some (.int (i3 + 1))] [] ac_SK V ac_SK K)) ∧
      (¬ (V 36 ((i3).toNatClampNeg)) = (1 : Int32) →
        ab_J G (ac_ST L xs) l (d + 1) 129 4 [some (.ref 29), some (.int i1), some (.int i2), some (.int (i3 + 1))] [] ac_SK V ac_SK K)) ∧
    (¬ i3 < (V 29 3) →
      K (some (.int i2)) V)) :
    ab_J G (ac_ST L xs) l (d + 1) 129 4 [some (.ref 29), some (.int i1), some (.int i2), some (.int i3)] [] ac_SK V ac_SK K := by
  refine vc_129_4 ?_
  exact h

set_option maxRecDepth 20000 in
/-- FrameCounty$Works sparedBy(I)I, from 0 -/
theorem iv_130_0 {G : ab_G} {L : Nat} {xs : Nat → Int32} {l : Launch} {d : Nat} {i1 : Int32} {V : aa_V} {K : aa_K} (h :
    ab_E G (ac_ST L xs) l (d + 1) ac_SK 131 [.ref 29, .int i1] V (aa_rI (fun x1 V1 =>
      ab_J G (ac_ST L xs) l (d + 2) 130 11 [some (.ref 29), none, some (.int x1), some (.int (0 : Int32)), some (.int (0 : Int32))] [] ac_SK V1 ac_SK K))) :
    ab_E G (ac_ST L xs) l (d + 2) ac_SK 130 [.ref 29, .int i1] V K := by
  refine vc_130_0 ?_
  exact h

set_option maxRecDepth 20000 in
/-- FrameCounty$Works sparedBy(I)I, from 11 -/
theorem iv_130_11 {G : ab_G} {L : Nat} {xs : Nat → Int32} {l : Launch} {d : Nat} {i2 : Int32} {i3 : Int32} {i4 : Int32} {V : aa_V} {K : aa_K} (h :
    (i4 < (V 29 3) →
      vp_in i4 20 ∧
      ((V 36 ((i4).toNatClampNeg)) = 0 →
        vp_in i4 20 ∧
        (((i2 >>> ((V 33 ((i4).toNatClampNeg)) &&& 31)) &&& (1 : Int32)) = (1 : Int32) →
          ab_J G (ac_ST L xs) l (d + 2) 130 11 [some (.ref 29), none, some (.int i2), some (.int (i3 ||| ((1 : Int32) <<< (i4 &&& 31)))), some (.int (i4 + 1))] [] ac_SK V ac_SK K) ∧
        (¬ ((i2 >>> ((V 33 ((i4).toNatClampNeg)) &&& 31)) &&& (1 : Int32)) = (1 : Int32) →
          ab_J G (ac_ST L xs) l (d + 2) 130 11 [some (.ref 29), none, some (.int i2), some (.int i3), some (.int (i4 + 1))] [] ac_SK V ac_SK K)) ∧
      (¬ (V 36 ((i4).toNatClampNeg)) = 0 →
        ab_J G (ac_ST L xs) l (d + 2) 130 11 [some (.ref 29), none, some (.int i2), some (.int i3), some (.int (i4 + 1))] [] ac_SK V ac_SK K)) ∧
    (¬ i4 < (V 29 3) →
      K (some (.int i3)) V)) :
    ab_J G (ac_ST L xs) l (d + 2) 130 11 [some (.ref 29), none, some (.int i2), some (.int i3), some (.int i4)] [] ac_SK V ac_SK K := by
  refine vc_130_11 ?_
  exact h

set_option maxRecDepth 20000 in
/-- FrameCounty$Works shopsWith(I)I, from 0 -/
theorem iv_131_0 {G : ab_G} {L : Nat} {xs : Nat → Int32} {l : Launch} {d : Nat} {i1 : Int32} {V : aa_V} {K : aa_K} (h :
    ab_J G (ac_ST L xs) l (d + 1) 131 4 [some (.ref 29), some (.int i1), some (.int (0 : Int32)), some (.int (0 : Int32))] [] ac_SK V ac_SK K) :
    ab_E G (ac_ST L xs) l (d + 1) ac_SK 131 [.ref 29, .int i1] V K := by
  refine vc_131_0 ?_
  exact h

set_option maxRecDepth 20000 in
/-- FrameCounty$Works shopsWith(I)I, from 4 -/
theorem iv_131_4 {G : ab_G} {L : Nat} {xs : Nat → Int32} {l : Launch} {d : Nat} {i1 : Int32} {i2 : Int32} {i3 : Int32} {V : aa_V} {K : aa_K} (h :
    (i3 < (V 29 3) →
      (((i1 >>> (i3 &&& 31)) &&& (1 : Int32)) = (1 : Int32) →
        vp_in i3 20 ∧
        ab_J G (ac_ST L xs) l (d + 1) 131 4 [some (.ref 29), some (.int i1), some (.int (i2 ||| ((1 : Int32) <<< ((V 33 ((i3).toNatClampNeg)) &&& 31)))), some (.int (i3 + 1))] [] ac_SK V ac_SK K) ∧
      (¬ ((i1 >>> (i3 &&& 31)) &&& (1 : Int32)) = (1 : Int32) →
        ab_J G (ac_ST L xs) l (d + 1) 131 4 [some (.ref 29), some (.int i1), some (.int i2), some (.int (i3 + 1))] [] ac_SK V ac_SK K)) ∧
    (¬ i3 < (V 29 3) →
      K (some (.int i2)) V)) :
    ab_J G (ac_ST L xs) l (d + 1) 131 4 [some (.ref 29), some (.int i1), some (.int i2), some (.int i3)] [] ac_SK V ac_SK K := by
  refine vc_131_4 ?_
  exact h

set_option maxRecDepth 20000 in
/-- FrameCounty$Works fits(II)Z, from 0 -/
theorem iv_132_0 {G : ab_G} {L : Nat} {xs : Nat → Int32} {l : Launch} {d : Nat} {i1 : Int32} {i2 : Int32} {V : aa_V} {K : aa_K} (h :
    ¬ (300 : Int32) = 0 ∧
    ab_E G (ac_ST L xs) l (d + 1) ac_SK 133 [.ref 29, .int (i1 / (300 : Int32)), .int i2] V (aa_rI (fun x1 V1 =>
      ¬ (100 : Int32) = 0 ∧
      ¬ (100 : Int32) = 0 ∧
      ¬ (3 : Int32) = 0 ∧
      (((i1 / (100 : Int32)) - (i1 / (100 : Int32)) / (3 : Int32) * (3 : Int32)) = 0 →
        (x1 < (i1 - i1 / (100 : Int32) * (100 : Int32)) →
          K (some (.int (1 : Int32))) V1) ∧
        (¬ x1 < (i1 - i1 / (100 : Int32) * (100 : Int32)) →
          K (some (.int (0 : Int32))) V1)) ∧
      (¬ ((i1 / (100 : Int32)) - (i1 / (100 : Int32)) / (3 : Int32) * (3 : Int32)) = 0 →
      (((i1 / (100 : Int32)) - (i1 / (100 : Int32)) / (3 : Int32) * (3 : Int32)) = 1 →
        (x1 = (i1 - i1 / (100 : Int32) * (100 : Int32)) →
          K (some (.int (1 : Int32))) V1) ∧
        (¬ x1 = (i1 - i1 / (100 : Int32) * (100 : Int32)) →
          K (some (.int (0 : Int32))) V1)) ∧
      (¬ ((i1 / (100 : Int32)) - (i1 / (100 : Int32)) / (3 : Int32) * (3 : Int32)) = 1 →
      ((i1 - i1 / (100 : Int32) * (100 : Int32)) < x1 →
        K (some (.int (1 : Int32))) V1) ∧
      (¬ (i1 - i1 / (100 : Int32) * (100 : Int32)) < x1 →
        K (some (.int (0 : Int32))) V1)))))) :
    ab_E G (ac_ST L xs) l (d + 2) ac_SK 132 [.ref 29, .int i1, .int i2] V K := by
  refine vc_132_0 ?_
  refine ⟨h.1, ?_⟩
  replace h := h.2
  refine ab_EmI (fun x1 V1 h => ?_) h
  refine ⟨h.1, ?_⟩
  replace h := h.2
  refine ⟨h.1, ?_⟩
  replace h := h.2
  refine ⟨h.1, ?_⟩
  replace h := h.2
  refine ⟨fun c => ?_, fun c => ?_⟩
  · replace h := h.1 c
    refine ⟨fun c => ?_, fun c => ?_⟩
    · replace h := h.1 c
      exact ⟨Or.inr rfl, h⟩
    · replace h := h.2 c
      exact ⟨Or.inl rfl, h⟩
  · replace h := h.2 c
    refine ⟨fun c => ?_, fun c => ?_⟩
    · replace h := h.1 c
      refine ⟨fun c => ?_, fun c => ?_⟩
      · replace h := h.1 c
        exact ⟨Or.inr rfl, h⟩
      · replace h := h.2 c
        exact ⟨Or.inl rfl, h⟩
    · replace h := h.2 c
      refine ⟨fun c => ?_, fun c => ?_⟩
      · replace h := h.1 c
        exact ⟨Or.inr rfl, h⟩
      · replace h := h.2 c
        exact ⟨Or.inl rfl, h⟩

set_option maxRecDepth 20000 in
/-- FrameCounty$Works fieldOf(II)I, from 0 -/
theorem iv_133_0 {G : ab_G} {L : Nat} {xs : Nat → Int32} {l : Launch} {d : Nat} {i1 : Int32} {i2 : Int32} {V : aa_V} {K : aa_K} (h :
    (i1 = 0 →
      vp_in i2 20 ∧
      K (some (.int (V 34 ((i2).toNatClampNeg)))) V) ∧
    (¬ i1 = 0 →
    (i1 = 1 →
      vp_in i2 20 ∧
      K (some (.int (V 35 ((i2).toNatClampNeg)))) V) ∧
    (¬ i1 = 1 →
    (i1 = 2 →
      vp_in i2 20 ∧
      K (some (.int (V 32 ((i2).toNatClampNeg)))) V) ∧
    (¬ i1 = 2 →
    (i1 = 3 →
      vp_in i2 20 ∧
      vp_in (V 33 ((i2).toNatClampNeg)) 8 ∧
      K (some (.int (V 31 (((V 33 ((i2).toNatClampNeg))).toNatClampNeg)))) V) ∧
    (¬ i1 = 3 →
    vp_in i2 20 ∧
    vp_in (V 33 ((i2).toNatClampNeg)) 8 ∧
    K (some (.int (V 30 (((V 33 ((i2).toNatClampNeg))).toNatClampNeg)))) V))))) :
    ab_E G (ac_ST L xs) l (d + 1) ac_SK 133 [.ref 29, .int i1, .int i2] V K := by
  refine vc_133_0 ?_
  exact h

set_option maxRecDepth 20000 in
/-- FrameCounty$Works parts(III)Z, from 0 -/
theorem iv_134_0 {G : ab_G} {L : Nat} {xs : Nat → Int32} {l : Launch} {d : Nat} {i1 : Int32} {i2 : Int32} {i3 : Int32} {V : aa_V} {K : aa_K} (h :
    (i2 = 0 →
      K (some (.int (0 : Int32))) V) ∧
    (¬ i2 = 0 →
      ab_J G (ac_ST L xs) l (d + 2) 134 9 [some (.ref 29), some (.int i1), some (.int i2), some (.int i3), some (.int (0 : Int32)), none, none] [] ac_SK V ac_SK K)) :
    ab_E G (ac_ST L xs) l (d + 2) ac_SK 134 [.ref 29, .int i1, .int i2, .int i3] V K := by
  refine vc_134_0 ?_
  refine ⟨fun c => ?_, fun c => ?_⟩
  · replace h := h.1 c
    exact ⟨Or.inl rfl, h⟩
  · replace h := h.2 c
    exact h

set_option maxRecDepth 20000 in
/-- FrameCounty$Works parts(III)Z, from 9 -/
theorem iv_134_9 {G : ab_G} {L : Nat} {xs : Nat → Int32} {l : Launch} {d : Nat} {i1 : Int32} {i2 : Int32} {i3 : Int32} {i4 : Int32} {V : aa_V} {K : aa_K} (h :
    (i4 < (V 29 3) →
      (((i2 >>> (i4 &&& 31)) &&& (1 : Int32)) = (1 : Int32) →
        (((i3 >>> (i4 &&& 31)) &&& (1 : Int32)) = (1 : Int32) →
          ab_E G (ac_ST L xs) l (d + 1) ac_SK 132 [.ref 29, .int i1, .int i4] V (aa_rI (fun x1 V1 =>
            (x1 = (1 : Int32) →
              ab_J G (ac_ST L xs) l (d + 2) 134 9 [some (.ref 29), some (.int i1), some (.int i2), some (.int i3), some (.int (i4 + 1)), none, none] [] ac_SK V1 ac_SK K) ∧
            (¬ x1 = (1 : Int32) →
              K (some (.int (0 : Int32))) V1)))) ∧
        (¬ ((i3 >>> (i4 &&& 31)) &&& (1 : Int32)) = (1 : Int32) →
          ab_E G (ac_ST L xs) l (d + 1) ac_SK 132 [.ref 29, .int i1, .int i4] V (aa_rI (fun x1 V1 =>
            (x1 = (1 : Int32) →
              ab_J G (ac_ST L xs) l (d + 2) 134 9 [some (.ref 29), some (.int i1), some (.int i2), some (.int i3), some (.int (i4 + 1)), none, none] [] ac_SK V1 ac_SK K) ∧
            (¬ x1 = (1 : Int32) →
              K (some (.int (0 : Int32))) V1))))) ∧
      (¬ ((i2 >>> (i4 &&& 31)) &&& (1 : Int32)) = (1 : Int32) →
        (((i3 >>> (i4 &&& 31)) &&& (1 : Int32)) = (1 : Int32) →
          ab_E G (ac_ST L xs) l (d + 1) ac_SK 132 [.ref 29, .int i1, .int i4] V (aa_rI (fun x1 V1 =>
            (x1 = (0 : Int32) →
              ab_J G (ac_ST L xs) l (d + 2) 134 9 [some (.ref 29), some (.int i1), some (.int i2), some (.int i3), some (.int (i4 + 1)), none, none] [] ac_SK V1 ac_SK K) ∧
            (¬ x1 = (0 : Int32) →
              K (some (.int (0 : Int32))) V1)))) ∧
        (¬ ((i3 >>> (i4 &&& 31)) &&& (1 : Int32)) = (1 : Int32) →
          ab_J G (ac_ST L xs) l (d + 2) 134 9 [some (.ref 29), some (.int i1), some (.int i2), some (.int i3), some (.int (i4 + 1)), none, none] [] ac_SK V ac_SK K))) ∧
    (¬ i4 < (V 29 3) →
      K (some (.int (1 : Int32))) V)) :
    ab_J G (ac_ST L xs) l (d + 2) 134 9 [some (.ref 29), some (.int i1), some (.int i2), some (.int i3), some (.int i4), none, none] [] ac_SK V ac_SK K := by
  refine vc_134_9 ?_
  refine ⟨fun c => ?_, fun c => ?_⟩
  · replace h := h.1 c
    refine ⟨fun c => ?_, fun c => ?_⟩
    · replace h := h.1 c
      refine ⟨fun c => ?_, fun c => ?_⟩
      · replace h := h.1 c
        refine ⟨fun q => absurd q (by decide), fun q => ?_⟩
        refine ab_EmI (fun x1 V1 h => ?_) h
        refine ⟨fun c => ?_, fun c => ?_⟩
        · replace h := h.1 c
          exact h
        · replace h := h.2 c
          exact ⟨Or.inl rfl, h⟩
      · replace h := h.2 c
        refine ⟨fun q => absurd q (by decide), fun q => ?_⟩
        refine ab_EmI (fun x1 V1 h => ?_) h
        refine ⟨fun c => ?_, fun c => ?_⟩
        · replace h := h.1 c
          exact h
        · replace h := h.2 c
          exact ⟨Or.inl rfl, h⟩
    · replace h := h.2 c
      refine ⟨fun c => ?_, fun c => ?_⟩
      · replace h := h.1 c
        refine ⟨fun q => ?_, fun q => absurd rfl q⟩
        refine ⟨fun q => absurd q (by decide), fun q => ?_⟩
        refine ab_EmI (fun x1 V1 h => ?_) h
        refine ⟨fun c => ?_, fun c => ?_⟩
        · replace h := h.1 c
          exact h
        · replace h := h.2 c
          exact ⟨Or.inl rfl, h⟩
      · replace h := h.2 c
        refine ⟨fun q => ?_, fun q => absurd rfl q⟩
        refine ⟨fun q => ?_, fun q => absurd rfl q⟩
        exact h
  · replace h := h.2 c
    exact ⟨Or.inr rfl, h⟩

set_option maxRecDepth 20000 in
/-- FrameCounty$Works nextShop(II)I, from 0 -/
theorem iv_135_0 {G : ab_G} {L : Nat} {xs : Nat → Int32} {l : Launch} {d : Nat} {i1 : Int32} {i2 : Int32} {V : aa_V} {K : aa_K} (h :
    ab_E G (ac_ST L xs) l (d + 1) ac_SK 131 [.ref 29, .int i2] V (aa_rI (fun x1 V1 =>
      ab_J G (ac_ST L xs) l (d + 2) 135 15 [some (.ref 29), some (.int i1), none, some (.int x1), some (.int (-1 : Int32)), some (.int (0 : Int32)), some (.int (0 : Int32)), none] [] ac_SK V1 ac_SK K))) :
    ab_E G (ac_ST L xs) l (d + 2) ac_SK 135 [.ref 29, .int i1, .int i2] V K := by
  refine vc_135_0 ?_
  exact h

set_option maxRecDepth 20000 in
/-- FrameCounty$Works nextShop(II)I, from 15 -/
theorem iv_135_15 {G : ab_G} {L : Nat} {xs : Nat → Int32} {l : Launch} {d : Nat} {i1 : Int32} {i3 : Int32} {i4 : Int32} {i5 : Int32} {i6 : Int32} {V : aa_V} {K : aa_K} (h :
    (i6 < (V 29 0) →
      (((i3 >>> (i6 &&& 31)) &&& (1 : Int32)) = (1 : Int32) →
        (i5 < (0 : Int32) →
          ab_J G (ac_ST L xs) l (d + 2) 135 15 [some (.ref 29), some (.int i1), none, some (.int i3), some (.int i6), some (.int (0 : Int32)), some (.int (i6 + 1)), none] [] ac_SK V ac_SK K) ∧
        (¬ i5 < (0 : Int32) →
          ab_J G (ac_ST L xs) l (d + 2) 135 15 [some (.ref 29), some (.int i1), none, some (.int i3), some (.int i4), some (.int i5), some (.int (i6 + 1)), none] [] ac_SK V ac_SK K)) ∧
      (¬ ((i3 >>> (i6 &&& 31)) &&& (1 : Int32)) = (1 : Int32) →
        ab_E G (ac_ST L xs) l (d + 1) ac_SK 136 [.ref 29, .int i1, .int i6] V (aa_rI (fun x1 V1 =>
          (i5 < x1 →
            ab_J G (ac_ST L xs) l (d + 2) 135 15 [some (.ref 29), some (.int i1), none, some (.int i3), some (.int i6), some (.int x1), some (.int (i6 + 1)), none] [] ac_SK V1 ac_SK K) ∧
          (¬ i5 < x1 →
            ab_J G (ac_ST L xs) l (d + 2) 135 15 [some (.ref 29), some (.int i1), none, some (.int i3), some (.int i4), some (.int i5), some (.int (i6 + 1)), none] [] ac_SK V1 ac_SK K))))) ∧
    (¬ i6 < (V 29 0) →
      K (some (.int i4)) V)) :
    ab_J G (ac_ST L xs) l (d + 2) 135 15 [some (.ref 29), some (.int i1), none, some (.int i3), some (.int i4), some (.int i5), some (.int i6), none] [] ac_SK V ac_SK K := by
  refine vc_135_15 ?_
  exact h

set_option maxRecDepth 20000 in
/-- FrameCounty$Works wholeThatFit(II)I, from 0 -/
theorem iv_136_0 {G : ab_G} {L : Nat} {xs : Nat → Int32} {l : Launch} {d : Nat} {i1 : Int32} {i2 : Int32} {V : aa_V} {K : aa_K} (h :
    ab_J G (ac_ST L xs) l (d + 2) 136 5 [some (.ref 29), some (.int i1), some (.int i2), some (.int (0 : Int32)), some (.int (0 : Int32))] [] ac_SK V ac_SK K) :
    ab_E G (ac_ST L xs) l (d + 2) ac_SK 136 [.ref 29, .int i1, .int i2] V K := by
  refine vc_136_0 ?_
  exact h

set_option maxRecDepth 20000 in
/-- FrameCounty$Works wholeThatFit(II)I, from 5 -/
theorem iv_136_5 {G : ab_G} {L : Nat} {xs : Nat → Int32} {l : Launch} {d : Nat} {i1 : Int32} {i2 : Int32} {i3 : Int32} {i4 : Int32} {V : aa_V} {K : aa_K} (h :
    (i4 < (V 29 3) →
      vp_in i4 20 ∧
      ((V 33 ((i4).toNatClampNeg)) = i2 →
        vp_in i4 20 ∧
        ((V 36 ((i4).toNatClampNeg)) = 0 →
          ab_E G (ac_ST L xs) l (d + 1) ac_SK 132 [.ref 29, .int i1, .int i4] V (aa_rI (fun x1 V1 =>
            (x1 = 0 →
              ab_J G (ac_ST L xs) l (d + 2) 136 5 [some (.ref 29), some (.int i1), some (.int i2), some (.int i3), some (.int (i4 + 1))] [] ac_SK V1 ac_SK K) ∧
            (¬ x1 = 0 →
              ab_J G (ac_ST L xs) l (d + 2) 136 5 [some (.ref 29), some (.int i1), some (.int i2), some (.int (i3 + 1)), some (.int (i4 + 1))] [] ac_SK V1 ac_SK K)))) ∧
        (¬ (V 36 ((i4).toNatClampNeg)) = 0 →
          ab_J G (ac_ST L xs) l (d + 2) 136 5 [some (.ref 29), some (.int i1), some (.int i2), some (.int i3), some (.int (i4 + 1))] [] ac_SK V ac_SK K)) ∧
      (¬ (V 33 ((i4).toNatClampNeg)) = i2 →
        ab_J G (ac_ST L xs) l (d + 2) 136 5 [some (.ref 29), some (.int i1), some (.int i2), some (.int i3), some (.int (i4 + 1))] [] ac_SK V ac_SK K)) ∧
    (¬ i4 < (V 29 3) →
      K (some (.int i3)) V)) :
    ab_J G (ac_ST L xs) l (d + 2) 136 5 [some (.ref 29), some (.int i1), some (.int i2), some (.int i3), some (.int i4)] [] ac_SK V ac_SK K := by
  refine vc_136_5 ?_
  exact h

set_option maxRecDepth 20000 in
/-- java/lang/Integer bitCount(I)I, from 0 -/
theorem iv_285_0 {G : ab_G} {L : Nat} {xs : Nat → Int32} {l : Launch} {d : Nat} {i0 : Int32} {V : aa_V} {K : aa_K} (h :
    K (some (.int ((((((((i0 - (((i0.toUInt32 >>> ((1 : Int32).toUInt32 &&& Int32.toUInt32 31)).toInt32) &&& (1431655765 : Int32))) &&& (858993459 : Int32)) + ((((i0 - (((i0.toUInt32 >>> ((1 : Int32).toUInt32 &&& Int32.toUInt32 31)).toInt32) &&& (1431655765 : Int32))).toUInt32 >>> ((2 : Int32).toUInt32 &&& Int32.toUInt32 31)).toInt32) &&& (858993459 : Int32))) + (((((i0 - (((i0.toUInt32 >>> ((1 : Int32).toUInt32 &&& Int32.toUInt32 31)).toInt32) &&& (1431655765 : Int32))) &&& (858993459 : Int32)) + ((((i0 - (((i0.toUInt32 >>> ((1 : Int32).toUInt32 &&& Int32.toUInt32 31)).toInt32) &&& (1431655765 : Int32))).toUInt32 >>> ((2 : Int32).toUInt32 &&& Int32.toUInt32 31)).toInt32) &&& (858993459 : Int32))).toUInt32 >>> ((4 : Int32).toUInt32 &&& Int32.toUInt32 31)).toInt32)) &&& (252645135 : Int32)) + (((((((i0 - (((i0.toUInt32 >>> ((1 : Int32).toUInt32 &&& Int32.toUInt32 31)).toInt32) &&& (1431655765 : Int32))) &&& (858993459 : Int32)) + ((((i0 - (((i0.toUInt32 >>> ((1 : Int32).toUInt32 &&& Int32.toUInt32 31)).toInt32) &&& (1431655765 : Int32))).toUInt32 >>> ((2 : Int32).toUInt32 &&& Int32.toUInt32 31)).toInt32) &&& (858993459 : Int32))) + (((((i0 - (((i0.toUInt32 >>> ((1 : Int32).toUInt32 &&& Int32.toUInt32 31)).toInt32) &&& (1431655765 : Int32))) &&& (858993459 : Int32)) + ((((i0 - (((i0.toUInt32 >>> ((1 : Int32).toUInt32 &&& Int32.toUInt32 31)).toInt32) &&& (1431655765 : Int32))).toUInt32 >>> ((2 : Int32).toUInt32 &&& Int32.toUInt32 31)).toInt32) &&& (858993459 : Int32))).toUInt32 >>> ((4 : Int32).toUInt32 &&& Int32.toUInt32 31)).toInt32)) &&& (252645135 : Int32)).toUInt32 >>> ((8 : Int32).toUInt32 &&& Int32.toUInt32 31)).toInt32)) + ((((((((i0 - (((i0.toUInt32 >>> ((1 : Int32).toUInt32 &&& Int32.toUInt32 31)).toInt32) &&& (1431655765 : Int32))) &&& (858993459 : Int32)) + ((((i0 - (((i0.toUInt32 >>> ((1 : Int32).toUInt32 &&& Int32.toUInt32 31)).toInt32) &&& (1431655765 : Int32))).toUInt32 >>> ((2 : Int32).toUInt32 &&& Int32.toUInt32 31)).toInt32) &&& (858993459 : Int32))) + (((((i0 - (((i0.toUInt32 >>> ((1 : Int32).toUInt32 &&& Int32.toUInt32 31)).toInt32) &&& (1431655765 : Int32))) &&& (858993459 : Int32)) + ((((i0 - (((i0.toUInt32 >>> ((1 : Int32).toUInt32 &&& Int32.toUInt32 31)).toInt32) &&& (1431655765 : Int32))).toUInt32 >>> ((2 : Int32).toUInt32 &&& Int32.toUInt32 31)).toInt32) &&& (858993459 : Int32))).toUInt32 >>> ((4 : Int32).toUInt32 &&& Int32.toUInt32 31)).toInt32)) &&& (252645135 : Int32)) + (((((((i0 - (((i0.toUInt32 >>> ((1 : Int32).toUInt32 &&& Int32.toUInt32 31)).toInt32) &&& (1431655765 : Int32))) &&& (858993459 : Int32)) + ((((i0 - (((i0.toUInt32 >>> ((1 : Int32).toUInt32 &&& Int32.toUInt32 31)).toInt32) &&& (1431655765 : Int32))).toUInt32 >>> ((2 : Int32).toUInt32 &&& Int32.toUInt32 31)).toInt32) &&& (858993459 : Int32))) + (((((i0 - (((i0.toUInt32 >>> ((1 : Int32).toUInt32 &&& Int32.toUInt32 31)).toInt32) &&& (1431655765 : Int32))) &&& (858993459 : Int32)) + ((((i0 - (((i0.toUInt32 >>> ((1 : Int32).toUInt32 &&& Int32.toUInt32 31)).toInt32) &&& (1431655765 : Int32))).toUInt32 >>> ((2 : Int32).toUInt32 &&& Int32.toUInt32 31)).toInt32) &&& (858993459 : Int32))).toUInt32 >>> ((4 : Int32).toUInt32 &&& Int32.toUInt32 31)).toInt32)) &&& (252645135 : Int32)).toUInt32 >>> ((8 : Int32).toUInt32 &&& Int32.toUInt32 31)).toInt32)).toUInt32 >>> ((16 : Int32).toUInt32 &&& Int32.toUInt32 31)).toInt32)) &&& (63 : Int32)))) V) :
    ab_E G (ac_ST L xs) l (d + 1) ac_SK 285 [.int i0] V K := by
  refine vc_285_0 ?_
  exact h

set_option maxRecDepth 20000 in
/-- java/lang/String length()I, from 0 -/
theorem iv_289_0 {G : ab_G} {L : Nat} {xs : Nat → Int32} {l : Launch} {d : Nat} {r0 : Nat} {V : aa_V} {K : aa_K} (h :
    2000000 ≤ r0 ∧ r0 < 2000012 ∧
    ∃ (j1 : Nat), (r0 - 999900) = 1000000 + (100 + j1) ∧ j1 < 12 ∧
    2000000 ≤ r0 ∧ r0 < 2000012 ∧
    ab_E G (ac_ST L xs) l (d + 1) ac_SK 291 [.ref r0] V (aa_rI (fun x2 V2 =>
      K (some (.int ((nI (ac_ST L xs (100 + j1)).2.1) >>> (x2 &&& 31)))) V2))) :
    ab_E G (ac_ST L xs) l (d + 2) ac_SK 289 [.ref r0] V K := by
  refine vc_289_0 ?_
  refine ⟨h.1, h.2.1, ?_⟩
  replace h := h.2.2
  obtain ⟨j1, e1_0, e1_1, h⟩ := h
  refine ⟨j1, e1_0, e1_1, ?_⟩
  exact h

set_option maxRecDepth 20000 in
/-- java/lang/StringLatin1 charAt([BI)C, from 0 -/
theorem iv_294_0 {G : ab_G} {L : Nat} {xs : Nat → Int32} {l : Launch} {d : Nat} {r0 : Nat} {i1 : Int32} {V : aa_V} {K : aa_K} (h :
    ∃ (j1 : Nat), r0 = 1000000 + (100 + j1) ∧ j1 < 12 ∧
    (i1 < 0 →
      False) ∧
    (¬ i1 < 0 →
      (i1 < (nI (ac_ST L xs (100 + j1)).2.1) →
        ∃ (j2 : Nat), r0 = 1000000 + (100 + j2) ∧ j2 < 12 ∧ vp_in i1 (ac_ST L xs (100 + j2)).2.1 ∧
        narrow .char (.int (((((ac_ST L xs (100 + j2)).2.2 (i1).toNatClampNeg) &&& (255 : Int32)).toUInt32 % 65536).toInt32)) = .int (((((ac_ST L xs (100 + j2)).2.2 (i1).toNatClampNeg) &&& (255 : Int32)).toUInt32 % 65536).toInt32) ∧ K (some (.int (((((ac_ST L xs (100 + j2)).2.2 (i1).toNatClampNeg) &&& (255 : Int32)).toUInt32 % 65536).toInt32))) V) ∧
      (¬ i1 < (nI (ac_ST L xs (100 + j1)).2.1) →
        False))) :
    ab_E G (ac_ST L xs) l (d + 3) ac_SK 294 [.ref r0, .int i1] V K := by
  refine vc_294_0 ?_
  obtain ⟨j1, e1_0, e1_1, h⟩ := h
  refine ⟨j1, e1_0, e1_1, ?_⟩
  refine vc_293_0 ?_
  refine vc_300_0 ?_
  refine ⟨fun c => ?_, fun c => ?_⟩
  · replace h := h.1 c
    exact h.elim
  · replace h := h.2 c
    refine ⟨fun c => ?_, fun c => ?_⟩
    · replace h := h.1 c
      obtain ⟨j2, e2_0, e2_1, e2_2, h⟩ := h
      refine ⟨j2, e2_0, e2_1, e2_2, ?_⟩
      exact h
    · replace h := h.2 c
      exact h.elim

set_option maxRecDepth 20000 in
/-- java/util/Arrays fill([II)V, from 0 -/
theorem iv_299_0 {G : ab_G} {L : Nat} {xs : Nat → Int32} {l : Launch} {d : Nat} {r0 : Nat} {i1 : Int32} {V : aa_V} {K : aa_K} (h :
    ∃ (c1 : Nat) (n1 : Nat) (rs1 : List Nat), aa_sh ac_SK r0 = some (c1, n1, rs1) ∧ 100 ≤ c1 ∧
    ab_J G (ac_ST L xs) l (d + 1) 299 5 [some (.ref r0), some (.int i1), some (.int (0 : Int32)), some (.int (nI n1))] [] ac_SK V ac_SK K) :
    ab_E G (ac_ST L xs) l (d + 1) ac_SK 299 [.ref r0, .int i1] V K := by
  refine vc_299_0 ?_
  obtain ⟨c1, n1, rs1, e1_0, e1_1, h⟩ := h
  refine ⟨c1, n1, rs1, e1_0, e1_1, ?_⟩
  exact h

set_option maxRecDepth 20000 in
/-- java/util/Arrays fill([II)V, from 5 -/
theorem iv_299_5 {G : ab_G} {L : Nat} {xs : Nat → Int32} {l : Launch} {d : Nat} {r0 : Nat} {i1 : Int32} {i2 : Int32} {i3 : Int32} {V : aa_V} {K : aa_K} (h :
    (i2 < i3 →
      ∃ (n1 : Nat) (rs1 : List Nat), aa_sh ac_SK r0 = some (100, n1, rs1) ∧ vp_in i2 n1 ∧
      ab_J G (ac_ST L xs) l (d + 1) 299 5 [some (.ref r0), some (.int i1), some (.int (i2 + 1)), some (.int i3)] [] ac_SK (aa_up V r0 ((i2).toNatClampNeg) i1) ac_SK K) ∧
    (¬ i2 < i3 →
      K none V)) :
    ab_J G (ac_ST L xs) l (d + 1) 299 5 [some (.ref r0), some (.int i1), some (.int i2), some (.int i3)] [] ac_SK V ac_SK K := by
  refine vc_299_5 ?_
  exact h
