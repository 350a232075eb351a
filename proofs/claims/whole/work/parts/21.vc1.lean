/-! stretches: what is wanted ahead of each -/
set_option maxRecDepth 20000 in
/-- FrameCounty$Bargain isClause(I)Z, from 0 -/
theorem vc_1_0 {G : ab_G} {L : Nat} {xs : Nat → Int32} {l : Launch} {d : Nat} {i1 : Int32} {V : aa_V} {K : aa_K} (h :
    ab_E G (ac_ST L xs) l d ac_SK 182 [.int i1, .int (0 : Int32), .int ((V 60 0) - (1 : Int32))] V (aa_rI (fun x1 V1 =>
      aa_bit x1 ∧ K (some (.int x1)) V1))) :
    ab_E G (ac_ST L xs) l (d + 1) ac_SK 1 [.ref 60, .int i1] V K := ab_wm cd_1_ok [] 13 _ _ _ _ h

set_option maxRecDepth 20000 in
/-- FrameCounty$Bargain clauses()I, from 0 -/
theorem vc_2_0 {G : ab_G} {L : Nat} {xs : Nat → Int32} {l : Launch} {d : Nat} {V : aa_V} {K : aa_K} (h :
    K (some (.int (V 60 0))) V) :
    ab_E G (ac_ST L xs) l (d + 1) ac_SK 2 [.ref 60] V K := ab_wm cd_2_ok [] 8 _ _ _ _ h

set_option maxRecDepth 20000 in
/-- FrameCounty$Bargain addClause(II)I, from 0 -/
theorem vc_3_0 {G : ab_G} {L : Nat} {xs : Nat → Int32} {l : Launch} {d : Nat} {i1 : Int32} {i2 : Int32} {V : aa_V} {K : aa_K} (h :
    ((V 60 0) < (8 : Int32) →
      vp_in (V 60 0) 8 ∧
      vp_in (V 60 0) 8 ∧
      K (some (.int (((V 60 0) + (1 : Int32)) - (1 : Int32)))) (aa_up (aa_up (aa_up V 61 (((V 60 0)).toNatClampNeg) i1) 62 (((V 60 0)).toNatClampNeg) i2) 60 0 ((V 60 0) + (1 : Int32)))) ∧
    (¬ (V 60 0) < (8 : Int32) →
      K (some (.int (-4 : Int32))) V)) :
    ab_E G (ac_ST L xs) l (d + 1) ac_SK 3 [.ref 60, .int i1, .int i2] V K := ab_wm cd_3_ok [] 34 _ _ _ _ h

set_option maxRecDepth 20000 in
/-- FrameCounty$Bargain part(II)Z, from 0 -/
theorem vc_4_0 {G : ab_G} {L : Nat} {xs : Nat → Int32} {l : Launch} {d : Nat} {i1 : Int32} {i2 : Int32} {V : aa_V} {K : aa_K} (h :
    vp_in i1 8 ∧
    ((((V 63 ((i1).toNatClampNeg)) >>> (i2 &&& 31)) &&& (1 : Int32)) = 0 →
      vp_in i1 8 ∧
      vp_in i1 8 ∧
      vp_in i2 8 ∧
      vp_in i2 8 ∧
      aa_bit (1 : Int32) ∧ K (some (.int (1 : Int32))) (aa_up (aa_up V 63 ((i1).toNatClampNeg) ((V 63 ((i1).toNatClampNeg)) ||| ((1 : Int32) <<< (i2 &&& 31)))) 63 ((i2).toNatClampNeg) (((aa_up V 63 ((i1).toNatClampNeg) ((V 63 ((i1).toNatClampNeg)) ||| ((1 : Int32) <<< (i2 &&& 31)))) 63 ((i2).toNatClampNeg)) ||| ((1 : Int32) <<< (i1 &&& 31))))) ∧
    (¬ (((V 63 ((i1).toNatClampNeg)) >>> (i2 &&& 31)) &&& (1 : Int32)) = 0 →
      vp_in i1 8 ∧
      vp_in i1 8 ∧
      vp_in i2 8 ∧
      vp_in i2 8 ∧
      aa_bit (0 : Int32) ∧ K (some (.int (0 : Int32))) (aa_up (aa_up V 63 ((i1).toNatClampNeg) ((V 63 ((i1).toNatClampNeg)) ||| ((1 : Int32) <<< (i2 &&& 31)))) 63 ((i2).toNatClampNeg) (((aa_up V 63 ((i1).toNatClampNeg) ((V 63 ((i1).toNatClampNeg)) ||| ((1 : Int32) <<< (i2 &&& 31)))) 63 ((i2).toNatClampNeg)) ||| ((1 : Int32) <<< (i1 &&& 31)))))) :
    ab_E G (ac_ST L xs) l (d + 1) ac_SK 4 [.ref 60, .int i1, .int i2] V K := ab_wm cd_4_ok [] 63 _ _ _ _ h

set_option maxRecDepth 20000 in
/-- FrameCounty$Bargain bestSet(II)I, from 0 -/
theorem vc_5_0 {G : ab_G} {L : Nat} {xs : Nat → Int32} {l : Launch} {d : Nat} {i1 : Int32} {i2 : Int32} {V : aa_V} {K : aa_K} (h :
    ab_J G (ac_ST L xs) l (d + 1) 5 5 [some (.ref 60), some (.int i1), some (.int i2), some (.int (-1 : Int32)), some (.int (0 : Int32)), none] [] ac_SK V ac_SK K) :
    ab_E G (ac_ST L xs) l (d + 1) ac_SK 5 [.ref 60, .int i1, .int i2] V K := ab_wm cd_5_ok [(5, [true, true, true, true, true, false])] 10 _ _ _ _ h

set_option maxRecDepth 20000 in
/-- FrameCounty$Bargain bestSet(II)I, from 5 -/
theorem vc_5_5 {G : ab_G} {L : Nat} {xs : Nat → Int32} {l : Launch} {d : Nat} {i1 : Int32} {i2 : Int32} {i3 : Int32} {i4 : Int32} {V : aa_V} {K : aa_K} (h :
    (i4 < ((1 : Int32) <<< ((V 60 0) &&& 31)) →
      ab_E G (ac_ST L xs) l d ac_SK 7 [.ref 60, .int i4] V (aa_rI (fun x1 V1 =>
        (x1 = 0 →
          ((0 : Int32) = 0 →
            ab_J G (ac_ST L xs) l (d + 1) 5 5 [some (.ref 60), some (.int i1), some (.int i2), some (.int i3), some (.int (i4 + 1)), none] [] ac_SK V1 ac_SK K) ∧
          (¬ (0 : Int32) = 0 →
            (i3 = (-1 : Int32) →
              ab_J G (ac_ST L xs) l (d + 1) 5 5 [some (.ref 60), some (.int i1), some (.int i2), some (.int i4), some (.int (i4 + 1)), none] [] ac_SK V1 ac_SK K) ∧
            (¬ i3 = (-1 : Int32) →
              ab_E G (ac_ST L xs) l d ac_SK 6 [.ref 60, .int i4, .int i3] V1 (aa_rI (fun x2 V2 =>
                (x2 = 0 →
                  ab_J G (ac_ST L xs) l (d + 1) 5 5 [some (.ref 60), some (.int i1), some (.int i2), some (.int i3), some (.int (i4 + 1)), none] [] ac_SK V2 ac_SK K) ∧
                (¬ x2 = 0 →
                  ab_J G (ac_ST L xs) l (d + 1) 5 5 [some (.ref 60), some (.int i1), some (.int i2), some (.int i4), some (.int (i4 + 1)), none] [] ac_SK V2 ac_SK K)))))) ∧
        (¬ x1 = 0 →
          ab_E G (ac_ST L xs) l d ac_SK 8 [.ref 60, .ref 61, .int i4] V1 (aa_rI (fun x2 V2 =>
            (x2 < i1 →
              ((0 : Int32) = 0 →
                ab_J G (ac_ST L xs) l (d + 1) 5 5 [some (.ref 60), some (.int i1), some (.int i2), some (.int i3), some (.int (i4 + 1)), none] [] ac_SK V2 ac_SK K) ∧
              (¬ (0 : Int32) = 0 →
                (i3 = (-1 : Int32) →
                  ab_J G (ac_ST L xs) l (d + 1) 5 5 [some (.ref 60), some (.int i1), some (.int i2), some (.int i4), some (.int (i4 + 1)), none] [] ac_SK V2 ac_SK K) ∧
                (¬ i3 = (-1 : Int32) →
                  ab_E G (ac_ST L xs) l d ac_SK 6 [.ref 60, .int i4, .int i3] V2 (aa_rI (fun x3 V3 =>
                    (x3 = 0 →
                      ab_J G (ac_ST L xs) l (d + 1) 5 5 [some (.ref 60), some (.int i1), some (.int i2), some (.int i3), some (.int (i4 + 1)), none] [] ac_SK V3 ac_SK K) ∧
                    (¬ x3 = 0 →
                      ab_J G (ac_ST L xs) l (d + 1) 5 5 [some (.ref 60), some (.int i1), some (.int i2), some (.int i4), some (.int (i4 + 1)), none] [] ac_SK V3 ac_SK K)))))) ∧
            (¬ x2 < i1 →
              ab_E G (ac_ST L xs) l d ac_SK 8 [.ref 60, .ref 62, .int i4] V2 (aa_rI (fun x3 V3 =>
                (x3 < i2 →
                  ((0 : Int32) = 0 →
                    ab_J G (ac_ST L xs) l (d + 1) 5 5 [some (.ref 60), some (.int i1), some (.int i2), some (.int i3), some (.int (i4 + 1)), none] [] ac_SK V3 ac_SK K) ∧
                  (¬ (0 : Int32) = 0 →
                    (i3 = (-1 : Int32) →
                      ab_J G (ac_ST L xs) l (d + 1) 5 5 [some (.ref 60), some (.int i1), some (.int i2), some (.int i4), some (.int (i4 + 1)), none] [] ac_SK V3 ac_SK K) ∧
                    (¬ i3 = (-1 : Int32) →
                      ab_E G (ac_ST L xs) l d ac_SK 6 [.ref 60, .int i4, .int i3] V3 (aa_rI (fun x4 V4 =>
                        (x4 = 0 →
                          ab_J G (ac_ST L xs) l (d + 1) 5 5 [some (.ref 60), some (.int i1), some (.int i2), some (.int i3), some (.int (i4 + 1)), none] [] ac_SK V4 ac_SK K) ∧
                        (¬ x4 = 0 →
                          ab_J G (ac_ST L xs) l (d + 1) 5 5 [some (.ref 60), some (.int i1), some (.int i2), some (.int i4), some (.int (i4 + 1)), none] [] ac_SK V4 ac_SK K)))))) ∧
                (¬ x3 < i2 →
                  ((1 : Int32) = 0 →
                    ab_J G (ac_ST L xs) l (d + 1) 5 5 [some (.ref 60), some (.int i1), some (.int i2), some (.int i3), some (.int (i4 + 1)), none] [] ac_SK V3 ac_SK K) ∧
                  (¬ (1 : Int32) = 0 →
                    (i3 = (-1 : Int32) →
                      ab_J G (ac_ST L xs) l (d + 1) 5 5 [some (.ref 60), some (.int i1), some (.int i2), some (.int i4), some (.int (i4 + 1)), none] [] ac_SK V3 ac_SK K) ∧
                    (¬ i3 = (-1 : Int32) →
                      ab_E G (ac_ST L xs) l d ac_SK 6 [.ref 60, .int i4, .int i3] V3 (aa_rI (fun x4 V4 =>
                        (x4 = 0 →
                          ab_J G (ac_ST L xs) l (d + 1) 5 5 [some (.ref 60), some (.int i1), some (.int i2), some (.int i3), some (.int (i4 + 1)), none] [] ac_SK V4 ac_SK K) ∧
                        (¬ x4 = 0 →
                          ab_J G (ac_ST L xs) l (d + 1) 5 5 [some (.ref 60), some (.int i1), some (.int i2), some (.int i4), some (.int (i4 + 1)), none] [] ac_SK V4 ac_SK K))))))))))))))) ∧
    (¬ i4 < ((1 : Int32) <<< ((V 60 0) &&& 31)) →
      K (some (.int i3)) V)) :
    ab_J G (ac_ST L xs) l (d + 1) 5 5 [some (.ref 60), some (.int i1), some (.int i2), some (.int i3), some (.int i4), none] [] ac_SK V ac_SK K := ab_wm cd_5_ok [(5, [true, true, true, true, true, false])] 144 _ _ _ _ h

set_option maxRecDepth 20000 in
/-- FrameCounty$Bargain isBetter(II)Z, from 0 -/
theorem vc_6_0 {G : ab_G} {L : Nat} {xs : Nat → Int32} {l : Launch} {d : Nat} {i1 : Int32} {i2 : Int32} {V : aa_V} {K : aa_K} (h :
    ab_E G (ac_ST L xs) l d ac_SK 8 [.ref 60, .ref 62, .int i1] V (aa_rI (fun x1 V1 =>
      ab_E G (ac_ST L xs) l d ac_SK 8 [.ref 60, .ref 62, .int i2] V1 (aa_rI (fun x2 V2 =>
        ((x1 - x2) = 0 →
          ab_E G (ac_ST L xs) l d ac_SK 8 [.ref 60, .ref 61, .int i1] V2 (aa_rI (fun x3 V3 =>
            ab_E G (ac_ST L xs) l d ac_SK 8 [.ref 60, .ref 61, .int i2] V3 (aa_rI (fun x4 V4 =>
              ((x3 - x4) = 0 →
                ab_E G (ac_ST L xs) l d ac_SK 285 [.int i2] V4 (aa_rI (fun x5 V5 =>
                  ab_E G (ac_ST L xs) l d ac_SK 285 [.int i1] V5 (aa_rI (fun x6 V6 =>
                    (0 < (x5 - x6) →
                      aa_bit (1 : Int32) ∧ K (some (.int (1 : Int32))) V6) ∧
                    (¬ 0 < (x5 - x6) →
                      aa_bit (0 : Int32) ∧ K (some (.int (0 : Int32))) V6)))))) ∧
              (¬ (x3 - x4) = 0 →
                (0 < (x3 - x4) →
                  aa_bit (1 : Int32) ∧ K (some (.int (1 : Int32))) V4) ∧
                (¬ 0 < (x3 - x4) →
                  aa_bit (0 : Int32) ∧ K (some (.int (0 : Int32))) V4))))))) ∧
        (¬ (x1 - x2) = 0 →
          ((x1 - x2) = 0 →
            ab_E G (ac_ST L xs) l d ac_SK 285 [.int i2] V2 (aa_rI (fun x3 V3 =>
              ab_E G (ac_ST L xs) l d ac_SK 285 [.int i1] V3 (aa_rI (fun x4 V4 =>
                (0 < (x3 - x4) →
                  aa_bit (1 : Int32) ∧ K (some (.int (1 : Int32))) V4) ∧
                (¬ 0 < (x3 - x4) →
                  aa_bit (0 : Int32) ∧ K (some (.int (0 : Int32))) V4)))))) ∧
          (¬ (x1 - x2) = 0 →
            (0 < (x1 - x2) →
              aa_bit (1 : Int32) ∧ K (some (.int (1 : Int32))) V2) ∧
            (¬ 0 < (x1 - x2) →
              aa_bit (0 : Int32) ∧ K (some (.int (0 : Int32))) V2)))))))) :
    ab_E G (ac_ST L xs) l (d + 1) ac_SK 6 [.ref 60, .int i1, .int i2] V K := ab_wm cd_6_ok [] 75 _ _ _ _ h

set_option maxRecDepth 20000 in
/-- FrameCounty$Bargain goesTogether(I)Z, from 0 -/
theorem vc_7_0 {G : ab_G} {L : Nat} {xs : Nat → Int32} {l : Launch} {d : Nat} {i1 : Int32} {V : aa_V} {K : aa_K} (h :
    ab_J G (ac_ST L xs) l (d + 1) 7 2 [some (.ref 60), some (.int i1), some (.int (0 : Int32))] [] ac_SK V ac_SK K) :
    ab_E G (ac_ST L xs) l (d + 1) ac_SK 7 [.ref 60, .int i1] V K := ab_wm cd_7_ok [(2, [true, true, true])] 8 _ _ _ _ h

set_option maxRecDepth 20000 in
/-- FrameCounty$Bargain goesTogether(I)Z, from 2 -/
theorem vc_7_2 {G : ab_G} {L : Nat} {xs : Nat → Int32} {l : Launch} {d : Nat} {i1 : Int32} {i2 : Int32} {V : aa_V} {K : aa_K} (h :
    (i2 < (V 60 0) →
      (((i1 >>> (i2 &&& 31)) &&& (1 : Int32)) = (1 : Int32) →
        vp_in i2 8 ∧
        (((V 63 ((i2).toNatClampNeg)) &&& i1) = 0 →
          ab_J G (ac_ST L xs) l (d + 1) 7 2 [some (.ref 60), some (.int i1), some (.int (i2 + 1))] [] ac_SK V ac_SK K) ∧
        (¬ ((V 63 ((i2).toNatClampNeg)) &&& i1) = 0 →
          aa_bit (0 : Int32) ∧ K (some (.int (0 : Int32))) V)) ∧
      (¬ ((i1 >>> (i2 &&& 31)) &&& (1 : Int32)) = (1 : Int32) →
        ab_J G (ac_ST L xs) l (d + 1) 7 2 [some (.ref 60), some (.int i1), some (.int (i2 + 1))] [] ac_SK V ac_SK K)) ∧
    (¬ i2 < (V 60 0) →
      aa_bit (1 : Int32) ∧ K (some (.int (1 : Int32))) V)) :
    ab_J G (ac_ST L xs) l (d + 1) 7 2 [some (.ref 60), some (.int i1), some (.int i2)] [] ac_SK V ac_SK K := ab_wm cd_7_ok [(2, [true, true, true])] 33 _ _ _ _ h

set_option maxRecDepth 20000 in
/-- FrameCounty$Bargain worth([II)I, from 0 -/
theorem vc_8_0 {G : ab_G} {L : Nat} {xs : Nat → Int32} {l : Launch} {d : Nat} {r1 : Nat} {i2 : Int32} {V : aa_V} {K : aa_K} (h :
    ab_J G (ac_ST L xs) l (d + 1) 8 5 [some (.ref 60), some (.ref r1), some (.int i2), some (.int (0 : Int32)), some (.int (0 : Int32))] [] ac_SK V ac_SK K) :
    ab_E G (ac_ST L xs) l (d + 1) ac_SK 8 [.ref 60, .ref r1, .int i2] V K := ab_wm cd_8_ok [(5, [true, true, true, true, true])] 10 _ _ _ _ h

set_option maxRecDepth 20000 in
/-- FrameCounty$Bargain worth([II)I, from 5 -/
theorem vc_8_5 {G : ab_G} {L : Nat} {xs : Nat → Int32} {l : Launch} {d : Nat} {r1 : Nat} {i2 : Int32} {i3 : Int32} {i4 : Int32} {V : aa_V} {K : aa_K} (h :
    (i4 < (V 60 0) →
      (((i2 >>> (i4 &&& 31)) &&& (1 : Int32)) = (1 : Int32) →
        ∃ (n1 : Nat) (rs1 : List Nat), aa_sh ac_SK r1 = some (100, n1, rs1) ∧ vp_in i4 n1 ∧
        ab_J G (ac_ST L xs) l (d + 1) 8 5 [some (.ref 60), some (.ref r1), some (.int i2), some (.int (i3 + (V r1 ((i4).toNatClampNeg)))), some (.int (i4 + 1))] [] ac_SK V ac_SK K) ∧
      (¬ ((i2 >>> (i4 &&& 31)) &&& (1 : Int32)) = (1 : Int32) →
        ab_J G (ac_ST L xs) l (d + 1) 8 5 [some (.ref 60), some (.ref r1), some (.int i2), some (.int i3), some (.int (i4 + 1))] [] ac_SK V ac_SK K)) ∧
    (¬ i4 < (V 60 0) →
      K (some (.int i3)) V)) :
    ab_J G (ac_ST L xs) l (d + 1) 8 5 [some (.ref 60), some (.ref r1), some (.int i2), some (.int i3), some (.int i4)] [] ac_SK V ac_SK K := ab_wm cd_8_ok [(5, [true, true, true, true, true])] 30 _ _ _ _ h

set_option maxRecDepth 20000 in
/-- FrameCounty$Oaths meetings()I, from 0 -/
theorem vc_10_0 {G : ab_G} {L : Nat} {xs : Nat → Int32} {l : Launch} {d : Nat} {V : aa_V} {K : aa_K} (h :
    K (some (.int (V 54 0))) V) :
    ab_E G (ac_ST L xs) l (d + 1) ac_SK 10 [.ref 54] V K := ab_wm cd_10_ok [] 8 _ _ _ _ h

set_option maxRecDepth 20000 in
/-- FrameCounty$Oaths addMeeting(III)I, from 0 -/
theorem vc_11_0 {G : ab_G} {L : Nat} {xs : Nat → Int32} {l : Launch} {d : Nat} {i1 : Int32} {i2 : Int32} {i3 : Int32} {V : aa_V} {K : aa_K} (h :
    ((V 54 0) < (40 : Int32) →
      ab_J G (ac_ST L xs) l (d + 1) 11 24 [some (.ref 54), some (.int i1), some (.int i2), some (.int i3), some (.int (V 54 0)), some (.int (V 54 0))] [] ac_SK V ac_SK K) ∧
    (¬ (V 54 0) < (40 : Int32) →
      K (some (.int (-4 : Int32))) V)) :
    ab_E G (ac_ST L xs) l (d + 1) ac_SK 11 [.ref 54, .int i1, .int i2, .int i3] V K := ab_wm cd_11_ok [(24, [true, true, true, true, true, true])] 18 _ _ _ _ h

set_option maxRecDepth 20000 in
/-- FrameCounty$Oaths addMeeting(III)I, from 24 -/
theorem vc_11_24 {G : ab_G} {L : Nat} {xs : Nat → Int32} {l : Launch} {d : Nat} {i1 : Int32} {i2 : Int32} {i3 : Int32} {i4 : Int32} {i5 : Int32} {V : aa_V} {K : aa_K} (h :
    (0 < i5 →
      vp_in (i5 - (1 : Int32)) 40 ∧
      (i3 < (V 57 (((i5 - (1 : Int32))).toNatClampNeg)) →
        vp_in (i5 - (1 : Int32)) 40 ∧
        vp_in i5 40 ∧
        vp_in (i5 - (1 : Int32)) 40 ∧
        vp_in i5 40 ∧
        vp_in (i5 - (1 : Int32)) 40 ∧
        vp_in i5 40 ∧
        ab_J G (ac_ST L xs) l (d + 1) 11 24 [some (.ref 54), some (.int i1), some (.int i2), some (.int i3), some (.int (i5 - (1 : Int32))), some (.int (i5 + (-1)))] [] ac_SK (aa_up (aa_up (aa_up V 55 ((i5).toNatClampNeg) (V 55 (((i5 - (1 : Int32))).toNatClampNeg))) 56 ((i5).toNatClampNeg) (V 56 (((i5 - (1 : Int32))).toNatClampNeg))) 57 ((i5).toNatClampNeg) (V 57 (((i5 - (1 : Int32))).toNatClampNeg))) ac_SK K) ∧
      (¬ i3 < (V 57 (((i5 - (1 : Int32))).toNatClampNeg)) →
        vp_in i4 40 ∧
        vp_in i4 40 ∧
        vp_in i4 40 ∧
        K (some (.int ((V 54 0) + (1 : Int32)))) (aa_up (aa_up (aa_up (aa_up V 55 ((i4).toNatClampNeg) i1) 56 ((i4).toNatClampNeg) i2) 57 ((i4).toNatClampNeg) i3) 54 0 ((V 54 0) + (1 : Int32))))) ∧
    (¬ 0 < i5 →
      vp_in i4 40 ∧
      vp_in i4 40 ∧
      vp_in i4 40 ∧
      K (some (.int ((V 54 0) + (1 : Int32)))) (aa_up (aa_up (aa_up (aa_up V 55 ((i4).toNatClampNeg) i1) 56 ((i4).toNatClampNeg) i2) 57 ((i4).toNatClampNeg) i3) 54 0 ((V 54 0) + (1 : Int32))))) :
    ab_J G (ac_ST L xs) l (d + 1) 11 24 [some (.ref 54), some (.int i1), some (.int i2), some (.int i3), some (.int i4), some (.int i5)] [] ac_SK V ac_SK K := ab_wm cd_11_ok [(24, [true, true, true, true, true, true])] 100 _ _ _ _ h

set_option maxRecDepth 20000 in
/-- FrameCounty$Oaths tellTaker(II)I, from 0 -/
theorem vc_12_0 {G : ab_G} {L : Nat} {xs : Nat → Int32} {l : Launch} {d : Nat} {i1 : Int32} {i2 : Int32} {V : aa_V} {K : aa_K} (h :
    vp_in i1 12 ∧
    vp_in i1 12 ∧
    K (some (.int (V 58 ((i1).toNatClampNeg)))) (aa_up V 58 ((i1).toNatClampNeg) i2)) :
    ab_E G (ac_ST L xs) l (d + 1) ac_SK 12 [.ref 54, .int i1, .int i2] V K := ab_wm cd_12_ok [] 17 _ _ _ _ h

set_option maxRecDepth 20000 in
/-- FrameCounty$Oaths swornFrom(II)I, from 0 -/
theorem vc_13_0 {G : ab_G} {L : Nat} {xs : Nat → Int32} {l : Launch} {d : Nat} {i1 : Int32} {i2 : Int32} {V : aa_V} {K : aa_K} (h :
    ab_J G (ac_ST L xs) l (d + 1) 13 5 [some (.ref 54), none, some (.int i2), some (.int i1), some (.int (0 : Int32)), none] [] ac_SK V ac_SK K) :
    ab_E G (ac_ST L xs) l (d + 1) ac_SK 13 [.ref 54, .int i1, .int i2] V K := ab_wm cd_13_ok [(5, [true, false, true, true, true, false])] 10 _ _ _ _ h

set_option maxRecDepth 20000 in
/-- FrameCounty$Oaths swornFrom(II)I, from 5 -/
theorem vc_13_5 {G : ab_G} {L : Nat} {xs : Nat → Int32} {l : Launch} {d : Nat} {i2 : Int32} {i3 : Int32} {i4 : Int32} {V : aa_V} {K : aa_K} (h :
    (i4 < (V 54 0) →
      vp_in i4 40 ∧
      (i2 < (V 57 ((i4).toNatClampNeg)) →
        K (some (.int i3)) V) ∧
      (¬ i2 < (V 57 ((i4).toNatClampNeg)) →
        vp_in i4 40 ∧
        vp_in i4 40 ∧
        ((i3 &&& (((1 : Int32) <<< ((V 55 ((i4).toNatClampNeg)) &&& 31)) ||| ((1 : Int32) <<< ((V 56 ((i4).toNatClampNeg)) &&& 31)))) = 0 →
          ab_J G (ac_ST L xs) l (d + 1) 13 5 [some (.ref 54), none, some (.int i2), some (.int i3), some (.int (i4 + 1)), none] [] ac_SK V ac_SK K) ∧
        (¬ (i3 &&& (((1 : Int32) <<< ((V 55 ((i4).toNatClampNeg)) &&& 31)) ||| ((1 : Int32) <<< ((V 56 ((i4).toNatClampNeg)) &&& 31)))) = 0 →
          ab_J G (ac_ST L xs) l (d + 1) 13 5 [some (.ref 54), none, some (.int i2), some (.int (i3 ||| (((1 : Int32) <<< ((V 55 ((i4).toNatClampNeg)) &&& 31)) ||| ((1 : Int32) <<< ((V 56 ((i4).toNatClampNeg)) &&& 31))))), some (.int (i4 + 1)), none] [] ac_SK V ac_SK K))) ∧
    (¬ i4 < (V 54 0) →
      K (some (.int i3)) V)) :
    ab_J G (ac_ST L xs) l (d + 1) 13 5 [some (.ref 54), none, some (.int i2), some (.int i3), some (.int i4), none] [] ac_SK V ac_SK K := ab_wm cd_13_ok [(5, [true, false, true, true, true, false])] 47 _ _ _ _ h

set_option maxRecDepth 20000 in
/-- FrameCounty$Oaths fewestFirst(I)I, from 0 -/
theorem vc_14_0 {G : ab_G} {L : Nat} {xs : Nat → Int32} {l : Launch} {d : Nat} {i1 : Int32} {V : aa_V} {K : aa_K} (h :
    ab_J G (ac_ST L xs) l (d + 1) 14 4 [some (.ref 54), some (.int i1), some (.int (0 : Int32)), some (.int (0 : Int32)), none, none] [] ac_SK V ac_SK K) :
    ab_E G (ac_ST L xs) l (d + 1) ac_SK 14 [.ref 54, .int i1] V K := ab_wm cd_14_ok [(4, [true, true, true, true, false, false]), (52, [true, true, true, true, true, false])] 10 _ _ _ _ h

set_option maxRecDepth 20000 in
/-- FrameCounty$Oaths fewestFirst(I)I, from 4 -/
theorem vc_14_4 {G : ab_G} {L : Nat} {xs : Nat → Int32} {l : Launch} {d : Nat} {i1 : Int32} {i2 : Int32} {i3 : Int32} {V : aa_V} {K : aa_K} (h :
    (i3 < i1 →
      vp_in i3 12 ∧
      ((V 58 ((i3).toNatClampNeg)) = (-1 : Int32) →
        ab_E G (ac_ST L xs) l d ac_SK 15 [.ref 54, .int i3, .int i1] V (aa_rI (fun x1 V1 =>
          vp_in i3 12 ∧
          ab_J G (ac_ST L xs) l (d + 1) 14 4 [some (.ref 54), some (.int i1), some (.int (i2 ||| (0 : Int32))), some (.int (i3 + 1)), none, none] [] ac_SK (aa_up V1 59 ((i3).toNatClampNeg) x1) ac_SK K))) ∧
      (¬ (V 58 ((i3).toNatClampNeg)) = (-1 : Int32) →
        ab_E G (ac_ST L xs) l d ac_SK 15 [.ref 54, .int i3, .int i1] V (aa_rI (fun x1 V1 =>
          vp_in i3 12 ∧
          ab_J G (ac_ST L xs) l (d + 1) 14 4 [some (.ref 54), some (.int i1), some (.int (i2 ||| ((1 : Int32) <<< (i3 &&& 31)))), some (.int (i3 + 1)), none, none] [] ac_SK (aa_up V1 59 ((i3).toNatClampNeg) x1) ac_SK K)))) ∧
    (¬ i3 < i1 →
      ab_J G (ac_ST L xs) l (d + 1) 14 52 [some (.ref 54), some (.int i1), some (.int i2), some (.int i2), some (.int (0 : Int32)), none] [] ac_SK V ac_SK K)) :
    ab_J G (ac_ST L xs) l (d + 1) 14 4 [some (.ref 54), some (.int i1), some (.int i2), some (.int i3), none, none] [] ac_SK V ac_SK K := ab_wm cd_14_ok [(4, [true, true, true, true, false, false]), (52, [true, true, true, true, true, false])] 51 _ _ _ _ h

set_option maxRecDepth 20000 in
/-- FrameCounty$Oaths fewestFirst(I)I, from 52 -/
theorem vc_14_52 {G : ab_G} {L : Nat} {xs : Nat → Int32} {l : Launch} {d : Nat} {i1 : Int32} {i2 : Int32} {i3 : Int32} {i4 : Int32} {V : aa_V} {K : aa_K} (h :
    (i4 < ((1 : Int32) <<< (i1 &&& 31)) →
      ab_E G (ac_ST L xs) l d ac_SK 285 [.int i3] V (aa_rI (fun x1 V1 =>
        ab_E G (ac_ST L xs) l d ac_SK 285 [.int i4] V1 (aa_rI (fun x2 V2 =>
          (0 < (x1 - x2) →
            ab_E G (ac_ST L xs) l d ac_SK 16 [.ref 54, .int i4, .int i1] V2 (aa_rI (fun x3 V3 =>
              ((x3 &&& i2) = i2 →
                ab_J G (ac_ST L xs) l (d + 1) 14 52 [some (.ref 54), some (.int i1), some (.int i2), some (.int i4), some (.int (i4 + 1)), none] [] ac_SK V3 ac_SK K) ∧
              (¬ (x3 &&& i2) = i2 →
                ab_J G (ac_ST L xs) l (d + 1) 14 52 [some (.ref 54), some (.int i1), some (.int i2), some (.int i3), some (.int (i4 + 1)), none] [] ac_SK V3 ac_SK K)))) ∧
          (¬ 0 < (x1 - x2) →
            ((x1 - x2) = 0 →
              (i4 < i3 →
                ab_E G (ac_ST L xs) l d ac_SK 16 [.ref 54, .int i4, .int i1] V2 (aa_rI (fun x3 V3 =>
                  ((x3 &&& i2) = i2 →
                    ab_J G (ac_ST L xs) l (d + 1) 14 52 [some (.ref 54), some (.int i1), some (.int i2), some (.int i4), some (.int (i4 + 1)), none] [] ac_SK V3 ac_SK K) ∧
                  (¬ (x3 &&& i2) = i2 →
                    ab_J G (ac_ST L xs) l (d + 1) 14 52 [some (.ref 54), some (.int i1), some (.int i2), some (.int i3), some (.int (i4 + 1)), none] [] ac_SK V3 ac_SK K)))) ∧
              (¬ i4 < i3 →
                ab_J G (ac_ST L xs) l (d + 1) 14 52 [some (.ref 54), some (.int i1), some (.int i2), some (.int i3), some (.int (i4 + 1)), none] [] ac_SK V2 ac_SK K)) ∧
            (¬ (x1 - x2) = 0 →
              ab_J G (ac_ST L xs) l (d + 1) 14 52 [some (.ref 54), some (.int i1), some (.int i2), some (.int i3), some (.int (i4 + 1)), none] [] ac_SK V2 ac_SK K))))))) ∧
    (¬ i4 < ((1 : Int32) <<< (i1 &&& 31)) →
      K (some (.int i3)) V)) :
    ab_J G (ac_ST L xs) l (d + 1) 14 52 [some (.ref 54), some (.int i1), some (.int i2), some (.int i3), some (.int i4), none] [] ac_SK V ac_SK K := ab_wm cd_14_ok [(4, [true, true, true, true, false, false]), (52, [true, true, true, true, true, false])] 63 _ _ _ _ h

set_option maxRecDepth 20000 in
/-- FrameCounty$Oaths takersReachedFrom(II)I, from 0 -/
theorem vc_15_0 {G : ab_G} {L : Nat} {xs : Nat → Int32} {l : Launch} {d : Nat} {i1 : Int32} {i2 : Int32} {V : aa_V} {K : aa_K} (h :
    ab_J G (ac_ST L xs) l (d + 1) 15 5 [some (.ref 54), some (.int i1), some (.int i2), some (.int (0 : Int32)), some (.int (0 : Int32))] [] ac_SK V ac_SK K) :
    ab_E G (ac_ST L xs) l (d + 1) ac_SK 15 [.ref 54, .int i1, .int i2] V K := ab_wm cd_15_ok [(5, [true, true, true, true, true])] 10 _ _ _ _ h

set_option maxRecDepth 20000 in
/-- FrameCounty$Oaths takersReachedFrom(II)I, from 5 -/
theorem vc_15_5 {G : ab_G} {L : Nat} {xs : Nat → Int32} {l : Launch} {d : Nat} {i1 : Int32} {i2 : Int32} {i3 : Int32} {i4 : Int32} {V : aa_V} {K : aa_K} (h :
    (i4 < i2 →
      vp_in i4 12 ∧
      ((V 58 ((i4).toNatClampNeg)) = (-1 : Int32) →
        ab_J G (ac_ST L xs) l (d + 1) 15 5 [some (.ref 54), some (.int i1), some (.int i2), some (.int i3), some (.int (i4 + 1))] [] ac_SK V ac_SK K) ∧
      (¬ (V 58 ((i4).toNatClampNeg)) = (-1 : Int32) →
        vp_in i4 12 ∧
        ab_E G (ac_ST L xs) l d ac_SK 13 [.ref 54, .int ((1 : Int32) <<< (i1 &&& 31)), .int (V 58 ((i4).toNatClampNeg))] V (aa_rI (fun x1 V1 =>
          ab_J G (ac_ST L xs) l (d + 1) 15 5 [some (.ref 54), some (.int i1), some (.int i2), some (.int (i3 ||| (x1 &&& ((1 : Int32) <<< (i4 &&& 31))))), some (.int (i4 + 1))] [] ac_SK V1 ac_SK K)))) ∧
    (¬ i4 < i2 →
      K (some (.int i3)) V)) :
    ab_J G (ac_ST L xs) l (d + 1) 15 5 [some (.ref 54), some (.int i1), some (.int i2), some (.int i3), some (.int i4)] [] ac_SK V ac_SK K := ab_wm cd_15_ok [(5, [true, true, true, true, true])] 38 _ _ _ _ h

set_option maxRecDepth 20000 in
/-- FrameCounty$Oaths takersReachedBySet(II)I, from 0 -/
theorem vc_16_0 {G : ab_G} {L : Nat} {xs : Nat → Int32} {l : Launch} {d : Nat} {i1 : Int32} {i2 : Int32} {V : aa_V} {K : aa_K} (h :
    ab_J G (ac_ST L xs) l (d + 1) 16 5 [some (.ref 54), some (.int i1), some (.int i2), some (.int (0 : Int32)), some (.int (0 : Int32))] [] ac_SK V ac_SK K) :
    ab_E G (ac_ST L xs) l (d + 1) ac_SK 16 [.ref 54, .int i1, .int i2] V K := ab_wm cd_16_ok [(5, [true, true, true, true, true])] 10 _ _ _ _ h

set_option maxRecDepth 20000 in
/-- FrameCounty$Oaths takersReachedBySet(II)I, from 5 -/
theorem vc_16_5 {G : ab_G} {L : Nat} {xs : Nat → Int32} {l : Launch} {d : Nat} {i1 : Int32} {i2 : Int32} {i3 : Int32} {i4 : Int32} {V : aa_V} {K : aa_K} (h :
    (i4 < i2 →
      (((i1 >>> (i4 &&& 31)) &&& (1 : Int32)) = (1 : Int32) →
        vp_in i4 12 ∧
        ab_J G (ac_ST L xs) l (d + 1) 16 5 [some (.ref 54), some (.int i1), some (.int i2), some (.int (i3 ||| (V 59 ((i4).toNatClampNeg)))), some (.int (i4 + 1))] [] ac_SK V ac_SK K) ∧
      (¬ ((i1 >>> (i4 &&& 31)) &&& (1 : Int32)) = (1 : Int32) →
        ab_J G (ac_ST L xs) l (d + 1) 16 5 [some (.ref 54), some (.int i1), some (.int i2), some (.int i3), some (.int (i4 + 1))] [] ac_SK V ac_SK K)) ∧
    (¬ i4 < i2 →
      K (some (.int i3)) V)) :
    ab_J G (ac_ST L xs) l (d + 1) 16 5 [some (.ref 54), some (.int i1), some (.int i2), some (.int i3), some (.int i4)] [] ac_SK V ac_SK K := ab_wm cd_16_ok [(5, [true, true, true, true, true])] 30 _ _ _ _ h

set_option maxRecDepth 20000 in
/-- FrameCounty$Raids isRaid(I)Z, from 0 -/
theorem vc_18_0 {G : ab_G} {L : Nat} {xs : Nat → Int32} {l : Launch} {d : Nat} {i1 : Int32} {V : aa_V} {K : aa_K} (h :
    ab_E G (ac_ST L xs) l d ac_SK 182 [.int i1, .int (0 : Int32), .int ((V 38 1) - (1 : Int32))] V (aa_rI (fun x1 V1 =>
      aa_bit x1 ∧ K (some (.int x1)) V1))) :
    ab_E G (ac_ST L xs) l (d + 1) ac_SK 18 [.ref 38, .int i1] V K := ab_wm cd_18_ok [] 13 _ _ _ _ h

set_option maxRecDepth 20000 in
/-- FrameCounty$Raids all()I, from 0 -/
theorem vc_19_0 {G : ab_G} {L : Nat} {xs : Nat → Int32} {l : Launch} {d : Nat} {V : aa_V} {K : aa_K} (h :
    K (some (.int (V 38 1))) V) :
    ab_E G (ac_ST L xs) l (d + 1) ac_SK 19 [.ref 38] V K := ab_wm cd_19_ok [] 8 _ _ _ _ h

set_option maxRecDepth 20000 in
/-- FrameCounty$Raids add(III)I, from 0 -/
theorem vc_20_0 {G : ab_G} {L : Nat} {xs : Nat → Int32} {l : Launch} {d : Nat} {i1 : Int32} {i2 : Int32} {i3 : Int32} {V : aa_V} {K : aa_K} (h :
    ((V 38 1) < (30 : Int32) →
      ab_E G (ac_ST L xs) l d ac_SK 122 [.ref 29, .int i1, .int i2] V (aa_rV (fun V1 =>
        vp_in (V1 38 1) 30 ∧
        vp_in (V1 38 1) 30 ∧
        vp_in (V1 38 1) 30 ∧
        K (some (.int (((V1 38 1) + (1 : Int32)) - (1 : Int32)))) (aa_up (aa_up (aa_up (aa_up V1 39 (((V1 38 1)).toNatClampNeg) i1) 40 (((V1 38 1)).toNatClampNeg) i2) 41 (((V1 38 1)).toNatClampNeg) i3) 38 1 ((V1 38 1) + (1 : Int32)))))) ∧
    (¬ (V 38 1) < (30 : Int32) →
      K (some (.int (-4 : Int32))) V)) :
    ab_E G (ac_ST L xs) l (d + 1) ac_SK 20 [.ref 38, .int i1, .int i2, .int i3] V K := ab_wm cd_20_ok [] 45 _ _ _ _ h

set_option maxRecDepth 20000 in
/-- FrameCounty$Raids villageOf(I)I, from 0 -/
theorem vc_21_0 {G : ab_G} {L : Nat} {xs : Nat → Int32} {l : Launch} {d : Nat} {i1 : Int32} {V : aa_V} {K : aa_K} (h :
    vp_in i1 30 ∧
    ab_E G (ac_ST L xs) l d ac_SK 114 [.ref 29, .int (V 39 ((i1).toNatClampNeg))] V (aa_rI (fun x1 V1 =>
      ab_E G (ac_ST L xs) l d ac_SK 111 [.ref 29, .int x1] V1 (aa_rI (fun x2 V2 =>
        K (some (.int x2)) V2))))) :
    ab_E G (ac_ST L xs) l (d + 1) ac_SK 21 [.ref 38, .int i1] V K := ab_wm cd_21_ok [] 16 _ _ _ _ h

set_option maxRecDepth 20000 in
/-- FrameCounty$Raids nightOf(I)I, from 0 -/
theorem vc_22_0 {G : ab_G} {L : Nat} {xs : Nat → Int32} {l : Launch} {d : Nat} {i1 : Int32} {V : aa_V} {K : aa_K} (h :
    vp_in i1 30 ∧
    K (some (.int (V 40 ((i1).toNatClampNeg)))) V) :
    ab_E G (ac_ST L xs) l (d + 1) ac_SK 22 [.ref 38, .int i1] V K := ab_wm cd_22_ok [] 10 _ _ _ _ h

set_option maxRecDepth 20000 in
/-- FrameCounty$Raids hourOf(I)I, from 0 -/
theorem vc_23_0 {G : ab_G} {L : Nat} {xs : Nat → Int32} {l : Launch} {d : Nat} {i1 : Int32} {V : aa_V} {K : aa_K} (h :
    vp_in i1 30 ∧
    K (some (.int (V 41 ((i1).toNatClampNeg)))) V) :
    ab_E G (ac_ST L xs) l (d + 1) ac_SK 23 [.ref 38, .int i1] V K := ab_wm cd_23_ok [] 10 _ _ _ _ h

set_option maxRecDepth 20000 in
/-- FrameCounty$Reader bytes()I, from 0 -/
theorem vc_25_0 {G : ab_G} {L : Nat} {xs : Nat → Int32} {l : Launch} {d : Nat} {V : aa_V} {K : aa_K} (h :
    K (some (.int (V 80 1))) V) :
    ab_E G (ac_ST L xs) l (d + 1) ac_SK 25 [.ref 80] V K := ab_wm cd_25_ok [] 8 _ _ _ _ h

set_option maxRecDepth 20000 in
/-- FrameCounty$Reader put(Ljava/lang/String;)V, from 0 -/
theorem vc_26_0 {G : ab_G} {L : Nat} {xs : Nat → Int32} {l : Launch} {d : Nat} {r1 : Nat} {V : aa_V} {K : aa_K} (h :
    ab_J G (ac_ST L xs) l (d + 1) 26 2 [some (.ref 80), some (.ref r1), some (.int (0 : Int32))] [] ac_SK V ac_SK K) :
    ab_E G (ac_ST L xs) l (d + 1) ac_SK 26 [.ref 80, .ref r1] V K := ab_wm cd_26_ok [(2, [true, true, true])] 8 _ _ _ _ h

set_option maxRecDepth 20000 in
/-- FrameCounty$Reader put(Ljava/lang/String;)V, from 2 -/
theorem vc_26_2 {G : ab_G} {L : Nat} {xs : Nat → Int32} {l : Launch} {d : Nat} {r1 : Nat} {i2 : Int32} {V : aa_V} {K : aa_K} (h :
    2000000 ≤ r1 ∧ r1 < 2000012 ∧
    ab_E G (ac_ST L xs) l d ac_SK 289 [.ref r1] V (aa_rI (fun x1 V1 =>
      (i2 < x1 →
        ((V1 80 1) < (160 : Int32) →
          2000000 ≤ r1 ∧ r1 < 2000012 ∧
          ab_E G (ac_ST L xs) l d ac_SK 290 [.ref r1, .int i2] V1 (aa_rI (fun x2 V2 =>
            vp_in (V1 80 1) 160 ∧
            ab_J G (ac_ST L xs) l (d + 1) 26 2 [some (.ref 80), some (.ref r1), some (.int (i2 + 1))] [] ac_SK (aa_up (aa_up V2 81 (((V1 80 1)).toNatClampNeg) ((x2.toInt8.toInt32).toInt8.toInt32)) 80 1 ((V2 80 1) + (1 : Int32))) ac_SK K))) ∧
        (¬ (V1 80 1) < (160 : Int32) →
          K none V1)) ∧
      (¬ i2 < x1 →
        K none V1)))) :
    ab_J G (ac_ST L xs) l (d + 1) 26 2 [some (.ref 80), some (.ref r1), some (.int i2)] [] ac_SK V ac_SK K := ab_wm cd_26_ok [(2, [true, true, true])] 33 _ _ _ _ h

set_option maxRecDepth 20000 in
/-- FrameCounty$Reader append(IJ)I, from 0 -/
theorem vc_27_0 {G : ab_G} {L : Nat} {xs : Nat → Int32} {l : Launch} {d : Nat} {i1 : Int32} {l2 : Int64} {V : aa_V} {K : aa_K} (h :
    ((160 : Int32) < ((V 80 1) + i1) →
      K (some (.int (-4 : Int32))) V) ∧
    (¬ (160 : Int32) < ((V 80 1) + i1) →
      ab_J G (ac_ST L xs) l (d + 1) 27 18 [some (.ref 80), some (.int i1), some (.long l2), none, some (.int (0 : Int32))] [] ac_SK V ac_SK K)) :
    ab_E G (ac_ST L xs) l (d + 1) ac_SK 27 [.ref 80, .int i1, .long l2] V K := ab_wm cd_27_ok [(18, [true, true, true, false, true])] 16 _ _ _ _ h

set_option maxRecDepth 20000 in
/-- FrameCounty$Reader append(IJ)I, from 18 -/
theorem vc_27_18 {G : ab_G} {L : Nat} {xs : Nat → Int32} {l : Launch} {d : Nat} {i1 : Int32} {l2 : Int64} {i4 : Int32} {V : aa_V} {K : aa_K} (h :
    (i4 < i1 →
      vp_in (V 80 1) 160 ∧
      ab_J G (ac_ST L xs) l (d + 1) 27 18 [some (.ref 80), some (.int i1), some (.long l2), none, some (.int (i4 + 1))] [] ac_SK (aa_up (aa_up V 81 (((V 80 1)).toNatClampNeg) ((((l2 >>> (((8 : Int32) * i4).toInt64 &&& 63)).toInt32).toInt8.toInt32).toInt8.toInt32)) 80 1 ((V 80 1) + (1 : Int32))) ac_SK K) ∧
    (¬ i4 < i1 →
      K (some (.int (V 80 1))) V)) :
    ab_J G (ac_ST L xs) l (d + 1) 27 18 [some (.ref 80), some (.int i1), some (.long l2), none, some (.int i4)] [] ac_SK V ac_SK K := ab_wm cd_27_ok [(18, [true, true, true, false, true])] 32 _ _ _ _ h

set_option maxRecDepth 20000 in
/-- FrameCounty$Reader readInto(LFrameCounty$Text;)I, from 0 -/
theorem vc_28_0 {G : ab_G} {L : Nat} {xs : Nat → Int32} {l : Launch} {d : Nat} {r1 : Nat} {V : aa_V} {K : aa_K} (h :
    ab_E G (ac_ST L xs) l d ac_SK 29 [.ref 80] V (aa_rV (fun V1 =>
      r1 < 1000000 ∧
      ∃ q2 : Nat, ((nI (r1 + 1))).toNatClampNeg = q2 + 1 ∧
      aa_is ac_SK q2 6 ∧
      ab_E G (ac_ST L xs) l d ac_SK 68 [.ref q2] (aa_up (aa_up (aa_up V1 80 6 (0 : Int32)) 80 7 (-1 : Int32)) 80 8 (nI (r1 + 1))) (aa_rV (fun V3 =>
        ab_E G (ac_ST L xs) l d ac_SK 39 [.ref 80, .int (306 : Int32)] V3 (aa_rV (fun V4 =>
          ab_E G (ac_ST L xs) l d ac_SK 40 [.ref 80, .int (0 : Int32)] V4 (aa_rV (fun V5 =>
            ab_E G (ac_ST L xs) l d ac_SK 39 [.ref 80, .int (59 : Int32)] V5 (aa_rV (fun V6 =>
              ∃ q7 : Nat, ((V6 80 8)).toNatClampNeg = q7 + 1 ∧
              aa_is ac_SK q7 6 ∧
              ab_E G (ac_ST L xs) l d ac_SK 69 [.ref q7] V6 (aa_rV (fun V8 =>
                ab_E G (ac_ST L xs) l d ac_SK 39 [.ref 80, .int (307 : Int32)] V8 (aa_rV (fun V9 =>
                  ab_E G (ac_ST L xs) l d ac_SK 40 [.ref 80, .int (0 : Int32)] V9 (aa_rV (fun V10 =>
                    ab_E G (ac_ST L xs) l d ac_SK 39 [.ref 80, .int (59 : Int32)] V10 (aa_rV (fun V11 =>
                      ab_E G (ac_ST L xs) l d ac_SK 37 [.ref 80] V11 (aa_rI (fun x12 V12 =>
                        (x12 = (256 : Int32) →
                          K (some (.int (V12 80 7))) (aa_up V12 80 1 (0 : Int32))) ∧
                        (¬ x12 = (256 : Int32) →
                          ab_E G (ac_ST L xs) l d ac_SK 38 [.ref 80] V12 (aa_rV (fun V13 =>
                            K (some (.int (V13 80 7))) (aa_up V13 80 1 (0 : Int32)))))))))))))))))))))))))) :
    ab_E G (ac_ST L xs) l (d + 1) ac_SK 28 [.ref 80, .ref r1] V K := ab_wm cd_28_ok [] 58 _ _ _ _ h

set_option maxRecDepth 20000 in
/-- FrameCounty$Reader cutIntoTokens()V, from 0 -/
theorem vc_29_0 {G : ab_G} {L : Nat} {xs : Nat → Int32} {l : Launch} {d : Nat} {V : aa_V} {K : aa_K} (h :
    ab_J G (ac_ST L xs) l (d + 1) 29 13 [some (.ref 80), some (.int (0 : Int32)), some (.int (258 : Int32)), some (.int (0 : Int32)), none] [] ac_SK (aa_up V 80 5 (0 : Int32)) ac_SK K) :
    ab_E G (ac_ST L xs) l (d + 1) ac_SK 29 [.ref 80] V K := ab_wm cd_29_ok [(13, [true, true, true, true, false])] 15 _ _ _ _ h

set_option maxRecDepth 20000 in
/-- FrameCounty$Reader cutIntoTokens()V, from 13 -/
theorem vc_29_13 {G : ab_G} {L : Nat} {xs : Nat → Int32} {l : Launch} {d : Nat} {i1 : Int32} {i2 : Int32} {i3 : Int32} {V : aa_V} {K : aa_K} (h :
    ((160 : Int32) < i3 →
      K none V) ∧
    (¬ (160 : Int32) < i3 →
      (i2 = (256 : Int32) →
        K none V) ∧
      (¬ i2 = (256 : Int32) →
        (i2 = (257 : Int32) →
          K none V) ∧
        (¬ i2 = (257 : Int32) →
          ab_E G (ac_ST L xs) l d ac_SK 30 [.ref 80, .int i1, .int (0 : Int32)] V (aa_rI (fun x1 V1 =>
            (x1 < (V1 80 1) →
              vp_in x1 160 ∧
              ab_E G (ac_ST L xs) l d ac_SK 31 [.int (V1 81 ((x1).toNatClampNeg))] V1 (aa_rI (fun x2 V2 =>
                ab_E G (ac_ST L xs) l d ac_SK 30 [.ref 80, .int x1, .int x2] V2 (aa_rI (fun x3 V3 =>
                  ab_E G (ac_ST L xs) l d ac_SK 32 [.ref 80, .int x1, .int x3] V3 (aa_rI (fun x4 V4 =>
                    vp_in i3 161 ∧
                    vp_in i3 161 ∧
                    (x4 = (258 : Int32) →
                      ab_E G (ac_ST L xs) l d ac_SK 33 [.ref 80, .int x1, .int x3] (aa_up (aa_up V4 82 ((i3).toNatClampNeg) x4) 83 ((i3).toNatClampNeg) x1) (aa_rI (fun x5 V5 =>
                        vp_in i3 161 ∧
                        ab_J G (ac_ST L xs) l (d + 1) 29 13 [some (.ref 80), some (.int x3), some (.int x4), some (.int (i3 + 1)), none] [] ac_SK (aa_up (aa_up V5 84 ((i3).toNatClampNeg) x5) 80 5 (i3 + (1 : Int32))) ac_SK K))) ∧
                    (¬ x4 = (258 : Int32) →
                      vp_in i3 161 ∧
                      ab_J G (ac_ST L xs) l (d + 1) 29 13 [some (.ref 80), some (.int x3), some (.int x4), some (.int (i3 + 1)), none] [] ac_SK (aa_up (aa_up (aa_up (aa_up V4 82 ((i3).toNatClampNeg) x4) 83 ((i3).toNatClampNeg) x1) 84 ((i3).toNatClampNeg) (0 : Int32)) 80 5 (i3 + (1 : Int32))) ac_SK K)))))))) ∧
            (¬ x1 < (V1 80 1) →
              ab_E G (ac_ST L xs) l d ac_SK 32 [.ref 80, .int x1, .int x1] V1 (aa_rI (fun x2 V2 =>
                vp_in i3 161 ∧
                vp_in i3 161 ∧
                (x2 = (258 : Int32) →
                  ab_E G (ac_ST L xs) l d ac_SK 33 [.ref 80, .int x1, .int x1] (aa_up (aa_up V2 82 ((i3).toNatClampNeg) x2) 83 ((i3).toNatClampNeg) x1) (aa_rI (fun x3 V3 =>
                    vp_in i3 161 ∧
                    ab_J G (ac_ST L xs) l (d + 1) 29 13 [some (.ref 80), some (.int x1), some (.int x2), some (.int (i3 + 1)), none] [] ac_SK (aa_up (aa_up V3 84 ((i3).toNatClampNeg) x3) 80 5 (i3 + (1 : Int32))) ac_SK K))) ∧
                (¬ x2 = (258 : Int32) →
                  vp_in i3 161 ∧
                  ab_J G (ac_ST L xs) l (d + 1) 29 13 [some (.ref 80), some (.int x1), some (.int x2), some (.int (i3 + 1)), none] [] ac_SK (aa_up (aa_up (aa_up (aa_up V2 82 ((i3).toNatClampNeg) x2) 83 ((i3).toNatClampNeg) x1) 84 ((i3).toNatClampNeg) (0 : Int32)) 80 5 (i3 + (1 : Int32))) ac_SK K)))))))))) :
    ab_J G (ac_ST L xs) l (d + 1) 29 13 [some (.ref 80), some (.int i1), some (.int i2), some (.int i3), none] [] ac_SK V ac_SK K := ab_wm cd_29_ok [(13, [true, true, true, true, false])] 136 _ _ _ _ h

set_option maxRecDepth 20000 in
/-- FrameCounty$Reader stretchEnd(II)I, from 0 -/
theorem vc_30_0 {G : ab_G} {L : Nat} {xs : Nat → Int32} {l : Launch} {d : Nat} {i1 : Int32} {i2 : Int32} {V : aa_V} {K : aa_K} (h :
    (i2 = (3 : Int32) →
      ab_J G (ac_ST L xs) l (d + 1) 30 26 [some (.ref 80), none, some (.int i2), some (.int (if (V 80 1) < (i1 + (1 : Int32)) then (V 80 1) else (i1 + (1 : Int32)))), some (.int i1)] [] ac_SK V ac_SK K) ∧
    (¬ i2 = (3 : Int32) →
      ab_J G (ac_ST L xs) l (d + 1) 30 26 [some (.ref 80), none, some (.int i2), some (.int (V 80 1)), some (.int i1)] [] ac_SK V ac_SK K)) :
    ab_E G (ac_ST L xs) l (d + 1) ac_SK 30 [.ref 80, .int i1, .int i2] V K := ab_wm cd_30_ok [(26, [true, false, true, true, true])] 25 _ _ _ _ h

set_option maxRecDepth 20000 in
/-- FrameCounty$Reader stretchEnd(II)I, from 26 -/
theorem vc_30_26 {G : ab_G} {L : Nat} {xs : Nat → Int32} {l : Launch} {d : Nat} {i2 : Int32} {i3 : Int32} {i4 : Int32} {V : aa_V} {K : aa_K} (h :
    (i4 < i3 →
      vp_in i4 160 ∧
      ab_E G (ac_ST L xs) l d ac_SK 31 [.int (V 81 ((i4).toNatClampNeg))] V (aa_rI (fun x1 V1 =>
        (x1 = i2 →
          ab_J G (ac_ST L xs) l (d + 1) 30 26 [some (.ref 80), none, some (.int i2), some (.int i3), some (.int (i4 + 1))] [] ac_SK V1 ac_SK K) ∧
        (¬ x1 = i2 →
          K (some (.int i4)) V1)))) ∧
    (¬ i4 < i3 →
      K (some (.int i4)) V)) :
    ab_J G (ac_ST L xs) l (d + 1) 30 26 [some (.ref 80), none, some (.int i2), some (.int i3), some (.int i4)] [] ac_SK V ac_SK K := ab_wm cd_30_ok [(26, [true, false, true, true, true])] 22 _ _ _ _ h

set_option maxRecDepth 20000 in
/-- FrameCounty$Reader sortOf(I)I, from 0 -/
theorem vc_31_0 {G : ab_G} {L : Nat} {xs : Nat → Int32} {l : Launch} {d : Nat} {i0 : Int32} {V : aa_V} {K : aa_K} (h :
    (i0 = (32 : Int32) →
      K (some (.int (0 : Int32))) V) ∧
    (¬ i0 = (32 : Int32) →
      (i0 = (10 : Int32) →
        K (some (.int (0 : Int32))) V) ∧
      (¬ i0 = (10 : Int32) →
        ab_E G (ac_ST L xs) l d ac_SK 182 [.int i0, .int (97 : Int32), .int (122 : Int32)] V (aa_rI (fun x1 V1 =>
          (x1 = 0 →
            ab_E G (ac_ST L xs) l d ac_SK 182 [.int i0, .int (48 : Int32), .int (57 : Int32)] V1 (aa_rI (fun x2 V2 =>
              (x2 = 0 →
                K (some (.int (3 : Int32))) V2) ∧
              (¬ x2 = 0 →
                K (some (.int (2 : Int32))) V2)))) ∧
          (¬ x1 = 0 →
            K (some (.int (1 : Int32))) V1)))))) :
    ab_E G (ac_ST L xs) l (d + 1) ac_SK 31 [.int i0] V K := ab_wm cd_31_ok [] 33 _ _ _ _ h

set_option maxRecDepth 20000 in
/-- FrameCounty$Reader tokenOf(II)I, from 0 -/
theorem vc_32_0 {G : ab_G} {L : Nat} {xs : Nat → Int32} {l : Launch} {d : Nat} {i1 : Int32} {i2 : Int32} {V : aa_V} {K : aa_K} (h :
    (i1 < (V 80 1) →
      vp_in i1 160 ∧
      ab_E G (ac_ST L xs) l d ac_SK 31 [.int (V 81 ((i1).toNatClampNeg))] V (aa_rI (fun x1 V1 =>
        (x1 = 1 →
          ab_E G (ac_ST L xs) l d ac_SK 34 [.ref 80, .int i1, .int i2] V1 (aa_rI (fun x2 V2 =>
            K (some (.int x2)) V2))) ∧
        (¬ x1 = 1 →
        (x1 = 2 →
          ((4 : Int32) < (i2 - i1) →
            K (some (.int (257 : Int32))) V1) ∧
          (¬ (4 : Int32) < (i2 - i1) →
            K (some (.int (258 : Int32))) V1)) ∧
        (¬ x1 = 2 →
        vp_in i1 160 ∧
        K (some (.int (V1 81 ((i1).toNatClampNeg)))) V1))))) ∧
    (¬ i1 < (V 80 1) →
      K (some (.int (256 : Int32))) V)) :
    ab_E G (ac_ST L xs) l (d + 1) ac_SK 32 [.ref 80, .int i1, .int i2] V K := ab_wm cd_32_ok [] 37 _ _ _ _ h

set_option maxRecDepth 20000 in
/-- FrameCounty$Reader numberOf(II)I, from 0 -/
theorem vc_33_0 {G : ab_G} {L : Nat} {xs : Nat → Int32} {l : Launch} {d : Nat} {i1 : Int32} {i2 : Int32} {V : aa_V} {K : aa_K} (h :
    ab_J G (ac_ST L xs) l (d + 1) 33 5 [some (.ref 80), none, some (.int i2), some (.int (0 : Int32)), some (.int i1)] [] ac_SK V ac_SK K) :
    ab_E G (ac_ST L xs) l (d + 1) ac_SK 33 [.ref 80, .int i1, .int i2] V K := ab_wm cd_33_ok [(5, [true, false, true, true, true])] 10 _ _ _ _ h

set_option maxRecDepth 20000 in
/-- FrameCounty$Reader numberOf(II)I, from 5 -/
theorem vc_33_5 {G : ab_G} {L : Nat} {xs : Nat → Int32} {l : Launch} {d : Nat} {i2 : Int32} {i3 : Int32} {i4 : Int32} {V : aa_V} {K : aa_K} (h :
    (i4 < i2 →
      vp_in i4 160 ∧
      ab_J G (ac_ST L xs) l (d + 1) 33 5 [some (.ref 80), none, some (.int i2), some (.int (((i3 * (10 : Int32)) + (V 81 ((i4).toNatClampNeg))) - (48 : Int32))), some (.int (i4 + 1))] [] ac_SK V ac_SK K) ∧
    (¬ i4 < i2 →
      K (some (.int i3)) V)) :
    ab_J G (ac_ST L xs) l (d + 1) 33 5 [some (.ref 80), none, some (.int i2), some (.int i3), some (.int i4)] [] ac_SK V ac_SK K := ab_wm cd_33_ok [(5, [true, false, true, true, true])] 24 _ _ _ _ h

set_option maxRecDepth 20000 in
/-- FrameCounty$Reader wordOf(II)I, from 0 -/
theorem vc_34_0 {G : ab_G} {L : Nat} {xs : Nat → Int32} {l : Launch} {d : Nat} {i1 : Int32} {i2 : Int32} {V : aa_V} {K : aa_K} (h :
    ab_J G (ac_ST L xs) l (d + 1) 34 2 [some (.ref 80), some (.int i1), some (.int i2), some (.int (0 : Int32))] [] ac_SK V ac_SK K) :
    ab_E G (ac_ST L xs) l (d + 1) ac_SK 34 [.ref 80, .int i1, .int i2] V K := ab_wm cd_34_ok [(2, [true, true, true, true])] 8 _ _ _ _ h

set_option maxRecDepth 20000 in
/-- FrameCounty$Reader wordOf(II)I, from 2 -/
theorem vc_34_2 {G : ab_G} {L : Nat} {xs : Nat → Int32} {l : Launch} {d : Nat} {i1 : Int32} {i2 : Int32} {i3 : Int32} {V : aa_V} {K : aa_K} (h :
    (i3 < (11 : Int32) →
      ab_E G (ac_ST L xs) l d ac_SK 36 [.int i3] V (aa_rR (fun x1 V1 =>
        ab_E G (ac_ST L xs) l d ac_SK 35 [.ref 80, .ref x1, .int i1, .int i2] V1 (aa_rI (fun x2 V2 =>
          (x2 = 0 →
            ab_J G (ac_ST L xs) l (d + 1) 34 2 [some (.ref 80), some (.int i1), some (.int i2), some (.int (i3 + 1))] [] ac_SK V2 ac_SK K) ∧
          (¬ x2 = 0 →
            K (some (.int ((300 : Int32) + i3))) V2)))))) ∧
    (¬ i3 < (11 : Int32) →
      K (some (.int (257 : Int32))) V)) :
    ab_J G (ac_ST L xs) l (d + 1) 34 2 [some (.ref 80), some (.int i1), some (.int i2), some (.int i3)] [] ac_SK V ac_SK K := ab_wm cd_34_ok [(2, [true, true, true, true])] 24 _ _ _ _ h

set_option maxRecDepth 20000 in
/-- FrameCounty$Reader stands(Ljava/lang/String;II)Z, from 0 -/
theorem vc_35_0 {G : ab_G} {L : Nat} {xs : Nat → Int32} {l : Launch} {d : Nat} {r1 : Nat} {i2 : Int32} {i3 : Int32} {V : aa_V} {K : aa_K} (h :
    2000000 ≤ r1 ∧ r1 < 2000012 ∧
    ab_E G (ac_ST L xs) l d ac_SK 289 [.ref r1] V (aa_rI (fun x1 V1 =>
      (x1 = (i3 - i2) →
        ab_J G (ac_ST L xs) l (d + 1) 35 15 [some (.ref 80), some (.ref r1), some (.int i2), some (.int i3), some (.int i2)] [] ac_SK V1 ac_SK K) ∧
      (¬ x1 = (i3 - i2) →
        aa_bit (0 : Int32) ∧ K (some (.int (0 : Int32))) V1)))) :
    ab_E G (ac_ST L xs) l (d + 1) ac_SK 35 [.ref 80, .ref r1, .int i2, .int i3] V K := ab_wm cd_35_ok [(15, [true, true, true, true, true])] 16 _ _ _ _ h

set_option maxRecDepth 20000 in
/-- FrameCounty$Reader stands(Ljava/lang/String;II)Z, from 15 -/
theorem vc_35_15 {G : ab_G} {L : Nat} {xs : Nat → Int32} {l : Launch} {d : Nat} {r1 : Nat} {i2 : Int32} {i3 : Int32} {i4 : Int32} {V : aa_V} {K : aa_K} (h :
    (i4 < i3 →
      vp_in i4 160 ∧
      2000000 ≤ r1 ∧ r1 < 2000012 ∧
      ab_E G (ac_ST L xs) l d ac_SK 290 [.ref r1, .int (i4 - i2)] V (aa_rI (fun x1 V1 =>
        ((V 81 ((i4).toNatClampNeg)) = x1 →
          ab_J G (ac_ST L xs) l (d + 1) 35 15 [some (.ref 80), some (.ref r1), some (.int i2), some (.int i3), some (.int (i4 + 1))] [] ac_SK V1 ac_SK K) ∧
        (¬ (V 81 ((i4).toNatClampNeg)) = x1 →
          aa_bit (0 : Int32) ∧ K (some (.int (0 : Int32))) V1)))) ∧
    (¬ i4 < i3 →
      aa_bit (1 : Int32) ∧ K (some (.int (1 : Int32))) V)) :
    ab_J G (ac_ST L xs) l (d + 1) 35 15 [some (.ref 80), some (.ref r1), some (.int i2), some (.int i3), some (.int i4)] [] ac_SK V ac_SK K := ab_wm cd_35_ok [(15, [true, true, true, true, true])] 25 _ _ _ _ h

set_option maxRecDepth 20000 in
/-- FrameCounty$Reader lettersOf(I)Ljava/lang/String;, from 0 -/
theorem vc_36_0 {G : ab_G} {L : Nat} {xs : Nat → Int32} {l : Launch} {d : Nat} {i0 : Int32} {V : aa_V} {K : aa_K} (h :
    (i0 = 0 →
      K (some (.ref (2000000 + 1))) V) ∧
    (¬ i0 = 0 →
    (i0 = 1 →
      K (some (.ref (2000000 + 2))) V) ∧
    (¬ i0 = 1 →
    (i0 = 2 →
      K (some (.ref (2000000 + 3))) V) ∧
    (¬ i0 = 2 →
    (i0 = 3 →
      K (some (.ref (2000000 + 4))) V) ∧
    (¬ i0 = 3 →
    (i0 = 4 →
      K (some (.ref (2000000 + 5))) V) ∧
    (¬ i0 = 4 →
    (i0 = 5 →
      K (some (.ref (2000000 + 6))) V) ∧
    (¬ i0 = 5 →
    (i0 = 6 →
      K (some (.ref (2000000 + 7))) V) ∧
    (¬ i0 = 6 →
    (i0 = 7 →
      K (some (.ref (2000000 + 8))) V) ∧
    (¬ i0 = 7 →
    (i0 = 8 →
      K (some (.ref (2000000 + 9))) V) ∧
    (¬ i0 = 8 →
    (i0 = 9 →
      K (some (.ref (2000000 + 10))) V) ∧
    (¬ i0 = 9 →
    K (some (.ref (2000000 + 11))) V))))))))))) :
    ab_E G (ac_ST L xs) l (d + 1) ac_SK 36 [.int i0] V K := ab_wm cd_36_ok [] 29 _ _ _ _ h

set_option maxRecDepth 20000 in
/-- FrameCounty$Reader token()I, from 0 -/
theorem vc_37_0 {G : ab_G} {L : Nat} {xs : Nat → Int32} {l : Launch} {d : Nat} {V : aa_V} {K : aa_K} (h :
    ((V 80 7) = (-1 : Int32) →
      ((V 80 6) < (V 80 5) →
        vp_in (V 80 6) 161 ∧
        K (some (.int (V 82 (((V 80 6)).toNatClampNeg)))) V) ∧
      (¬ (V 80 6) < (V 80 5) →
        K (some (.int (257 : Int32))) V)) ∧
    (¬ (V 80 7) = (-1 : Int32) →
      K (some (.int (257 : Int32))) V)) :
    ab_E G (ac_ST L xs) l (d + 1) ac_SK 37 [.ref 80] V K := ab_wm cd_37_ok [] 25 _ _ _ _ h

set_option maxRecDepth 20000 in
/-- FrameCounty$Reader fail()V, from 0 -/
theorem vc_38_0 {G : ab_G} {L : Nat} {xs : Nat → Int32} {l : Launch} {d : Nat} {V : aa_V} {K : aa_K} (h :
    ((V 80 7) = (-1 : Int32) →
      ((V 80 6) < (V 80 5) →
        vp_in (V 80 6) 161 ∧
        K none (aa_up V 80 7 (V 83 (((V 80 6)).toNatClampNeg)))) ∧
      (¬ (V 80 6) < (V 80 5) →
        K none V)) ∧
    (¬ (V 80 7) = (-1 : Int32) →
      K none V)) :
    ab_E G (ac_ST L xs) l (d + 1) ac_SK 38 [.ref 80] V K := ab_wm cd_38_ok [] 24 _ _ _ _ h

set_option maxRecDepth 20000 in
/-- FrameCounty$Reader expect(I)V, from 0 -/
theorem vc_39_0 {G : ab_G} {L : Nat} {xs : Nat → Int32} {l : Launch} {d : Nat} {i1 : Int32} {V : aa_V} {K : aa_K} (h :
    ab_E G (ac_ST L xs) l d ac_SK 37 [.ref 80] V (aa_rI (fun x1 V1 =>
      (x1 = i1 →
        K none (aa_up V1 80 6 ((V1 80 6) + (1 : Int32)))) ∧
      (¬ x1 = i1 →
        ab_E G (ac_ST L xs) l d ac_SK 38 [.ref 80] V1 (aa_rV (fun V2 =>
          K none V2)))))) :
    ab_E G (ac_ST L xs) l (d + 1) ac_SK 39 [.ref 80, .int i1] V K := ab_wm cd_39_ok [] 20 _ _ _ _ h

set_option maxRecDepth 20000 in
/-- FrameCounty$Reader readOr(I)V, from 0 -/
theorem vc_40_0 {G : ab_G} {L : Nat} {xs : Nat → Int32} {l : Launch} {d : Nat} {i1 : Int32} {V : aa_V} {K : aa_K} (h :
    ab_E G (ac_ST L xs) l d ac_SK 41 [.ref 80, .int i1] V (aa_rV (fun V1 =>
      ab_J G (ac_ST L xs) l (d + 1) 40 7 [some (.ref 80), some (.int i1), some (.int (0 : Int32))] [] ac_SK V1 ac_SK K))) :
    ab_E G (ac_ST L xs) l (d + 1) ac_SK 40 [.ref 80, .int i1] V K := ab_wm cd_40_ok [(7, [true, true, true])] 11 _ _ _ _ h

set_option maxRecDepth 20000 in
/-- FrameCounty$Reader readOr(I)V, from 7 -/
theorem vc_40_7 {G : ab_G} {L : Nat} {xs : Nat → Int32} {l : Launch} {d : Nat} {i1 : Int32} {i2 : Int32} {V : aa_V} {K : aa_K} (h :
    (i2 < (160 : Int32) →
      ab_E G (ac_ST L xs) l d ac_SK 37 [.ref 80] V (aa_rI (fun x1 V1 =>
        (x1 = (308 : Int32) →
          ab_E G (ac_ST L xs) l d ac_SK 41 [.ref 80, .int i1] (aa_up V1 80 6 ((V1 80 6) + (1 : Int32))) (aa_rV (fun V2 =>
            ∃ q3 : Nat, ((V2 80 8)).toNatClampNeg = q3 + 1 ∧
            aa_is ac_SK q3 6 ∧
            ab_E G (ac_ST L xs) l d ac_SK 70 [.ref q3, .int (20002 : Int32)] V2 (aa_rV (fun V4 =>
              ab_J G (ac_ST L xs) l (d + 1) 40 7 [some (.ref 80), some (.int i1), some (.int (i2 + 1))] [] ac_SK V4 ac_SK K))))) ∧
        (¬ x1 = (308 : Int32) →
          K none V1)))) ∧
    (¬ i2 < (160 : Int32) →
      K none V)) :
    ab_J G (ac_ST L xs) l (d + 1) 40 7 [some (.ref 80), some (.int i1), some (.int i2)] [] ac_SK V ac_SK K := ab_wm cd_40_ok [(7, [true, true, true])] 30 _ _ _ _ h

set_option maxRecDepth 20000 in
/-- FrameCounty$Reader readAnd(I)V, from 0 -/
theorem vc_41_0 {G : ab_G} {L : Nat} {xs : Nat → Int32} {l : Launch} {d : Nat} {i1 : Int32} {V : aa_V} {K : aa_K} (h :
    ab_E G (ac_ST L xs) l d ac_SK 42 [.ref 80, .int i1] V (aa_rV (fun V1 =>
      ab_J G (ac_ST L xs) l (d + 1) 41 7 [some (.ref 80), some (.int i1), some (.int (0 : Int32))] [] ac_SK V1 ac_SK K))) :
    ab_E G (ac_ST L xs) l (d + 1) ac_SK 41 [.ref 80, .int i1] V K := ab_wm cd_41_ok [(7, [true, true, true])] 11 _ _ _ _ h

set_option maxRecDepth 20000 in
/-- FrameCounty$Reader readAnd(I)V, from 7 -/
theorem vc_41_7 {G : ab_G} {L : Nat} {xs : Nat → Int32} {l : Launch} {d : Nat} {i1 : Int32} {i2 : Int32} {V : aa_V} {K : aa_K} (h :
    (i2 < (160 : Int32) →
      ab_E G (ac_ST L xs) l d ac_SK 37 [.ref 80] V (aa_rI (fun x1 V1 =>
        (x1 = (309 : Int32) →
          ab_E G (ac_ST L xs) l d ac_SK 42 [.ref 80, .int i1] (aa_up V1 80 6 ((V1 80 6) + (1 : Int32))) (aa_rV (fun V2 =>
            ∃ q3 : Nat, ((V2 80 8)).toNatClampNeg = q3 + 1 ∧
            aa_is ac_SK q3 6 ∧
            ab_E G (ac_ST L xs) l d ac_SK 70 [.ref q3, .int (20003 : Int32)] V2 (aa_rV (fun V4 =>
              ab_J G (ac_ST L xs) l (d + 1) 41 7 [some (.ref 80), some (.int i1), some (.int (i2 + 1))] [] ac_SK V4 ac_SK K))))) ∧
        (¬ x1 = (309 : Int32) →
          K none V1)))) ∧
    (¬ i2 < (160 : Int32) →
      K none V)) :
    ab_J G (ac_ST L xs) l (d + 1) 41 7 [some (.ref 80), some (.int i1), some (.int i2)] [] ac_SK V ac_SK K := ab_wm cd_41_ok [(7, [true, true, true])] 30 _ _ _ _ h

set_option maxRecDepth 20000 in
/-- FrameCounty$Reader readNot(I)V, from 0 -/
theorem vc_42_0 {G : ab_G} {L : Nat} {xs : Nat → Int32} {l : Launch} {d : Nat} {i1 : Int32} {V : aa_V} {K : aa_K} (h :
    ab_E G (ac_ST L xs) l d ac_SK 37 [.ref 80] V (aa_rI (fun x1 V1 =>
      (x1 = (310 : Int32) →
        ab_E G (ac_ST L xs) l d ac_SK 46 [.ref 80, .int i1] V1 (aa_rI (fun x2 V2 =>
          (x2 = 0 →
            K none V2) ∧
          (¬ x2 = 0 →
            ab_E G (ac_ST L xs) l d ac_SK 42 [.ref 80, .int (i1 + (1 : Int32))] V2 (aa_rV (fun V3 =>
              ∃ q4 : Nat, ((V3 80 8)).toNatClampNeg = q4 + 1 ∧
              aa_is ac_SK q4 6 ∧
              ab_E G (ac_ST L xs) l d ac_SK 70 [.ref q4, .int (20000 : Int32)] V3 (aa_rV (fun V5 =>
                K none V5)))))))) ∧
      (¬ x1 = (310 : Int32) →
        ab_E G (ac_ST L xs) l d ac_SK 43 [.ref 80, .int i1] V1 (aa_rV (fun V2 =>
          ab_E G (ac_ST L xs) l d ac_SK 37 [.ref 80] V2 (aa_rI (fun x3 V3 =>
            (x3 = (60 : Int32) →
              ab_E G (ac_ST L xs) l d ac_SK 43 [.ref 80, .int i1] (aa_up V3 80 6 ((V3 80 6) + (1 : Int32))) (aa_rV (fun V4 =>
                ∃ q5 : Nat, ((V4 80 8)).toNatClampNeg = q5 + 1 ∧
                (x3 = (60 : Int32) →
                  aa_is ac_SK q5 6 ∧
                  ab_E G (ac_ST L xs) l d ac_SK 70 [.ref q5, .int (20004 : Int32)] V4 (aa_rV (fun V6 =>
                    K none V6))) ∧
                (¬ x3 = (60 : Int32) →
                  aa_is ac_SK q5 6 ∧
                  ab_E G (ac_ST L xs) l d ac_SK 70 [.ref q5, .int (20005 : Int32)] V4 (aa_rV (fun V6 =>
                    K none V6)))))) ∧
            (¬ x3 = (60 : Int32) →
              (x3 = (61 : Int32) →
                ab_E G (ac_ST L xs) l d ac_SK 43 [.ref 80, .int i1] (aa_up V3 80 6 ((V3 80 6) + (1 : Int32))) (aa_rV (fun V4 =>
                  ∃ q5 : Nat, ((V4 80 8)).toNatClampNeg = q5 + 1 ∧
                  (x3 = (60 : Int32) →
                    aa_is ac_SK q5 6 ∧
                    ab_E G (ac_ST L xs) l d ac_SK 70 [.ref q5, .int (20004 : Int32)] V4 (aa_rV (fun V6 =>
                      K none V6))) ∧
                  (¬ x3 = (60 : Int32) →
                    aa_is ac_SK q5 6 ∧
                    ab_E G (ac_ST L xs) l d ac_SK 70 [.ref q5, .int (20005 : Int32)] V4 (aa_rV (fun V6 =>
                      K none V6)))))) ∧
              (¬ x3 = (61 : Int32) →
                K none V3)))))))))) :
    ab_E G (ac_ST L xs) l (d + 1) ac_SK 42 [.ref 80, .int i1] V K := ab_wm cd_42_ok [] 79 _ _ _ _ h

set_option maxRecDepth 20000 in
/-- FrameCounty$Reader readSum(I)V, from 0 -/
theorem vc_43_0 {G : ab_G} {L : Nat} {xs : Nat → Int32} {l : Launch} {d : Nat} {i1 : Int32} {V : aa_V} {K : aa_K} (h :
    ab_E G (ac_ST L xs) l d ac_SK 44 [.ref 80, .int i1] V (aa_rV (fun V1 =>
      ab_J G (ac_ST L xs) l (d + 1) 43 7 [some (.ref 80), some (.int i1), some (.int (0 : Int32)), none] [] ac_SK V1 ac_SK K))) :
    ab_E G (ac_ST L xs) l (d + 1) ac_SK 43 [.ref 80, .int i1] V K := ab_wm cd_43_ok [(7, [true, true, true, false])] 11 _ _ _ _ h

set_option maxRecDepth 20000 in
/-- FrameCounty$Reader readSum(I)V, from 7 -/
theorem vc_43_7 {G : ab_G} {L : Nat} {xs : Nat → Int32} {l : Launch} {d : Nat} {i1 : Int32} {i2 : Int32} {V : aa_V} {K : aa_K} (h :
    (i2 < (160 : Int32) →
      ab_E G (ac_ST L xs) l d ac_SK 37 [.ref 80] V (aa_rI (fun x1 V1 =>
        (x1 = (43 : Int32) →
          ab_E G (ac_ST L xs) l d ac_SK 37 [.ref 80] V1 (aa_rI (fun x2 V2 =>
            ab_E G (ac_ST L xs) l d ac_SK 44 [.ref 80, .int i1] (aa_up V2 80 6 ((V2 80 6) + (1 : Int32))) (aa_rV (fun V3 =>
              ∃ q4 : Nat, ((V3 80 8)).toNatClampNeg = q4 + 1 ∧
              (x2 = (43 : Int32) →
                aa_is ac_SK q4 6 ∧
                ab_E G (ac_ST L xs) l d ac_SK 70 [.ref q4, .int (20006 : Int32)] V3 (aa_rV (fun V5 =>
                  ab_J G (ac_ST L xs) l (d + 1) 43 7 [some (.ref 80), some (.int i1), some (.int (i2 + 1)), none] [] ac_SK V5 ac_SK K))) ∧
              (¬ x2 = (43 : Int32) →
                aa_is ac_SK q4 6 ∧
                ab_E G (ac_ST L xs) l d ac_SK 70 [.ref q4, .int (20007 : Int32)] V3 (aa_rV (fun V5 =>
                  ab_J G (ac_ST L xs) l (d + 1) 43 7 [some (.ref 80), some (.int i1), some (.int (i2 + 1)), none] [] ac_SK V5 ac_SK K)))))))) ∧
        (¬ x1 = (43 : Int32) →
          ab_E G (ac_ST L xs) l d ac_SK 37 [.ref 80] V1 (aa_rI (fun x2 V2 =>
            (x2 = (45 : Int32) →
              ab_E G (ac_ST L xs) l d ac_SK 37 [.ref 80] V2 (aa_rI (fun x3 V3 =>
                ab_E G (ac_ST L xs) l d ac_SK 44 [.ref 80, .int i1] (aa_up V3 80 6 ((V3 80 6) + (1 : Int32))) (aa_rV (fun V4 =>
                  ∃ q5 : Nat, ((V4 80 8)).toNatClampNeg = q5 + 1 ∧
                  (x3 = (43 : Int32) →
                    aa_is ac_SK q5 6 ∧
                    ab_E G (ac_ST L xs) l d ac_SK 70 [.ref q5, .int (20006 : Int32)] V4 (aa_rV (fun V6 =>
                      ab_J G (ac_ST L xs) l (d + 1) 43 7 [some (.ref 80), some (.int i1), some (.int (i2 + 1)), none] [] ac_SK V6 ac_SK K))) ∧
                  (¬ x3 = (43 : Int32) →
                    aa_is ac_SK q5 6 ∧
                    ab_E G (ac_ST L xs) l d ac_SK 70 [.ref q5, .int (20007 : Int32)] V4 (aa_rV (fun V6 =>
                      ab_J G (ac_ST L xs) l (d + 1) 43 7 [some (.ref 80), some (.int i1), some (.int (i2 + 1)), none] [] ac_SK V6 ac_SK K)))))))) ∧
            (¬ x2 = (45 : Int32) →
              K none V2))))))) ∧
    (¬ i2 < (160 : Int32) →
      K none V)) :
    ab_J G (ac_ST L xs) l (d + 1) 43 7 [some (.ref 80), some (.int i1), some (.int i2), none] [] ac_SK V ac_SK K := ab_wm cd_43_ok [(7, [true, true, true, false])] 74 _ _ _ _ h

set_option maxRecDepth 20000 in
/-- FrameCounty$Reader readTerm(I)V, from 0 -/
theorem vc_44_0 {G : ab_G} {L : Nat} {xs : Nat → Int32} {l : Launch} {d : Nat} {i1 : Int32} {V : aa_V} {K : aa_K} (h :
    ab_E G (ac_ST L xs) l d ac_SK 45 [.ref 80, .int i1] V (aa_rV (fun V1 =>
      ab_J G (ac_ST L xs) l (d + 1) 44 7 [some (.ref 80), some (.int i1), some (.int (0 : Int32))] [] ac_SK V1 ac_SK K))) :
    ab_E G (ac_ST L xs) l (d + 1) ac_SK 44 [.ref 80, .int i1] V K := ab_wm cd_44_ok [(7, [true, true, true])] 11 _ _ _ _ h

set_option maxRecDepth 20000 in
/-- FrameCounty$Reader readTerm(I)V, from 7 -/
theorem vc_44_7 {G : ab_G} {L : Nat} {xs : Nat → Int32} {l : Launch} {d : Nat} {i1 : Int32} {i2 : Int32} {V : aa_V} {K : aa_K} (h :
    (i2 < (160 : Int32) →
      ab_E G (ac_ST L xs) l d ac_SK 37 [.ref 80] V (aa_rI (fun x1 V1 =>
        (x1 = (42 : Int32) →
          ab_E G (ac_ST L xs) l d ac_SK 45 [.ref 80, .int i1] (aa_up V1 80 6 ((V1 80 6) + (1 : Int32))) (aa_rV (fun V2 =>
            ∃ q3 : Nat, ((V2 80 8)).toNatClampNeg = q3 + 1 ∧
            aa_is ac_SK q3 6 ∧
            ab_E G (ac_ST L xs) l d ac_SK 70 [.ref q3, .int (20008 : Int32)] V2 (aa_rV (fun V4 =>
              ab_J G (ac_ST L xs) l (d + 1) 44 7 [some (.ref 80), some (.int i1), some (.int (i2 + 1))] [] ac_SK V4 ac_SK K))))) ∧
        (¬ x1 = (42 : Int32) →
          K none V1)))) ∧
    (¬ i2 < (160 : Int32) →
      K none V)) :
    ab_J G (ac_ST L xs) l (d + 1) 44 7 [some (.ref 80), some (.int i1), some (.int i2)] [] ac_SK V ac_SK K := ab_wm cd_44_ok [(7, [true, true, true])] 30 _ _ _ _ h

set_option maxRecDepth 20000 in
/-- FrameCounty$Reader readOne(I)V, from 0 -/
theorem vc_45_0 {G : ab_G} {L : Nat} {xs : Nat → Int32} {l : Launch} {d : Nat} {i1 : Int32} {V : aa_V} {K : aa_K} (h :
    ab_E G (ac_ST L xs) l d ac_SK 37 [.ref 80] V (aa_rI (fun x1 V1 =>
      (x1 = (258 : Int32) →
        ∃ q2 : Nat, ((V1 80 8)).toNatClampNeg = q2 + 1 ∧
        vp_in (V1 80 6) 161 ∧
        aa_is ac_SK q2 6 ∧
        ab_E G (ac_ST L xs) l d ac_SK 70 [.ref q2, .int (V1 84 (((V1 80 6)).toNatClampNeg))] V1 (aa_rV (fun V3 =>
          K none (aa_up V3 80 6 ((V3 80 6) + (1 : Int32)))))) ∧
      (¬ x1 = (258 : Int32) →
        ab_E G (ac_ST L xs) l d ac_SK 182 [.int x1, .int (300 : Int32), .int (305 : Int32)] V1 (aa_rI (fun x2 V2 =>
          (x2 = 0 →
            (x1 = (45 : Int32) →
              ab_E G (ac_ST L xs) l d ac_SK 46 [.ref 80, .int i1] V2 (aa_rI (fun x3 V3 =>
                (x3 = 0 →
                  K none V3) ∧
                (¬ x3 = 0 →
                  ab_E G (ac_ST L xs) l d ac_SK 45 [.ref 80, .int (i1 + (1 : Int32))] V3 (aa_rV (fun V4 =>
                    ∃ q5 : Nat, ((V4 80 8)).toNatClampNeg = q5 + 1 ∧
                    aa_is ac_SK q5 6 ∧
                    ab_E G (ac_ST L xs) l d ac_SK 70 [.ref q5, .int (20001 : Int32)] V4 (aa_rV (fun V6 =>
                      K none V6)))))))) ∧
            (¬ x1 = (45 : Int32) →
              (x1 = (40 : Int32) →
                ab_E G (ac_ST L xs) l d ac_SK 46 [.ref 80, .int i1] V2 (aa_rI (fun x3 V3 =>
                  (x3 = 0 →
                    K none V3) ∧
                  (¬ x3 = 0 →
                    ab_E G (ac_ST L xs) l d ac_SK 40 [.ref 80, .int (i1 + (1 : Int32))] V3 (aa_rV (fun V4 =>
                      ab_E G (ac_ST L xs) l d ac_SK 39 [.ref 80, .int (41 : Int32)] V4 (aa_rV (fun V5 =>
                        K none V5)))))))) ∧
              (¬ x1 = (40 : Int32) →
                ab_E G (ac_ST L xs) l d ac_SK 38 [.ref 80] V2 (aa_rV (fun V3 =>
                  K none V3))))) ∧
          (¬ x2 = 0 →
            ∃ q3 : Nat, ((V2 80 8)).toNatClampNeg = q3 + 1 ∧
            aa_is ac_SK q3 6 ∧
            ab_E G (ac_ST L xs) l d ac_SK 71 [.ref q3, .int (x1 - (300 : Int32))] V2 (aa_rV (fun V4 =>
              K none (aa_up V4 80 6 ((V4 80 6) + (1 : Int32)))))))))))) :
    ab_E G (ac_ST L xs) l (d + 1) ac_SK 45 [.ref 80, .int i1] V K := ab_wm cd_45_ok [] 86 _ _ _ _ h

set_option maxRecDepth 20000 in
/-- FrameCounty$Reader mayOpen(I)Z, from 0 -/
theorem vc_46_0 {G : ab_G} {L : Nat} {xs : Nat → Int32} {l : Launch} {d : Nat} {i1 : Int32} {V : aa_V} {K : aa_K} (h :
    (i1 < (5 : Int32) →
      aa_bit (1 : Int32) ∧ K (some (.int (1 : Int32))) (aa_up V 80 6 ((V 80 6) + (1 : Int32)))) ∧
    (¬ i1 < (5 : Int32) →
      ab_E G (ac_ST L xs) l d ac_SK 38 [.ref 80] V (aa_rV (fun V1 =>
        aa_bit (0 : Int32) ∧ K (some (.int (0 : Int32))) V1)))) :
    ab_E G (ac_ST L xs) l (d + 1) ac_SK 46 [.ref 80, .int i1] V K := ab_wm cd_46_ok [] 20 _ _ _ _ h

set_option maxRecDepth 20000 in
/-- FrameCounty$Roads isVillage(I)Z, from 0 -/
theorem vc_48_0 {G : ab_G} {L : Nat} {xs : Nat → Int32} {l : Launch} {d : Nat} {i0 : Int32} {V : aa_V} {K : aa_K} (h :
    ab_E G (ac_ST L xs) l d ac_SK 182 [.int i0, .int (0 : Int32), .int (7 : Int32)] V (aa_rI (fun x1 V1 =>
      aa_bit x1 ∧ K (some (.int x1)) V1))) :
    ab_E G (ac_ST L xs) l (d + 1) ac_SK 48 [.int i0] V K := ab_wm cd_48_ok [] 10 _ _ _ _ h

set_option maxRecDepth 20000 in
/-- FrameCounty$Roads canTake(I)Z, from 0 -/
theorem vc_49_0 {G : ab_G} {L : Nat} {xs : Nat → Int32} {l : Launch} {d : Nat} {i0 : Int32} {V : aa_V} {K : aa_K} (h :
    ab_E G (ac_ST L xs) l d ac_SK 182 [.int i0, .int (1 : Int32), .int (9 : Int32)] V (aa_rI (fun x1 V1 =>
      (x1 = 0 →
        (i0 = (99 : Int32) →
          aa_bit (1 : Int32) ∧ K (some (.int (1 : Int32))) V1) ∧
        (¬ i0 = (99 : Int32) →
          aa_bit (0 : Int32) ∧ K (some (.int (0 : Int32))) V1)) ∧
      (¬ x1 = 0 →
        aa_bit (1 : Int32) ∧ K (some (.int (1 : Int32))) V1)))) :
    ab_E G (ac_ST L xs) l (d + 1) ac_SK 49 [.int i0] V K := ab_wm cd_49_ok [] 21 _ _ _ _ h

set_option maxRecDepth 20000 in
/-- FrameCounty$Roads lay(III)I, from 0 -/
theorem vc_50_0 {G : ab_G} {L : Nat} {xs : Nat → Int32} {l : Launch} {d : Nat} {i1 : Int32} {i2 : Int32} {i3 : Int32} {V : aa_V} {K : aa_K} (h :
    ∃ (n1 : Nat) (rs1 : List Nat) (q1 : Nat), aa_sh ac_SK 2 = some (103, n1, rs1) ∧ vp_in i1 n1 ∧ aa_nth rs1 (i1).toNatClampNeg = q1 + 1 ∧
    ∃ (n2 : Nat) (rs2 : List Nat), aa_sh ac_SK q1 = some (100, n2, rs2) ∧ vp_in i2 n2 ∧
    ∃ (n3 : Nat) (rs3 : List Nat) (q3 : Nat), aa_sh ac_SK 2 = some (103, n3, rs3) ∧ vp_in i1 n3 ∧ aa_nth rs3 (i1).toNatClampNeg = q3 + 1 ∧
    ∃ (n4 : Nat) (rs4 : List Nat), aa_sh ac_SK q3 = some (100, n4, rs4) ∧ vp_in i2 n4 ∧
    ∃ (n5 : Nat) (rs5 : List Nat) (q5 : Nat), aa_sh ac_SK 2 = some (103, n5, rs5) ∧ vp_in i2 n5 ∧ aa_nth rs5 (i2).toNatClampNeg = q5 + 1 ∧
    ∃ (n6 : Nat) (rs6 : List Nat), aa_sh ac_SK q5 = some (100, n6, rs6) ∧ vp_in i1 n6 ∧
    ab_E G (ac_ST L xs) l d ac_SK 54 [.ref 1, .ref 11, .int (0 : Int32)] (aa_up (aa_up V q3 ((i2).toNatClampNeg) i3) q5 ((i1).toNatClampNeg) i3) (aa_rV (fun V7 =>
      ab_E G (ac_ST L xs) l d ac_SK 54 [.ref 1, .ref 20, .int (1 : Int32)] V7 (aa_rV (fun V8 =>
        K (some (.int (V q1 ((i2).toNatClampNeg)))) V8))))) :
    ab_E G (ac_ST L xs) l (d + 1) ac_SK 50 [.ref 1, .int i1, .int i2, .int i3] V K := ab_wm cd_50_ok [] 38 _ _ _ _ h

set_option maxRecDepth 20000 in
/-- FrameCounty$Roads distance(III)I, from 0 -/
theorem vc_51_0 {G : ab_G} {L : Nat} {xs : Nat → Int32} {l : Launch} {d : Nat} {i1 : Int32} {i2 : Int32} {i3 : Int32} {V : aa_V} {K : aa_K} (h :
    ¬ (30 : Int32) = 0 ∧
    ((i3 - i3 / (30 : Int32) * (30 : Int32)) < (8 : Int32) →
      ∃ (n1 : Nat) (rs1 : List Nat) (q1 : Nat), aa_sh ac_SK 20 = some (103, n1, rs1) ∧ vp_in i1 n1 ∧ aa_nth rs1 (i1).toNatClampNeg = q1 + 1 ∧
      ∃ (n2 : Nat) (rs2 : List Nat), aa_sh ac_SK q1 = some (100, n2, rs2) ∧ vp_in i2 n2 ∧
      K (some (.int (V q1 ((i2).toNatClampNeg)))) V) ∧
    (¬ (i3 - i3 / (30 : Int32) * (30 : Int32)) < (8 : Int32) →
      ((22 : Int32) < (i3 - i3 / (30 : Int32) * (30 : Int32)) →
        ∃ (n1 : Nat) (rs1 : List Nat) (q1 : Nat), aa_sh ac_SK 20 = some (103, n1, rs1) ∧ vp_in i1 n1 ∧ aa_nth rs1 (i1).toNatClampNeg = q1 + 1 ∧
        ∃ (n2 : Nat) (rs2 : List Nat), aa_sh ac_SK q1 = some (100, n2, rs2) ∧ vp_in i2 n2 ∧
        K (some (.int (V q1 ((i2).toNatClampNeg)))) V) ∧
      (¬ (22 : Int32) < (i3 - i3 / (30 : Int32) * (30 : Int32)) →
        ∃ (n1 : Nat) (rs1 : List Nat) (q1 : Nat), aa_sh ac_SK 11 = some (103, n1, rs1) ∧ vp_in i1 n1 ∧ aa_nth rs1 (i1).toNatClampNeg = q1 + 1 ∧
        ∃ (n2 : Nat) (rs2 : List Nat), aa_sh ac_SK q1 = some (100, n2, rs2) ∧ vp_in i2 n2 ∧
        K (some (.int (V q1 ((i2).toNatClampNeg)))) V))) :
    ab_E G (ac_ST L xs) l (d + 1) ac_SK 51 [.ref 1, .int i1, .int i2, .int i3] V K := ab_wm cd_51_ok [] 37 _ _ _ _ h

set_option maxRecDepth 20000 in
/-- FrameCounty$Roads isReached(IIII)Z, from 0 -/
theorem vc_52_0 {G : ab_G} {L : Nat} {xs : Nat → Int32} {l : Launch} {d : Nat} {i1 : Int32} {i2 : Int32} {i3 : Int32} {i4 : Int32} {V : aa_V} {K : aa_K} (h :
    ab_E G (ac_ST L xs) l d ac_SK 51 [.ref 1, .int i1, .int i2, .int i4] V (aa_rI (fun x1 V1 =>
      (x1 = (99 : Int32) →
        aa_bit (0 : Int32) ∧ K (some (.int (0 : Int32))) V1) ∧
      (¬ x1 = (99 : Int32) →
        (i3 < x1 →
          aa_bit (0 : Int32) ∧ K (some (.int (0 : Int32))) V1) ∧
        (¬ i3 < x1 →
          aa_bit (1 : Int32) ∧ K (some (.int (1 : Int32))) V1))))) :
    ab_E G (ac_ST L xs) l (d + 1) ac_SK 52 [.ref 1, .int i1, .int i2, .int i3, .int i4] V K := ab_wm cd_52_ok [] 24 _ _ _ _ h

set_option maxRecDepth 20000 in
/-- FrameCounty$Roads isReachedFromOne(IIII)Z, from 0 -/
theorem vc_53_0 {G : ab_G} {L : Nat} {xs : Nat → Int32} {l : Launch} {d : Nat} {i1 : Int32} {i2 : Int32} {i3 : Int32} {i4 : Int32} {V : aa_V} {K : aa_K} (h :
    ab_J G (ac_ST L xs) l (d + 1) 53 3 [some (.ref 1), some (.int i1), some (.int i2), some (.int i3), some (.int i4), some (.int (0 : Int32))] [] ac_SK V ac_SK K) :
    ab_E G (ac_ST L xs) l (d + 1) ac_SK 53 [.ref 1, .int i1, .int i2, .int i3, .int i4] V K := ab_wm cd_53_ok [(3, [true, true, true, true, true, true])] 8 _ _ _ _ h

set_option maxRecDepth 20000 in
/-- FrameCounty$Roads isReachedFromOne(IIII)Z, from 3 -/
theorem vc_53_3 {G : ab_G} {L : Nat} {xs : Nat → Int32} {l : Launch} {d : Nat} {i1 : Int32} {i2 : Int32} {i3 : Int32} {i4 : Int32} {i5 : Int32} {V : aa_V} {K : aa_K} (h :
    (i5 < (8 : Int32) →
      (((i1 >>> (i5 &&& 31)) &&& (1 : Int32)) = (1 : Int32) →
        ab_E G (ac_ST L xs) l d ac_SK 52 [.ref 1, .int i5, .int i2, .int i3, .int i4] V (aa_rI (fun x1 V1 =>
          (x1 = 0 →
            ab_J G (ac_ST L xs) l (d + 1) 53 3 [some (.ref 1), some (.int i1), some (.int i2), some (.int i3), some (.int i4), some (.int (i5 + 1))] [] ac_SK V1 ac_SK K) ∧
          (¬ x1 = 0 →
            aa_bit (1 : Int32) ∧ K (some (.int (1 : Int32))) V1)))) ∧
      (¬ ((i1 >>> (i5 &&& 31)) &&& (1 : Int32)) = (1 : Int32) →
        ab_J G (ac_ST L xs) l (d + 1) 53 3 [some (.ref 1), some (.int i1), some (.int i2), some (.int i3), some (.int i4), some (.int (i5 + 1))] [] ac_SK V ac_SK K)) ∧
    (¬ i5 < (8 : Int32) →
      aa_bit (0 : Int32) ∧ K (some (.int (0 : Int32))) V)) :
    ab_J G (ac_ST L xs) l (d + 1) 53 3 [some (.ref 1), some (.int i1), some (.int i2), some (.int i3), some (.int i4), some (.int i5)] [] ac_SK V ac_SK K := ab_wm cd_53_ok [(3, [true, true, true, true, true, true])] 32 _ _ _ _ h

set_option maxRecDepth 20000 in
/-- FrameCounty$Roads measure([[II)V, from 0 -/
theorem vc_54_0 {G : ab_G} {L : Nat} {xs : Nat → Int32} {l : Launch} {d : Nat} {r1 : Nat} {i2 : Int32} {V : aa_V} {K : aa_K} (h :
    ab_J G (ac_ST L xs) l (d + 1) 54 2 [some (.ref 1), some (.ref r1), some (.int i2), some (.int (0 : Int32)), none, none] [] ac_SK V ac_SK K) :
    ab_E G (ac_ST L xs) l (d + 1) ac_SK 54 [.ref 1, .ref r1, .int i2] V K := ab_wm cd_54_ok [(2, [true, true, true, true, false, false]), (11, [true, true, true, true, true, false]), (78, [false, true, false, true, false, false]), (87, [false, true, false, true, true, false]), (97, [false, true, false, true, true, true])] 8 _ _ _ _ h

set_option maxRecDepth 20000 in
/-- FrameCounty$Roads measure([[II)V, from 2 -/
theorem vc_54_2 {G : ab_G} {L : Nat} {xs : Nat → Int32} {l : Launch} {d : Nat} {r1 : Nat} {i2 : Int32} {i3 : Int32} {V : aa_V} {K : aa_K} (h :
    (i3 < (8 : Int32) →
      ab_J G (ac_ST L xs) l (d + 1) 54 11 [some (.ref 1), some (.ref r1), some (.int i2), some (.int i3), some (.int (0 : Int32)), none] [] ac_SK V ac_SK K) ∧
    (¬ i3 < (8 : Int32) →
      ab_J G (ac_ST L xs) l (d + 1) 54 78 [none, some (.ref r1), none, some (.int (0 : Int32)), none, none] [] ac_SK V ac_SK K)) :
    ab_J G (ac_ST L xs) l (d + 1) 54 2 [some (.ref 1), some (.ref r1), some (.int i2), some (.int i3), none, none] [] ac_SK V ac_SK K := ab_wm cd_54_ok [(2, [true, true, true, true, false, false]), (11, [true, true, true, true, true, false]), (78, [false, true, false, true, false, false]), (87, [false, true, false, true, true, false]), (97, [false, true, false, true, true, true])] 14 _ _ _ _ h

set_option maxRecDepth 20000 in
/-- FrameCounty$Roads measure([[II)V, from 11 -/
theorem vc_54_11 {G : ab_G} {L : Nat} {xs : Nat → Int32} {l : Launch} {d : Nat} {r1 : Nat} {i2 : Int32} {i3 : Int32} {i4 : Int32} {V : aa_V} {K : aa_K} (h :
    (i4 < (8 : Int32) →
      ∃ (n1 : Nat) (rs1 : List Nat) (q1 : Nat), aa_sh ac_SK r1 = some (103, n1, rs1) ∧ vp_in i3 n1 ∧ aa_nth rs1 (i3).toNatClampNeg = q1 + 1 ∧
      (i3 = i4 →
        ∃ (n2 : Nat) (rs2 : List Nat), aa_sh ac_SK q1 = some (100, n2, rs2) ∧ vp_in i4 n2 ∧
        ab_J G (ac_ST L xs) l (d + 1) 54 11 [some (.ref 1), some (.ref r1), some (.int i2), some (.int i3), some (.int (i4 + 1)), none] [] ac_SK (aa_up V q1 ((i4).toNatClampNeg) (0 : Int32)) ac_SK K) ∧
      (¬ i3 = i4 →
        ∃ (n2 : Nat) (rs2 : List Nat) (q2 : Nat), aa_sh ac_SK 2 = some (103, n2, rs2) ∧ vp_in i3 n2 ∧ aa_nth rs2 (i3).toNatClampNeg = q2 + 1 ∧
        ∃ (n3 : Nat) (rs3 : List Nat), aa_sh ac_SK q2 = some (100, n3, rs3) ∧ vp_in i4 n3 ∧
        ((V q2 ((i4).toNatClampNeg)) = (99 : Int32) →
          ∃ (n4 : Nat) (rs4 : List Nat), aa_sh ac_SK q1 = some (100, n4, rs4) ∧ vp_in i4 n4 ∧
          ab_J G (ac_ST L xs) l (d + 1) 54 11 [some (.ref 1), some (.ref r1), some (.int i2), some (.int i3), some (.int (i4 + 1)), none] [] ac_SK (aa_up V q1 ((i4).toNatClampNeg) (99 : Int32)) ac_SK K) ∧
        (¬ (V q2 ((i4).toNatClampNeg)) = (99 : Int32) →
          ∃ (n4 : Nat) (rs4 : List Nat) (q4 : Nat), aa_sh ac_SK 2 = some (103, n4, rs4) ∧ vp_in i3 n4 ∧ aa_nth rs4 (i3).toNatClampNeg = q4 + 1 ∧
          ∃ (n5 : Nat) (rs5 : List Nat), aa_sh ac_SK q4 = some (100, n5, rs5) ∧ vp_in i4 n5 ∧
          ∃ (n6 : Nat) (rs6 : List Nat), aa_sh ac_SK q1 = some (100, n6, rs6) ∧ vp_in i4 n6 ∧
          ab_J G (ac_ST L xs) l (d + 1) 54 11 [some (.ref 1), some (.ref r1), some (.int i2), some (.int i3), some (.int (i4 + 1)), none] [] ac_SK (aa_up V q1 ((i4).toNatClampNeg) ((V q4 ((i4).toNatClampNeg)) + i2)) ac_SK K))) ∧
    (¬ i4 < (8 : Int32) →
      ab_J G (ac_ST L xs) l (d + 1) 54 2 [some (.ref 1), some (.ref r1), some (.int i2), some (.int (i3 + 1)), none, none] [] ac_SK V ac_SK K)) :
    ab_J G (ac_ST L xs) l (d + 1) 54 11 [some (.ref 1), some (.ref r1), some (.int i2), some (.int i3), some (.int i4), none] [] ac_SK V ac_SK K := ab_wm cd_54_ok [(2, [true, true, true, true, false, false]), (11, [true, true, true, true, true, false]), (78, [false, true, false, true, false, false]), (87, [false, true, false, true, true, false]), (97, [false, true, false, true, true, true])] 50 _ _ _ _ h

set_option maxRecDepth 20000 in
/-- FrameCounty$Roads measure([[II)V, from 78 -/
theorem vc_54_78 {G : ab_G} {L : Nat} {xs : Nat → Int32} {l : Launch} {d : Nat} {r1 : Nat} {i3 : Int32} {V : aa_V} {K : aa_K} (h :
    (i3 < (8 : Int32) →
      ab_J G (ac_ST L xs) l (d + 1) 54 87 [none, some (.ref r1), none, some (.int i3), some (.int (0 : Int32)), none] [] ac_SK V ac_SK K) ∧
    (¬ i3 < (8 : Int32) →
      K none V)) :
    ab_J G (ac_ST L xs) l (d + 1) 54 78 [none, some (.ref r1), none, some (.int i3), none, none] [] ac_SK V ac_SK K := ab_wm cd_54_ok [(2, [true, true, true, true, false, false]), (11, [true, true, true, true, true, false]), (78, [false, true, false, true, false, false]), (87, [false, true, false, true, true, false]), (97, [false, true, false, true, true, true])] 12 _ _ _ _ h

set_option maxRecDepth 20000 in
/-- FrameCounty$Roads measure([[II)V, from 87 -/
theorem vc_54_87 {G : ab_G} {L : Nat} {xs : Nat → Int32} {l : Launch} {d : Nat} {r1 : Nat} {i3 : Int32} {i4 : Int32} {V : aa_V} {K : aa_K} (h :
    (i4 < (8 : Int32) →
      ab_J G (ac_ST L xs) l (d + 1) 54 97 [none, some (.ref r1), none, some (.int i3), some (.int i4), some (.int (0 : Int32))] [] ac_SK V ac_SK K) ∧
    (¬ i4 < (8 : Int32) →
      ab_J G (ac_ST L xs) l (d + 1) 54 78 [none, some (.ref r1), none, some (.int (i3 + 1)), none, none] [] ac_SK V ac_SK K)) :
    ab_J G (ac_ST L xs) l (d + 1) 54 87 [none, some (.ref r1), none, some (.int i3), some (.int i4), none] [] ac_SK V ac_SK K := ab_wm cd_54_ok [(2, [true, true, true, true, false, false]), (11, [true, true, true, true, true, false]), (78, [false, true, false, true, false, false]), (87, [false, true, false, true, true, false]), (97, [false, true, false, true, true, true])] 14 _ _ _ _ h

set_option maxRecDepth 20000 in
/-- FrameCounty$Roads measure([[II)V, from 97 -/
theorem vc_54_97 {G : ab_G} {L : Nat} {xs : Nat → Int32} {l : Launch} {d : Nat} {r1 : Nat} {i3 : Int32} {i4 : Int32} {i5 : Int32} {V : aa_V} {K : aa_K} (h :
    (i5 < (8 : Int32) →
      ∃ (n1 : Nat) (rs1 : List Nat) (q1 : Nat), aa_sh ac_SK r1 = some (103, n1, rs1) ∧ vp_in i4 n1 ∧ aa_nth rs1 (i4).toNatClampNeg = q1 + 1 ∧
      ∃ (n2 : Nat) (rs2 : List Nat) (q2 : Nat), aa_sh ac_SK r1 = some (103, n2, rs2) ∧ vp_in i4 n2 ∧ aa_nth rs2 (i4).toNatClampNeg = q2 + 1 ∧
      ∃ (n3 : Nat) (rs3 : List Nat), aa_sh ac_SK q2 = some (100, n3, rs3) ∧ vp_in i5 n3 ∧
      ∃ (n4 : Nat) (rs4 : List Nat) (q4 : Nat), aa_sh ac_SK r1 = some (103, n4, rs4) ∧ vp_in i4 n4 ∧ aa_nth rs4 (i4).toNatClampNeg = q4 + 1 ∧
      ∃ (n5 : Nat) (rs5 : List Nat), aa_sh ac_SK q4 = some (100, n5, rs5) ∧ vp_in i3 n5 ∧
      ∃ (n6 : Nat) (rs6 : List Nat) (q6 : Nat), aa_sh ac_SK r1 = some (103, n6, rs6) ∧ vp_in i3 n6 ∧ aa_nth rs6 (i3).toNatClampNeg = q6 + 1 ∧
      ∃ (n7 : Nat) (rs7 : List Nat), aa_sh ac_SK q6 = some (100, n7, rs7) ∧ vp_in i5 n7 ∧
      ∃ (n8 : Nat) (rs8 : List Nat), aa_sh ac_SK q1 = some (100, n8, rs8) ∧ vp_in i5 n8 ∧
      ab_J G (ac_ST L xs) l (d + 1) 54 97 [none, some (.ref r1), none, some (.int i3), some (.int i4), some (.int (i5 + 1))] [] ac_SK (aa_up V q1 ((i5).toNatClampNeg) (if ((V q4 ((i3).toNatClampNeg)) + (V q6 ((i5).toNatClampNeg))) < (V q2 ((i5).toNatClampNeg)) then ((V q4 ((i3).toNatClampNeg)) + (V q6 ((i5).toNatClampNeg))) else (V q2 ((i5).toNatClampNeg)))) ac_SK K) ∧
    (¬ i5 < (8 : Int32) →
      ab_J G (ac_ST L xs) l (d + 1) 54 87 [none, some (.ref r1), none, some (.int i3), some (.int (i4 + 1)), none] [] ac_SK V ac_SK K)) :
    ab_J G (ac_ST L xs) l (d + 1) 54 97 [none, some (.ref r1), none, some (.int i3), some (.int i4), some (.int i5)] [] ac_SK V ac_SK K := ab_wm cd_54_ok [(2, [true, true, true, true, false, false]), (11, [true, true, true, true, true, false]), (78, [false, true, false, true, false, false]), (87, [false, true, false, true, true, false]), (97, [false, true, false, true, true, true])] 36 _ _ _ _ h

set_option maxRecDepth 20000 in
/-- FrameCounty$Sheets isSheet(I)Z, from 0 -/
theorem vc_56_0 {G : ab_G} {L : Nat} {xs : Nat → Int32} {l : Launch} {d : Nat} {i0 : Int32} {V : aa_V} {K : aa_K} (h :
    ab_E G (ac_ST L xs) l d ac_SK 182 [.int i0, .int (0 : Int32), .int (3 : Int32)] V (aa_rI (fun x1 V1 =>
      aa_bit x1 ∧ K (some (.int x1)) V1))) :
    ab_E G (ac_ST L xs) l (d + 1) ac_SK 56 [.int i0] V K := ab_wm cd_56_ok [] 10 _ _ _ _ h

set_option maxRecDepth 20000 in
/-- FrameCounty$Sheets isSort(I)Z, from 0 -/
theorem vc_57_0 {G : ab_G} {L : Nat} {xs : Nat → Int32} {l : Launch} {d : Nat} {i0 : Int32} {V : aa_V} {K : aa_K} (h :
    ab_E G (ac_ST L xs) l d ac_SK 182 [.int i0, .int (0 : Int32), .int (2 : Int32)] V (aa_rI (fun x1 V1 =>
      aa_bit x1 ∧ K (some (.int x1)) V1))) :
    ab_E G (ac_ST L xs) l (d + 1) ac_SK 57 [.int i0] V K := ab_wm cd_57_ok [] 10 _ _ _ _ h

set_option maxRecDepth 20000 in
/-- FrameCounty$Sheets isMissing(I)Z, from 0 -/
theorem vc_58_0 {G : ab_G} {L : Nat} {xs : Nat → Int32} {l : Launch} {d : Nat} {i1 : Int32} {V : aa_V} {K : aa_K} (h :
    vp_in i1 4 ∧
    ((V 73 ((i1).toNatClampNeg)) = (-1 : Int32) →
      aa_bit (1 : Int32) ∧ K (some (.int (1 : Int32))) V) ∧
    (¬ (V 73 ((i1).toNatClampNeg)) = (-1 : Int32) →
      aa_bit (0 : Int32) ∧ K (some (.int (0 : Int32))) V)) :
    ab_E G (ac_ST L xs) l (d + 1) ac_SK 58 [.ref 72, .int i1] V K := ab_wm cd_58_ok [] 16 _ _ _ _ h

set_option maxRecDepth 20000 in
/-- FrameCounty$Sheets sortOf(I)I, from 0 -/
theorem vc_59_0 {G : ab_G} {L : Nat} {xs : Nat → Int32} {l : Launch} {d : Nat} {i1 : Int32} {V : aa_V} {K : aa_K} (h :
    vp_in i1 4 ∧
    K (some (.int (V 73 ((i1).toNatClampNeg)))) V) :
    ab_E G (ac_ST L xs) l (d + 1) ac_SK 59 [.ref 72, .int i1] V K := ab_wm cd_59_ok [] 10 _ _ _ _ h

set_option maxRecDepth 20000 in
/-- FrameCounty$Sheets isPlace(II)Z, from 0 -/
theorem vc_60_0 {G : ab_G} {L : Nat} {xs : Nat → Int32} {l : Launch} {d : Nat} {i1 : Int32} {i2 : Int32} {V : aa_V} {K : aa_K} (h :
    vp_in i1 4 ∧
    ab_E G (ac_ST L xs) l d ac_SK 182 [.int i2, .int (0 : Int32), .int ((V 74 ((i1).toNatClampNeg)) - (1 : Int32))] V (aa_rI (fun x1 V1 =>
      aa_bit x1 ∧ K (some (.int x1)) V1))) :
    ab_E G (ac_ST L xs) l (d + 1) ac_SK 60 [.ref 72, .int i1, .int i2] V K := ab_wm cd_60_ok [] 15 _ _ _ _ h

set_option maxRecDepth 20000 in
/-- FrameCounty$Sheets isStretch(III)Z, from 0 -/
theorem vc_61_0 {G : ab_G} {L : Nat} {xs : Nat → Int32} {l : Launch} {d : Nat} {i1 : Int32} {i2 : Int32} {i3 : Int32} {V : aa_V} {K : aa_K} (h :
    (i3 < 0 →
      aa_bit (0 : Int32) ∧ K (some (.int (0 : Int32))) V) ∧
    (¬ i3 < 0 →
      vp_in i1 4 ∧
      ab_E G (ac_ST L xs) l d ac_SK 182 [.int i2, .int (0 : Int32), .int ((V 74 ((i1).toNatClampNeg)) - i3)] V (aa_rI (fun x1 V1 =>
        (x1 = 0 →
          aa_bit (0 : Int32) ∧ K (some (.int (0 : Int32))) V1) ∧
        (¬ x1 = 0 →
          aa_bit (1 : Int32) ∧ K (some (.int (1 : Int32))) V1))))) :
    ab_E G (ac_ST L xs) l (d + 1) ac_SK 61 [.ref 72, .int i1, .int i2, .int i3] V K := ab_wm cd_61_ok [] 24 _ _ _ _ h

set_option maxRecDepth 20000 in
/-- FrameCounty$Sheets drop(I)V, from 0 -/
theorem vc_62_0 {G : ab_G} {L : Nat} {xs : Nat → Int32} {l : Launch} {d : Nat} {i1 : Int32} {V : aa_V} {K : aa_K} (h :
    vp_in i1 4 ∧
    vp_in i1 4 ∧
    K none (aa_up (aa_up V 73 ((i1).toNatClampNeg) (-1 : Int32)) 74 ((i1).toNatClampNeg) (0 : Int32))) :
    ab_E G (ac_ST L xs) l (d + 1) ac_SK 62 [.ref 72, .int i1] V K := ab_wm cd_62_ok [] 16 _ _ _ _ h

set_option maxRecDepth 20000 in
/-- FrameCounty$Sheets lay(III)V, from 0 -/
theorem vc_63_0 {G : ab_G} {L : Nat} {xs : Nat → Int32} {l : Launch} {d : Nat} {i1 : Int32} {i2 : Int32} {i3 : Int32} {V : aa_V} {K : aa_K} (h :
    vp_in i1 4 ∧
    vp_in i1 4 ∧
    ∃ (n1 : Nat) (rs1 : List Nat) (q1 : Nat), aa_sh ac_SK 75 = some (103, n1, rs1) ∧ vp_in i1 n1 ∧ aa_nth rs1 (i1).toNatClampNeg = q1 + 1 ∧
    ab_E G (ac_ST L xs) l d ac_SK 299 [.ref q1, .int (0 : Int32)] (aa_up (aa_up V 73 ((i1).toNatClampNeg) i2) 74 ((i1).toNatClampNeg) i3) (aa_rV (fun V2 =>
      K none V2))) :
    ab_E G (ac_ST L xs) l (d + 1) ac_SK 63 [.ref 72, .int i1, .int i2, .int i3] V K := ab_wm cd_63_ok [] 22 _ _ _ _ h

set_option maxRecDepth 20000 in
/-- FrameCounty$Sheets put(III)V, from 0 -/
theorem vc_64_0 {G : ab_G} {L : Nat} {xs : Nat → Int32} {l : Launch} {d : Nat} {i1 : Int32} {i2 : Int32} {i3 : Int32} {V : aa_V} {K : aa_K} (h :
    ∃ (n1 : Nat) (rs1 : List Nat) (q1 : Nat), aa_sh ac_SK 75 = some (103, n1, rs1) ∧ vp_in i1 n1 ∧ aa_nth rs1 (i1).toNatClampNeg = q1 + 1 ∧
    vp_in i1 4 ∧
    ((V 73 ((i1).toNatClampNeg)) = 0 →
      ∃ (n2 : Nat) (rs2 : List Nat), aa_sh ac_SK q1 = some (100, n2, rs2) ∧ vp_in i2 n2 ∧
      K none (aa_up V q1 ((i2).toNatClampNeg) (i3.toInt8.toInt32))) ∧
    (¬ (V 73 ((i1).toNatClampNeg)) = 0 →
      vp_in i1 4 ∧
      ((V 73 ((i1).toNatClampNeg)) = (1 : Int32) →
        ∃ (n2 : Nat) (rs2 : List Nat), aa_sh ac_SK q1 = some (100, n2, rs2) ∧ vp_in i2 n2 ∧
        K none (aa_up V q1 ((i2).toNatClampNeg) (i3.toInt16.toInt32))) ∧
      (¬ (V 73 ((i1).toNatClampNeg)) = (1 : Int32) →
        ∃ (n2 : Nat) (rs2 : List Nat), aa_sh ac_SK q1 = some (100, n2, rs2) ∧ vp_in i2 n2 ∧
        K none (aa_up V q1 ((i2).toNatClampNeg) i3)))) :
    ab_E G (ac_ST L xs) l (d + 1) ac_SK 64 [.ref 72, .int i1, .int i2, .int i3] V K := ab_wm cd_64_ok [] 34 _ _ _ _ h

set_option maxRecDepth 20000 in
/-- FrameCounty$Sheets itemAt(II)I, from 0 -/
theorem vc_65_0 {G : ab_G} {L : Nat} {xs : Nat → Int32} {l : Launch} {d : Nat} {i1 : Int32} {i2 : Int32} {V : aa_V} {K : aa_K} (h :
    ∃ (n1 : Nat) (rs1 : List Nat) (q1 : Nat), aa_sh ac_SK 75 = some (103, n1, rs1) ∧ vp_in i1 n1 ∧ aa_nth rs1 (i1).toNatClampNeg = q1 + 1 ∧
    ∃ (n2 : Nat) (rs2 : List Nat), aa_sh ac_SK q1 = some (100, n2, rs2) ∧ vp_in i2 n2 ∧
    K (some (.int (V q1 ((i2).toNatClampNeg)))) V) :
    ab_E G (ac_ST L xs) l (d + 1) ac_SK 65 [.ref 72, .int i1, .int i2] V K := ab_wm cd_65_ok [] 12 _ _ _ _ h

set_option maxRecDepth 20000 in
/-- FrameCounty$Sheets move(IIIII)V, from 0 -/
theorem vc_66_0 {G : ab_G} {L : Nat} {xs : Nat → Int32} {l : Launch} {d : Nat} {i1 : Int32} {i2 : Int32} {i3 : Int32} {i4 : Int32} {i5 : Int32} {V : aa_V} {K : aa_K} (h :
    ∃ (n1 : Nat) (rs1 : List Nat) (q1 : Nat), aa_sh ac_SK 75 = some (103, n1, rs1) ∧ vp_in i1 n1 ∧ aa_nth rs1 (i1).toNatClampNeg = q1 + 1 ∧
    ∃ (n2 : Nat) (rs2 : List Nat) (q2 : Nat), aa_sh ac_SK 75 = some (103, n2, rs2) ∧ vp_in i3 n2 ∧ aa_nth rs2 (i3).toNatClampNeg = q2 + 1 ∧
    ∃ (n3 m3 : Nat) (rs3 ss3 : List Nat), aa_sh ac_SK q1 = some (100, n3, rs3) ∧ aa_sh ac_SK q2 = some (100, m3, ss3) ∧ ¬ i2 < 0 ∧ ¬ i4 < 0 ∧ ¬ i5 < 0 ∧ (i2).toNatClampNeg + (i5).toNatClampNeg ≤ n3 ∧ (i4).toNatClampNeg + (i5).toNatClampNeg ≤ m3 ∧ aa_cat [] ≤ 8 ∧ 151 ≤ ac_SK.length ∧
    K none (aa_row V q2 (va_cpy (V q1) (V q2) (i2).toNatClampNeg (i4).toNatClampNeg (i5).toNatClampNeg))) :
    ab_E G (ac_ST L xs) l (d + 1) ac_SK 66 [.ref 72, .int i1, .int i2, .int i3, .int i4, .int i5] V K := ab_wm cd_66_ok [] 18 _ _ _ _ h

set_option maxRecDepth 20000 in
/-- FrameCounty$Text clear()V, from 0 -/
theorem vc_68_0 {G : ab_G} {L : Nat} {xs : Nat → Int32} {l : Launch} {d : Nat} {r0 : Nat} {V : aa_V} {K : aa_K} (h :
    aa_is ac_SK r0 6 ∧
    aa_is ac_SK r0 6 ∧
    K none (aa_up (aa_up V r0 2 (0 : Int32)) r0 3 (0 : Int32))) :
    ab_E G (ac_ST L xs) l (d + 1) ac_SK 68 [.ref r0] V K := ab_wm cd_68_ok [] 12 _ _ _ _ h

set_option maxRecDepth 20000 in
/-- FrameCounty$Text endPrice()V, from 0 -/
theorem vc_69_0 {G : ab_G} {L : Nat} {xs : Nat → Int32} {l : Launch} {d : Nat} {r0 : Nat} {V : aa_V} {K : aa_K} (h :
    aa_is ac_SK r0 6 ∧
    aa_is ac_SK r0 6 ∧
    K none (aa_up V r0 2 (V r0 3))) :
    ab_E G (ac_ST L xs) l (d + 1) ac_SK 69 [.ref r0] V K := ab_wm cd_69_ok [] 10 _ _ _ _ h

set_option maxRecDepth 20000 in
/-- FrameCounty$Text add(I)V, from 0 -/
theorem vc_70_0 {G : ab_G} {L : Nat} {xs : Nat → Int32} {l : Launch} {d : Nat} {r0 : Nat} {i1 : Int32} {V : aa_V} {K : aa_K} (h :
    aa_is ac_SK r0 6 ∧
    ∃ (n1 : Nat) (rs1 : List Nat) (q1 : Nat), aa_sh ac_SK r0 = some (6, n1, rs1) ∧ aa_nth rs1 0 = q1 + 1 ∧
    ∃ (c2 n2 : Nat) (rs2 : List Nat), aa_sh ac_SK q1 = some (c2, n2, rs2) ∧ 100 ≤ c2 ∧
    ((V r0 3) < (nI n2) →
      ∃ (n3 : Nat) (rs3 : List Nat) (q3 : Nat), aa_sh ac_SK r0 = some (6, n3, rs3) ∧ aa_nth rs3 0 = q3 + 1 ∧
      aa_is ac_SK r0 6 ∧
      ∃ (n4 : Nat) (rs4 : List Nat), aa_sh ac_SK q3 = some (100, n4, rs4) ∧ vp_in (V r0 3) n4 ∧
      aa_is ac_SK r0 6 ∧
      aa_is ac_SK r0 6 ∧
      K none (aa_up (aa_up V q3 (((V r0 3)).toNatClampNeg) i1) r0 3 (((aa_up V q3 (((V r0 3)).toNatClampNeg) i1) r0 3) + (1 : Int32)))) ∧
    (¬ (V r0 3) < (nI n2) →
      K none V)) :
    ab_E G (ac_ST L xs) l (d + 1) ac_SK 70 [.ref r0, .int i1] V K := ab_wm cd_70_ok [] 25 _ _ _ _ h

set_option maxRecDepth 20000 in
/-- FrameCounty$Text addName(I)V, from 0 -/
theorem vc_71_0 {G : ab_G} {L : Nat} {xs : Nat → Int32} {l : Launch} {d : Nat} {r0 : Nat} {i1 : Int32} {V : aa_V} {K : aa_K} (h :
    aa_is ac_SK r0 6 ∧
    ab_E G (ac_ST L xs) l d ac_SK 70 [.ref r0, .int ((10000 : Int32) + i1)] V (aa_rV (fun V1 =>
      K none V1))) :
    ab_E G (ac_ST L xs) l (d + 1) ac_SK 71 [.ref r0, .int i1] V K := ab_wm cd_71_ok [] 11 _ _ _ _ h

set_option maxRecDepth 20000 in
/-- FrameCounty$Text priceBy([I)I, from 0 -/
theorem vc_72_0 {G : ab_G} {L : Nat} {xs : Nat → Int32} {l : Launch} {d : Nat} {r0 : Nat} {V : aa_V} {K : aa_K} (h :
    aa_is ac_SK r0 6 ∧
    aa_is ac_SK r0 6 ∧
    ab_E G (ac_ST L xs) l d ac_SK 74 [.ref r0, .int (0 : Int32), .int (V r0 2), .ref 86] V (aa_rI (fun x1 V1 =>
      K (some (.int x1)) V1))) :
    ab_E G (ac_ST L xs) l (d + 1) ac_SK 72 [.ref r0, .ref 86] V K := ab_wm cd_72_ok [] 12 _ _ _ _ h

set_option maxRecDepth 20000 in
/-- FrameCounty$Text holdBy([I)I, from 0 -/
theorem vc_73_0 {G : ab_G} {L : Nat} {xs : Nat → Int32} {l : Launch} {d : Nat} {r0 : Nat} {V : aa_V} {K : aa_K} (h :
    aa_is ac_SK r0 6 ∧
    aa_is ac_SK r0 6 ∧
    aa_is ac_SK r0 6 ∧
    ab_E G (ac_ST L xs) l d ac_SK 74 [.ref r0, .int (V r0 2), .int (V r0 3), .ref 86] V (aa_rI (fun x1 V1 =>
      K (some (.int x1)) V1))) :
    ab_E G (ac_ST L xs) l (d + 1) ac_SK 73 [.ref r0, .ref 86] V K := ab_wm cd_73_ok [] 13 _ _ _ _ h

set_option maxRecDepth 20000 in
/-- FrameCounty$Text work(II[I)I, from 0 -/
theorem vc_74_0 {G : ab_G} {L : Nat} {xs : Nat → Int32} {l : Launch} {d : Nat} {r0 : Nat} {i1 : Int32} {i2 : Int32} {V : aa_V} {K : aa_K} (h :
    ab_J G (ac_ST L xs) l (d + 1) 74 6 [some (.ref r0), none, some (.int i2), some (.ref 86), some (.int (0 : Int32)), some (.int i1), none, none] [] ac_SK V ac_SK K) :
    ab_E G (ac_ST L xs) l (d + 1) ac_SK 74 [.ref r0, .int i1, .int i2, .ref 86] V K := ab_wm cd_74_ok [(6, [true, false, true, true, true, true, false, false])] 10 _ _ _ _ h

set_option maxRecDepth 20000 in
/-- FrameCounty$Text work(II[I)I, from 6 -/
theorem vc_74_6 {G : ab_G} {L : Nat} {xs : Nat → Int32} {l : Launch} {d : Nat} {r0 : Nat} {i2 : Int32} {i4 : Int32} {i5 : Int32} {V : aa_V} {K : aa_K} (h :
    (i5 < i2 →
      ∃ (n1 : Nat) (rs1 : List Nat) (q1 : Nat), aa_sh ac_SK r0 = some (6, n1, rs1) ∧ aa_nth rs1 0 = q1 + 1 ∧
      ∃ (n2 : Nat) (rs2 : List Nat), aa_sh ac_SK q1 = some (100, n2, rs2) ∧ vp_in i5 n2 ∧
      ((V q1 ((i5).toNatClampNeg)) < (20000 : Int32) →
        (i4 < (0 : Int32) →
          K (some (.int (0 : Int32))) V) ∧
        (¬ i4 < (0 : Int32) →
          ∃ (n3 : Nat) (rs3 : List Nat) (q3 : Nat), aa_sh ac_SK r0 = some (6, n3, rs3) ∧ aa_nth rs3 1 = q3 + 1 ∧
          ∃ (c4 n4 : Nat) (rs4 : List Nat), aa_sh ac_SK q3 = some (c4, n4, rs4) ∧ 100 ≤ c4 ∧
          ((i4 - (0 : Int32)) < (nI n4) →
            ((0 : Int32) = 0 →
              ∃ (n5 : Nat) (rs5 : List Nat) (q5 : Nat), aa_sh ac_SK r0 = some (6, n5, rs5) ∧ aa_nth rs5 1 = q5 + 1 ∧
              ab_E G (ac_ST L xs) l d ac_SK 75 [.int (V q1 ((i5).toNatClampNeg)), .ref 86] V (aa_rI (fun x6 V6 =>
                ∃ (n7 : Nat) (rs7 : List Nat), aa_sh ac_SK q5 = some (100, n7, rs7) ∧ vp_in (i4 - (0 : Int32)) n7 ∧
                ab_J G (ac_ST L xs) l (d + 1) 74 6 [some (.ref r0), none, some (.int i2), some (.ref 86), some (.int ((i4 - (0 : Int32)) + 1)), some (.int (i5 + 1)), none, none] [] ac_SK (aa_up V6 q5 (((i4 - (0 : Int32))).toNatClampNeg) x6) ac_SK K))) ∧
            (¬ (0 : Int32) = 0 →
              ((0 : Int32) = (1 : Int32) →
                ∃ (n5 : Nat) (rs5 : List Nat) (q5 : Nat), aa_sh ac_SK r0 = some (6, n5, rs5) ∧ aa_nth rs5 1 = q5 + 1 ∧
                ∃ (n6 : Nat) (rs6 : List Nat) (q6 : Nat), aa_sh ac_SK r0 = some (6, n6, rs6) ∧ aa_nth rs6 1 = q6 + 1 ∧
                ∃ (n7 : Nat) (rs7 : List Nat), aa_sh ac_SK q6 = some (100, n7, rs7) ∧ vp_in (i4 - (0 : Int32)) n7 ∧
                ab_E G (ac_ST L xs) l d ac_SK 76 [.int (V q1 ((i5).toNatClampNeg)), .int (V q6 (((i4 - (0 : Int32))).toNatClampNeg))] V (aa_rI (fun x8 V8 =>
                  ∃ (n9 : Nat) (rs9 : List Nat), aa_sh ac_SK q5 = some (100, n9, rs9) ∧ vp_in (i4 - (0 : Int32)) n9 ∧
                  ab_J G (ac_ST L xs) l (d + 1) 74 6 [some (.ref r0), none, some (.int i2), some (.ref 86), some (.int ((i4 - (0 : Int32)) + 1)), some (.int (i5 + 1)), none, none] [] ac_SK (aa_up V8 q5 (((i4 - (0 : Int32))).toNatClampNeg) x8) ac_SK K))) ∧
              (¬ (0 : Int32) = (1 : Int32) →
                ∃ (n5 : Nat) (rs5 : List Nat) (q5 : Nat), aa_sh ac_SK r0 = some (6, n5, rs5) ∧ aa_nth rs5 1 = q5 + 1 ∧
                ∃ (n6 : Nat) (rs6 : List Nat) (q6 : Nat), aa_sh ac_SK r0 = some (6, n6, rs6) ∧ aa_nth rs6 1 = q6 + 1 ∧
                ∃ (n7 : Nat) (rs7 : List Nat), aa_sh ac_SK q6 = some (100, n7, rs7) ∧ vp_in (i4 - (0 : Int32)) n7 ∧
                ∃ (n8 : Nat) (rs8 : List Nat) (q8 : Nat), aa_sh ac_SK r0 = some (6, n8, rs8) ∧ aa_nth rs8 1 = q8 + 1 ∧
                ∃ (n9 : Nat) (rs9 : List Nat), aa_sh ac_SK q8 = some (100, n9, rs9) ∧ vp_in ((i4 - (0 : Int32)) + (1 : Int32)) n9 ∧
                ab_E G (ac_ST L xs) l d ac_SK 77 [.int (V q1 ((i5).toNatClampNeg)), .int (V q6 (((i4 - (0 : Int32))).toNatClampNeg)), .int (V q8 ((((i4 - (0 : Int32)) + (1 : Int32))).toNatClampNeg))] V (aa_rI (fun x10 V10 =>
                  ∃ (n11 : Nat) (rs11 : List Nat), aa_sh ac_SK q5 = some (100, n11, rs11) ∧ vp_in (i4 - (0 : Int32)) n11 ∧
                  ab_J G (ac_ST L xs) l (d + 1) 74 6 [some (.ref r0), none, some (.int i2), some (.ref 86), some (.int ((i4 - (0 : Int32)) + 1)), some (.int (i5 + 1)), none, none] [] ac_SK (aa_up V10 q5 (((i4 - (0 : Int32))).toNatClampNeg) x10) ac_SK K))))) ∧
          (¬ (i4 - (0 : Int32)) < (nI n4) →
            K (some (.int (0 : Int32))) V))) ∧
      (¬ (V q1 ((i5).toNatClampNeg)) < (20000 : Int32) →
        ((20001 : Int32) < (V q1 ((i5).toNatClampNeg)) →
          (i4 < (2 : Int32) →
            K (some (.int (0 : Int32))) V) ∧
          (¬ i4 < (2 : Int32) →
            ∃ (n3 : Nat) (rs3 : List Nat) (q3 : Nat), aa_sh ac_SK r0 = some (6, n3, rs3) ∧ aa_nth rs3 1 = q3 + 1 ∧
            ∃ (c4 n4 : Nat) (rs4 : List Nat), aa_sh ac_SK q3 = some (c4, n4, rs4) ∧ 100 ≤ c4 ∧
            ((i4 - (2 : Int32)) < (nI n4) →
              ((2 : Int32) = 0 →
                ∃ (n5 : Nat) (rs5 : List Nat) (q5 : Nat), aa_sh ac_SK r0 = some (6, n5, rs5) ∧ aa_nth rs5 1 = q5 + 1 ∧
                ab_E G (ac_ST L xs) l d ac_SK 75 [.int (V q1 ((i5).toNatClampNeg)), .ref 86] V (aa_rI (fun x6 V6 =>
                  ∃ (n7 : Nat) (rs7 : List Nat), aa_sh ac_SK q5 = some (100, n7, rs7) ∧ vp_in (i4 - (2 : Int32)) n7 ∧
                  ab_J G (ac_ST L xs) l (d + 1) 74 6 [some (.ref r0), none, some (.int i2), some (.ref 86), some (.int ((i4 - (2 : Int32)) + 1)), some (.int (i5 + 1)), none, none] [] ac_SK (aa_up V6 q5 (((i4 - (2 : Int32))).toNatClampNeg) x6) ac_SK K))) ∧
              (¬ (2 : Int32) = 0 →
                ((2 : Int32) = (1 : Int32) →
                  ∃ (n5 : Nat) (rs5 : List Nat) (q5 : Nat), aa_sh ac_SK r0 = some (6, n5, rs5) ∧ aa_nth rs5 1 = q5 + 1 ∧
                  ∃ (n6 : Nat) (rs6 : List Nat) (q6 : Nat), aa_sh ac_SK r0 = some (6, n6, rs6) ∧ aa_nth rs6 1 = q6 + 1 ∧
                  ∃ (n7 : Nat) (rs7 : List Nat), aa_sh ac_SK q6 = some (100, n7, rs7) ∧ vp_in (i4 - (2 : Int32)) n7 ∧
                  ab_E G (ac_ST L xs) l d ac_SK 76 [.int (V q1 ((i5).toNatClampNeg)), .int (V q6 (((i4 - (2 : Int32))).toNatClampNeg))] V (aa_rI (fun x8 V8 =>
                    ∃ (n9 : Nat) (rs9 : List Nat), aa_sh ac_SK q5 = some (100, n9, rs9) ∧ vp_in (i4 - (2 : Int32)) n9 ∧
                    ab_J G (ac_ST L xs) l (d + 1) 74 6 [some (.ref r0), none, some (.int i2), some (.ref 86), some (.int ((i4 - (2 : Int32)) + 1)), some (.int (i5 + 1)), none, none] [] ac_SK (aa_up V8 q5 (((i4 - (2 : Int32))).toNatClampNeg) x8) ac_SK K))) ∧
                (¬ (2 : Int32) = (1 : Int32) →
                  ∃ (n5 : Nat) (rs5 : List Nat) (q5 : Nat), aa_sh ac_SK r0 = some (6, n5, rs5) ∧ aa_nth rs5 1 = q5 + 1 ∧
                  ∃ (n6 : Nat) (rs6 : List Nat) (q6 : Nat), aa_sh ac_SK r0 = some (6, n6, rs6) ∧ aa_nth rs6 1 = q6 + 1 ∧
                  ∃ (n7 : Nat) (rs7 : List Nat), aa_sh ac_SK q6 = some (100, n7, rs7) ∧ vp_in (i4 - (2 : Int32)) n7 ∧
                  ∃ (n8 : Nat) (rs8 : List Nat) (q8 : Nat), aa_sh ac_SK r0 = some (6, n8, rs8) ∧ aa_nth rs8 1 = q8 + 1 ∧
                  ∃ (n9 : Nat) (rs9 : List Nat), aa_sh ac_SK q8 = some (100, n9, rs9) ∧ vp_in ((i4 - (2 : Int32)) + (1 : Int32)) n9 ∧
                  ab_E G (ac_ST L xs) l d ac_SK 77 [.int (V q1 ((i5).toNatClampNeg)), .int (V q6 (((i4 - (2 : Int32))).toNatClampNeg)), .int (V q8 ((((i4 - (2 : Int32)) + (1 : Int32))).toNatClampNeg))] V (aa_rI (fun x10 V10 =>
                    ∃ (n11 : Nat) (rs11 : List Nat), aa_sh ac_SK q5 = some (100, n11, rs11) ∧ vp_in (i4 - (2 : Int32)) n11 ∧
                    ab_J G (ac_ST L xs) l (d + 1) 74 6 [some (.ref r0), none, some (.int i2), some (.ref 86), some (.int ((i4 - (2 : Int32)) + 1)), some (.int (i5 + 1)), none, none] [] ac_SK (aa_up V10 q5 (((i4 - (2 : Int32))).toNatClampNeg) x10) ac_SK K))))) ∧
            (¬ (i4 - (2 : Int32)) < (nI n4) →
              K (some (.int (0 : Int32))) V))) ∧
        (¬ (20001 : Int32) < (V q1 ((i5).toNatClampNeg)) →
          (i4 < (1 : Int32) →
            K (some (.int (0 : Int32))) V) ∧
          (¬ i4 < (1 : Int32) →
            ∃ (n3 : Nat) (rs3 : List Nat) (q3 : Nat), aa_sh ac_SK r0 = some (6, n3, rs3) ∧ aa_nth rs3 1 = q3 + 1 ∧
            ∃ (c4 n4 : Nat) (rs4 : List Nat), aa_sh ac_SK q3 = some (c4, n4, rs4) ∧ 100 ≤ c4 ∧
            ((i4 - (1 : Int32)) < (nI n4) →
              ((1 : Int32) = 0 →
                ∃ (n5 : Nat) (rs5 : List Nat) (q5 : Nat), aa_sh ac_SK r0 = some (6, n5, rs5) ∧ aa_nth rs5 1 = q5 + 1 ∧
                ab_E G (ac_ST L xs) l d ac_SK 75 [.int (V q1 ((i5).toNatClampNeg)), .ref 86] V (aa_rI (fun x6 V6 =>
                  ∃ (n7 : Nat) (rs7 : List Nat), aa_sh ac_SK q5 = some (100, n7, rs7) ∧ vp_in (i4 - (1 : Int32)) n7 ∧
                  ab_J G (ac_ST L xs) l (d + 1) 74 6 [some (.ref r0), none, some (.int i2), some (.ref 86), some (.int ((i4 - (1 : Int32)) + 1)), some (.int (i5 + 1)), none, none] [] ac_SK (aa_up V6 q5 (((i4 - (1 : Int32))).toNatClampNeg) x6) ac_SK K))) ∧
              (¬ (1 : Int32) = 0 →
                ((1 : Int32) = (1 : Int32) →
                  ∃ (n5 : Nat) (rs5 : List Nat) (q5 : Nat), aa_sh ac_SK r0 = some (6, n5, rs5) ∧ aa_nth rs5 1 = q5 + 1 ∧
                  ∃ (n6 : Nat) (rs6 : List Nat) (q6 : Nat), aa_sh ac_SK r0 = some (6, n6, rs6) ∧ aa_nth rs6 1 = q6 + 1 ∧
                  ∃ (n7 : Nat) (rs7 : List Nat), aa_sh ac_SK q6 = some (100, n7, rs7) ∧ vp_in (i4 - (1 : Int32)) n7 ∧
                  ab_E G (ac_ST L xs) l d ac_SK 76 [.int (V q1 ((i5).toNatClampNeg)), .int (V q6 (((i4 - (1 : Int32))).toNatClampNeg))] V (aa_rI (fun x8 V8 =>
                    ∃ (n9 : Nat) (rs9 : List Nat), aa_sh ac_SK q5 = some (100, n9, rs9) ∧ vp_in (i4 - (1 : Int32)) n9 ∧
                    ab_J G (ac_ST L xs) l (d + 1) 74 6 [some (.ref r0), none, some (.int i2), some (.ref 86), some (.int ((i4 - (1 : Int32)) + 1)), some (.int (i5 + 1)), none, none] [] ac_SK (aa_up V8 q5 (((i4 - (1 : Int32))).toNatClampNeg) x8) ac_SK K))) ∧
                (¬ (1 : Int32) = (1 : Int32) →
                  ∃ (n5 : Nat) (rs5 : List Nat) (q5 : Nat), aa_sh ac_SK r0 = some (6, n5, rs5) ∧ aa_nth rs5 1 = q5 + 1 ∧
                  ∃ (n6 : Nat) (rs6 : List Nat) (q6 : Nat), aa_sh ac_SK r0 = some (6, n6, rs6) ∧ aa_nth rs6 1 = q6 + 1 ∧
                  ∃ (n7 : Nat) (rs7 : List Nat), aa_sh ac_SK q6 = some (100, n7, rs7) ∧ vp_in (i4 - (1 : Int32)) n7 ∧
                  ∃ (n8 : Nat) (rs8 : List Nat) (q8 : Nat), aa_sh ac_SK r0 = some (6, n8, rs8) ∧ aa_nth rs8 1 = q8 + 1 ∧
                  ∃ (n9 : Nat) (rs9 : List Nat), aa_sh ac_SK q8 = some (100, n9, rs9) ∧ vp_in ((i4 - (1 : Int32)) + (1 : Int32)) n9 ∧
                  ab_E G (ac_ST L xs) l d ac_SK 77 [.int (V q1 ((i5).toNatClampNeg)), .int (V q6 (((i4 - (1 : Int32))).toNatClampNeg)), .int (V q8 ((((i4 - (1 : Int32)) + (1 : Int32))).toNatClampNeg))] V (aa_rI (fun x10 V10 =>
                    ∃ (n11 : Nat) (rs11 : List Nat), aa_sh ac_SK q5 = some (100, n11, rs11) ∧ vp_in (i4 - (1 : Int32)) n11 ∧
                    ab_J G (ac_ST L xs) l (d + 1) 74 6 [some (.ref r0), none, some (.int i2), some (.ref 86), some (.int ((i4 - (1 : Int32)) + 1)), some (.int (i5 + 1)), none, none] [] ac_SK (aa_up V10 q5 (((i4 - (1 : Int32))).toNatClampNeg) x10) ac_SK K))))) ∧
            (¬ (i4 - (1 : Int32)) < (nI n4) →
              K (some (.int (0 : Int32))) V))))) ∧
    (¬ i5 < i2 →
      ∃ (n1 : Nat) (rs1 : List Nat) (q1 : Nat), aa_sh ac_SK r0 = some (6, n1, rs1) ∧ aa_nth rs1 1 = q1 + 1 ∧
      ∃ (n2 : Nat) (rs2 : List Nat), aa_sh ac_SK q1 = some (100, n2, rs2) ∧ vp_in (0 : Int32) n2 ∧
      K (some (.int (V q1 (((0 : Int32)).toNatClampNeg)))) V)) :
    ab_J G (ac_ST L xs) l (d + 1) 74 6 [some (.ref r0), none, some (.int i2), some (.ref 86), some (.int i4), some (.int i5), none, none] [] ac_SK V ac_SK K := ab_wm cd_74_ok [(6, [true, false, true, true, true, true, false, false])] 242 _ _ _ _ h

set_option maxRecDepth 20000 in
/-- FrameCounty$Text valueOf(I[I)I, from 0 -/
theorem vc_75_0 {G : ab_G} {L : Nat} {xs : Nat → Int32} {l : Launch} {d : Nat} {i0 : Int32} {V : aa_V} {K : aa_K} (h :
    ab_E G (ac_ST L xs) l d ac_SK 182 [.int (i0 - (10000 : Int32)), .int (0 : Int32), .int ((nI 6) - (1 : Int32))] V (aa_rI (fun x1 V1 =>
      (x1 = 0 →
        K (some (.int i0)) V1) ∧
      (¬ x1 = 0 →
        vp_in (i0 - (10000 : Int32)) 6 ∧
        K (some (.int (V1 86 (((i0 - (10000 : Int32))).toNatClampNeg)))) V1)))) :
    ab_E G (ac_ST L xs) l (d + 1) ac_SK 75 [.int i0, .ref 86] V K := ab_wm cd_75_ok [] 24 _ _ _ _ h

set_option maxRecDepth 20000 in
/-- FrameCounty$Text ofOne(II)I, from 0 -/
theorem vc_76_0 {G : ab_G} {L : Nat} {xs : Nat → Int32} {l : Launch} {d : Nat} {i0 : Int32} {i1 : Int32} {V : aa_V} {K : aa_K} (h :
    (i0 = (20000 : Int32) →
      (i1 = 0 →
        ab_E G (ac_ST L xs) l d ac_SK 78 [.int (1 : Int32)] V (aa_rI (fun x1 V1 =>
          K (some (.int x1)) V1))) ∧
      (¬ i1 = 0 →
        ab_E G (ac_ST L xs) l d ac_SK 78 [.int (0 : Int32)] V (aa_rI (fun x1 V1 =>
          K (some (.int x1)) V1)))) ∧
    (¬ i0 = (20000 : Int32) →
      K (some (.int (-i1))) V)) :
    ab_E G (ac_ST L xs) l (d + 1) ac_SK 76 [.int i0, .int i1] V K := ab_wm cd_76_ok [] 22 _ _ _ _ h

set_option maxRecDepth 20000 in
/-- FrameCounty$Text ofTwo(III)I, from 0 -/
theorem vc_77_0 {G : ab_G} {L : Nat} {xs : Nat → Int32} {l : Launch} {d : Nat} {i0 : Int32} {i1 : Int32} {i2 : Int32} {V : aa_V} {K : aa_K} (h :
    (i0 = 20002 →
      (i1 = 0 →
        (i2 = 0 →
          ab_E G (ac_ST L xs) l d ac_SK 78 [.int (0 : Int32)] V (aa_rI (fun x1 V1 =>
            K (some (.int x1)) V1))) ∧
        (¬ i2 = 0 →
          ab_E G (ac_ST L xs) l d ac_SK 78 [.int (1 : Int32)] V (aa_rI (fun x1 V1 =>
            K (some (.int x1)) V1)))) ∧
      (¬ i1 = 0 →
        ab_E G (ac_ST L xs) l d ac_SK 78 [.int (1 : Int32)] V (aa_rI (fun x1 V1 =>
          K (some (.int x1)) V1)))) ∧
    (¬ i0 = 20002 →
    (i0 = 20003 →
      (i1 = 0 →
        ab_E G (ac_ST L xs) l d ac_SK 78 [.int (0 : Int32)] V (aa_rI (fun x1 V1 =>
          K (some (.int x1)) V1))) ∧
      (¬ i1 = 0 →
        (i2 = 0 →
          ab_E G (ac_ST L xs) l d ac_SK 78 [.int (0 : Int32)] V (aa_rI (fun x1 V1 =>
            K (some (.int x1)) V1))) ∧
        (¬ i2 = 0 →
          ab_E G (ac_ST L xs) l d ac_SK 78 [.int (1 : Int32)] V (aa_rI (fun x1 V1 =>
            K (some (.int x1)) V1))))) ∧
    (¬ i0 = 20003 →
    (i0 = 20004 →
      (i1 < i2 →
        ab_E G (ac_ST L xs) l d ac_SK 78 [.int (1 : Int32)] V (aa_rI (fun x1 V1 =>
          K (some (.int x1)) V1))) ∧
      (¬ i1 < i2 →
        ab_E G (ac_ST L xs) l d ac_SK 78 [.int (0 : Int32)] V (aa_rI (fun x1 V1 =>
          K (some (.int x1)) V1)))) ∧
    (¬ i0 = 20004 →
    (i0 = 20005 →
      (i1 = i2 →
        ab_E G (ac_ST L xs) l d ac_SK 78 [.int (1 : Int32)] V (aa_rI (fun x1 V1 =>
          K (some (.int x1)) V1))) ∧
      (¬ i1 = i2 →
        ab_E G (ac_ST L xs) l d ac_SK 78 [.int (0 : Int32)] V (aa_rI (fun x1 V1 =>
          K (some (.int x1)) V1)))) ∧
    (¬ i0 = 20005 →
    (i0 = 20006 →
      K (some (.int (i1 + i2))) V) ∧
    (¬ i0 = 20006 →
    (i0 = 20007 →
      K (some (.int (i1 - i2))) V) ∧
    (¬ i0 = 20007 →
    K (some (.int (i1 * i2))) V))))))) :
    ab_E G (ac_ST L xs) l (d + 1) ac_SK 77 [.int i0, .int i1, .int i2] V K := ab_wm cd_77_ok [] 68 _ _ _ _ h

set_option maxRecDepth 20000 in
/-- FrameCounty$Text bit(Z)I, from 0 -/
theorem vc_78_0 {G : ab_G} {L : Nat} {xs : Nat → Int32} {l : Launch} {d : Nat} {i0 : Int32} {V : aa_V} {K : aa_K} (h :
    (i0 = 0 →
      K (some (.int (0 : Int32))) V) ∧
    (¬ i0 = 0 →
      K (some (.int (1 : Int32))) V)) :
    ab_E G (ac_ST L xs) l (d + 1) ac_SK 78 [.int i0] V K := ab_wm cd_78_ok [] 12 _ _ _ _ h

set_option maxRecDepth 20000 in
/-- FrameCounty$Watch isPerson(I)Z, from 0 -/
theorem vc_80_0 {G : ab_G} {L : Nat} {xs : Nat → Int32} {l : Launch} {d : Nat} {i1 : Int32} {V : aa_V} {K : aa_K} (h :
    ab_E G (ac_ST L xs) l d ac_SK 182 [.int i1, .int (0 : Int32), .int ((V 42 2) - (1 : Int32))] V (aa_rI (fun x1 V1 =>
      aa_bit x1 ∧ K (some (.int x1)) V1))) :
    ab_E G (ac_ST L xs) l (d + 1) ac_SK 80 [.ref 42, .int i1] V K := ab_wm cd_80_ok [] 13 _ _ _ _ h

set_option maxRecDepth 20000 in
/-- FrameCounty$Watch persons()I, from 0 -/
theorem vc_81_0 {G : ab_G} {L : Nat} {xs : Nat → Int32} {l : Launch} {d : Nat} {V : aa_V} {K : aa_K} (h :
    K (some (.int (V 42 2))) V) :
    ab_E G (ac_ST L xs) l (d + 1) ac_SK 81 [.ref 42] V K := ab_wm cd_81_ok [] 8 _ _ _ _ h

set_option maxRecDepth 20000 in
/-- FrameCounty$Watch allSeen()I, from 0 -/
theorem vc_82_0 {G : ab_G} {L : Nat} {xs : Nat → Int32} {l : Launch} {d : Nat} {V : aa_V} {K : aa_K} (h :
    K (some (.int (V 42 4))) V) :
    ab_E G (ac_ST L xs) l (d + 1) ac_SK 82 [.ref 42] V K := ab_wm cd_82_ok [] 8 _ _ _ _ h

set_option maxRecDepth 20000 in
/-- FrameCounty$Watch allWords()I, from 0 -/
theorem vc_83_0 {G : ab_G} {L : Nat} {xs : Nat → Int32} {l : Launch} {d : Nat} {V : aa_V} {K : aa_K} (h :
    K (some (.int (V 42 10))) V) :
    ab_E G (ac_ST L xs) l (d + 1) ac_SK 83 [.ref 42] V K := ab_wm cd_83_ok [] 8 _ _ _ _ h

set_option maxRecDepth 20000 in
/-- FrameCounty$Watch addPerson(I)I, from 0 -/
theorem vc_84_0 {G : ab_G} {L : Nat} {xs : Nat → Int32} {l : Launch} {d : Nat} {i1 : Int32} {V : aa_V} {K : aa_K} (h :
    ((V 42 2) < (12 : Int32) →
      vp_in (V 42 2) 12 ∧
      K (some (.int (((V 42 2) + (1 : Int32)) - (1 : Int32)))) (aa_up (aa_up V 43 (((V 42 2)).toNatClampNeg) i1) 42 2 ((V 42 2) + (1 : Int32)))) ∧
    (¬ (V 42 2) < (12 : Int32) →
      K (some (.int (-4 : Int32))) V)) :
    ab_E G (ac_ST L xs) l (d + 1) ac_SK 84 [.ref 42, .int i1] V K := ab_wm cd_84_ok [] 28 _ _ _ _ h

set_option maxRecDepth 20000 in
/-- FrameCounty$Watch addSeen(IIIII)I, from 0 -/
theorem vc_85_0 {G : ab_G} {L : Nat} {xs : Nat → Int32} {l : Launch} {d : Nat} {i1 : Int32} {i2 : Int32} {i3 : Int32} {i4 : Int32} {i5 : Int32} {V : aa_V} {K : aa_K} (h :
    ((V 42 4) < (40 : Int32) →
      vp_in (V 42 4) 40 ∧
      vp_in (V 42 4) 40 ∧
      vp_in (V 42 4) 40 ∧
      vp_in (V 42 4) 40 ∧
      vp_in (V 42 4) 40 ∧
      K (some (.int ((V 42 4) + (1 : Int32)))) (aa_up (aa_up (aa_up (aa_up (aa_up (aa_up V 44 (((V 42 4)).toNatClampNeg) i1) 45 (((V 42 4)).toNatClampNeg) i2) 46 (((V 42 4)).toNatClampNeg) i3) 47 (((V 42 4)).toNatClampNeg) i4) 48 (((V 42 4)).toNatClampNeg) i5) 42 4 ((V 42 4) + (1 : Int32)))) ∧
    (¬ (V 42 4) < (40 : Int32) →
      K (some (.int (-4 : Int32))) V)) :
    ab_E G (ac_ST L xs) l (d + 1) ac_SK 85 [.ref 42, .int i1, .int i2, .int i3, .int i4, .int i5] V K := ab_wm cd_85_ok [] 50 _ _ _ _ h

set_option maxRecDepth 20000 in
/-- FrameCounty$Watch addWord(IIIII)I, from 0 -/
theorem vc_86_0 {G : ab_G} {L : Nat} {xs : Nat → Int32} {l : Launch} {d : Nat} {i1 : Int32} {i2 : Int32} {i3 : Int32} {i4 : Int32} {i5 : Int32} {V : aa_V} {K : aa_K} (h :
    ((V 42 10) < (24 : Int32) →
      vp_in (V 42 10) 24 ∧
      vp_in (V 42 10) 24 ∧
      vp_in (V 42 10) 24 ∧
      vp_in (V 42 10) 24 ∧
      vp_in (V 42 10) 24 ∧
      K (some (.int (((V 42 10) + (1 : Int32)) - (1 : Int32)))) (aa_up (aa_up (aa_up (aa_up (aa_up (aa_up V 49 (((V 42 10)).toNatClampNeg) i1) 50 (((V 42 10)).toNatClampNeg) i2) 51 (((V 42 10)).toNatClampNeg) i3) 52 (((V 42 10)).toNatClampNeg) i4) 53 (((V 42 10)).toNatClampNeg) i5) 42 10 ((V 42 10) + (1 : Int32)))) ∧
    (¬ (V 42 10) < (24 : Int32) →
      K (some (.int (-4 : Int32))) V)) :
    ab_E G (ac_ST L xs) l (d + 1) ac_SK 86 [.ref 42, .int i1, .int i2, .int i3, .int i4, .int i5] V K := ab_wm cd_86_ok [] 52 _ _ _ _ h

set_option maxRecDepth 20000 in
/-- FrameCounty$Watch isPossible(IIIII)Z, from 0 -/
theorem vc_87_0 {G : ab_G} {L : Nat} {xs : Nat → Int32} {l : Launch} {d : Nat} {i1 : Int32} {i2 : Int32} {i3 : Int32} {i4 : Int32} {i5 : Int32} {V : aa_V} {K : aa_K} (h :
    vp_in i1 12 ∧
    ab_E G (ac_ST L xs) l d ac_SK 52 [.ref 1, .int (V 43 ((i1).toNatClampNeg)), .int i2, .int i4, .int i3] V (aa_rI (fun x1 V1 =>
      (x1 = 0 →
        aa_bit (0 : Int32) ∧ K (some (.int (0 : Int32))) V1) ∧
      (¬ x1 = 0 →
        ab_J G (ac_ST L xs) l (d + 1) 87 25 [some (.ref 42), some (.int i1), some (.int i2), some (.int i3), some (.int i4), some (.int i5), some (.int (0 : Int32)), none, none] [] ac_SK V1 ac_SK K)))) :
    ab_E G (ac_ST L xs) l (d + 1) ac_SK 87 [.ref 42, .int i1, .int i2, .int i3, .int i4, .int i5] V K := ab_wm cd_87_ok [(25, [true, true, true, true, true, true, true, false, false])] 21 _ _ _ _ h

set_option maxRecDepth 20000 in
/-- FrameCounty$Watch isPossible(IIIII)Z, from 25 -/
theorem vc_87_25 {G : ab_G} {L : Nat} {xs : Nat → Int32} {l : Launch} {d : Nat} {i1 : Int32} {i2 : Int32} {i3 : Int32} {i4 : Int32} {i5 : Int32} {i6 : Int32} {V : aa_V} {K : aa_K} (h :
    (i6 < (V 42 4) →
      vp_in i6 40 ∧
      ((V 44 ((i6).toNatClampNeg)) = i1 →
        vp_in i6 40 ∧
        ((V 46 ((i6).toNatClampNeg)) = i3 →
          vp_in i6 40 ∧
          (i5 < (V 48 ((i6).toNatClampNeg)) →
            vp_in i6 40 ∧
            ((0 : Int32) = 0 →
              ab_J G (ac_ST L xs) l (d + 1) 87 25 [some (.ref 42), some (.int i1), some (.int i2), some (.int i3), some (.int i4), some (.int i5), some (.int (i6 + 1)), none, none] [] ac_SK V ac_SK K) ∧
            (¬ (0 : Int32) = 0 →
              vp_in i6 40 ∧
              ab_E G (ac_ST L xs) l d ac_SK 52 [.ref 1, .int (V 45 ((i6).toNatClampNeg)), .int i2, .int (if 0 ≤ (i4 - (V 47 ((i6).toNatClampNeg))) then (i4 - (V 47 ((i6).toNatClampNeg))) else 0 - (i4 - (V 47 ((i6).toNatClampNeg)))), .int i3] V (aa_rI (fun x1 V1 =>
                (x1 = 0 →
                  aa_bit (0 : Int32) ∧ K (some (.int (0 : Int32))) V1) ∧
                (¬ x1 = 0 →
                  ab_J G (ac_ST L xs) l (d + 1) 87 25 [some (.ref 42), some (.int i1), some (.int i2), some (.int i3), some (.int i4), some (.int i5), some (.int (i6 + 1)), none, none] [] ac_SK V1 ac_SK K))))) ∧
          (¬ i5 < (V 48 ((i6).toNatClampNeg)) →
            vp_in i6 40 ∧
            ((1 : Int32) = 0 →
              ab_J G (ac_ST L xs) l (d + 1) 87 25 [some (.ref 42), some (.int i1), some (.int i2), some (.int i3), some (.int i4), some (.int i5), some (.int (i6 + 1)), none, none] [] ac_SK V ac_SK K) ∧
            (¬ (1 : Int32) = 0 →
              vp_in i6 40 ∧
              ab_E G (ac_ST L xs) l d ac_SK 52 [.ref 1, .int (V 45 ((i6).toNatClampNeg)), .int i2, .int (if 0 ≤ (i4 - (V 47 ((i6).toNatClampNeg))) then (i4 - (V 47 ((i6).toNatClampNeg))) else 0 - (i4 - (V 47 ((i6).toNatClampNeg)))), .int i3] V (aa_rI (fun x1 V1 =>
                (x1 = 0 →
                  aa_bit (0 : Int32) ∧ K (some (.int (0 : Int32))) V1) ∧
                (¬ x1 = 0 →
                  ab_J G (ac_ST L xs) l (d + 1) 87 25 [some (.ref 42), some (.int i1), some (.int i2), some (.int i3), some (.int i4), some (.int i5), some (.int (i6 + 1)), none, none] [] ac_SK V1 ac_SK K)))))) ∧
        (¬ (V 46 ((i6).toNatClampNeg)) = i3 →
          vp_in i6 40 ∧
          ((0 : Int32) = 0 →
            ab_J G (ac_ST L xs) l (d + 1) 87 25 [some (.ref 42), some (.int i1), some (.int i2), some (.int i3), some (.int i4), some (.int i5), some (.int (i6 + 1)), none, none] [] ac_SK V ac_SK K) ∧
          (¬ (0 : Int32) = 0 →
            vp_in i6 40 ∧
            ab_E G (ac_ST L xs) l d ac_SK 52 [.ref 1, .int (V 45 ((i6).toNatClampNeg)), .int i2, .int (if 0 ≤ (i4 - (V 47 ((i6).toNatClampNeg))) then (i4 - (V 47 ((i6).toNatClampNeg))) else 0 - (i4 - (V 47 ((i6).toNatClampNeg)))), .int i3] V (aa_rI (fun x1 V1 =>
              (x1 = 0 →
                aa_bit (0 : Int32) ∧ K (some (.int (0 : Int32))) V1) ∧
              (¬ x1 = 0 →
                ab_J G (ac_ST L xs) l (d + 1) 87 25 [some (.ref 42), some (.int i1), some (.int i2), some (.int i3), some (.int i4), some (.int i5), some (.int (i6 + 1)), none, none] [] ac_SK V1 ac_SK K)))))) ∧
      (¬ (V 44 ((i6).toNatClampNeg)) = i1 →
        vp_in i6 40 ∧
        ((0 : Int32) = 0 →
          ab_J G (ac_ST L xs) l (d + 1) 87 25 [some (.ref 42), some (.int i1), some (.int i2), some (.int i3), some (.int i4), some (.int i5), some (.int (i6 + 1)), none, none] [] ac_SK V ac_SK K) ∧
        (¬ (0 : Int32) = 0 →
          vp_in i6 40 ∧
          ab_E G (ac_ST L xs) l d ac_SK 52 [.ref 1, .int (V 45 ((i6).toNatClampNeg)), .int i2, .int (if 0 ≤ (i4 - (V 47 ((i6).toNatClampNeg))) then (i4 - (V 47 ((i6).toNatClampNeg))) else 0 - (i4 - (V 47 ((i6).toNatClampNeg)))), .int i3] V (aa_rI (fun x1 V1 =>
            (x1 = 0 →
              aa_bit (0 : Int32) ∧ K (some (.int (0 : Int32))) V1) ∧
            (¬ x1 = 0 →
              ab_J G (ac_ST L xs) l (d + 1) 87 25 [some (.ref 42), some (.int i1), some (.int i2), some (.int i3), some (.int i4), some (.int i5), some (.int (i6 + 1)), none, none] [] ac_SK V1 ac_SK K)))))) ∧
    (¬ i6 < (V 42 4) →
      aa_bit (1 : Int32) ∧ K (some (.int (1 : Int32))) V)) :
    ab_J G (ac_ST L xs) l (d + 1) 87 25 [some (.ref 42), some (.int i1), some (.int i2), some (.int i3), some (.int i4), some (.int i5), some (.int i6), none, none] [] ac_SK V ac_SK K := ab_wm cd_87_ok [(25, [true, true, true, true, true, true, true, false, false])] 154 _ _ _ _ h

set_option maxRecDepth 20000 in
/-- FrameCounty$Watch isPossibleAt(III)Z, from 0 -/
theorem vc_88_0 {G : ab_G} {L : Nat} {xs : Nat → Int32} {l : Launch} {d : Nat} {i1 : Int32} {i2 : Int32} {i3 : Int32} {V : aa_V} {K : aa_K} (h :
    ab_E G (ac_ST L xs) l d ac_SK 21 [.ref 38, .int i2] V (aa_rI (fun x1 V1 =>
      ab_E G (ac_ST L xs) l d ac_SK 22 [.ref 38, .int i2] V1 (aa_rI (fun x2 V2 =>
        ab_E G (ac_ST L xs) l d ac_SK 23 [.ref 38, .int i2] V2 (aa_rI (fun x3 V3 =>
          ab_E G (ac_ST L xs) l d ac_SK 87 [.ref 42, .int i1, .int x1, .int x2, .int x3, .int i3] V3 (aa_rI (fun x4 V4 =>
            aa_bit x4 ∧ K (some (.int x4)) V4))))))))) :
    ab_E G (ac_ST L xs) l (d + 1) ac_SK 88 [.ref 42, .int i1, .int i2, .int i3] V K := ab_wm cd_88_ok [] 22 _ _ _ _ h

set_option maxRecDepth 20000 in
/-- FrameCounty$Watch couldRaid(II)I, from 0 -/
theorem vc_89_0 {G : ab_G} {L : Nat} {xs : Nat → Int32} {l : Launch} {d : Nat} {i1 : Int32} {i2 : Int32} {V : aa_V} {K : aa_K} (h :
    ab_J G (ac_ST L xs) l (d + 1) 89 5 [some (.ref 42), some (.int i1), some (.int i2), some (.int (0 : Int32)), some (.int (0 : Int32))] [] ac_SK V ac_SK K) :
    ab_E G (ac_ST L xs) l (d + 1) ac_SK 89 [.ref 42, .int i1, .int i2] V K := ab_wm cd_89_ok [(5, [true, true, true, true, true])] 10 _ _ _ _ h

set_option maxRecDepth 20000 in
/-- FrameCounty$Watch couldRaid(II)I, from 5 -/
theorem vc_89_5 {G : ab_G} {L : Nat} {xs : Nat → Int32} {l : Launch} {d : Nat} {i1 : Int32} {i2 : Int32} {i3 : Int32} {i4 : Int32} {V : aa_V} {K : aa_K} (h :
    (i4 < (V 42 2) →
      ab_E G (ac_ST L xs) l d ac_SK 88 [.ref 42, .int i4, .int i1, .int i2] V (aa_rI (fun x1 V1 =>
        (x1 = 0 →
          ab_J G (ac_ST L xs) l (d + 1) 89 5 [some (.ref 42), some (.int i1), some (.int i2), some (.int i3), some (.int (i4 + 1))] [] ac_SK V1 ac_SK K) ∧
        (¬ x1 = 0 →
          ab_J G (ac_ST L xs) l (d + 1) 89 5 [some (.ref 42), some (.int i1), some (.int i2), some (.int (i3 ||| ((1 : Int32) <<< (i4 &&& 31)))), some (.int (i4 + 1))] [] ac_SK V1 ac_SK K)))) ∧
    (¬ i4 < (V 42 2) →
      K (some (.int i3)) V)) :
    ab_J G (ac_ST L xs) l (d + 1) 89 5 [some (.ref 42), some (.int i1), some (.int i2), some (.int i3), some (.int i4)] [] ac_SK V ac_SK K := ab_wm cd_89_ok [(5, [true, true, true, true, true])] 29 _ _ _ _ h

set_option maxRecDepth 20000 in
/-- FrameCounty$Watch lies(I)I, from 0 -/
theorem vc_90_0 {G : ab_G} {L : Nat} {xs : Nat → Int32} {l : Launch} {d : Nat} {i1 : Int32} {V : aa_V} {K : aa_K} (h :
    ab_J G (ac_ST L xs) l (d + 1) 90 4 [some (.ref 42), some (.int i1), some (.int (0 : Int32)), some (.int (0 : Int32))] [] ac_SK V ac_SK K) :
    ab_E G (ac_ST L xs) l (d + 1) ac_SK 90 [.ref 42, .int i1] V K := ab_wm cd_90_ok [(4, [true, true, true, true])] 10 _ _ _ _ h

set_option maxRecDepth 20000 in
/-- FrameCounty$Watch lies(I)I, from 4 -/
theorem vc_90_4 {G : ab_G} {L : Nat} {xs : Nat → Int32} {l : Launch} {d : Nat} {i1 : Int32} {i2 : Int32} {i3 : Int32} {V : aa_V} {K : aa_K} (h :
    (i3 < (V 42 10) →
      vp_in i3 24 ∧
      (i1 < (V 53 ((i3).toNatClampNeg)) →
        ab_J G (ac_ST L xs) l (d + 1) 90 4 [some (.ref 42), some (.int i1), some (.int i2), some (.int (i3 + 1))] [] ac_SK V ac_SK K) ∧
      (¬ i1 < (V 53 ((i3).toNatClampNeg)) →
        vp_in i3 24 ∧
        vp_in i3 24 ∧
        ab_E G (ac_ST L xs) l d ac_SK 88 [.ref 42, .int (V 50 ((i3).toNatClampNeg)), .int (V 51 ((i3).toNatClampNeg)), .int i1] V (aa_rI (fun x1 V1 =>
          (x1 = 0 →
            ab_J G (ac_ST L xs) l (d + 1) 90 4 [some (.ref 42), some (.int i1), some (.int (i2 ||| ((1 : Int32) <<< (i3 &&& 31)))), some (.int (i3 + 1))] [] ac_SK V1 ac_SK K) ∧
          (¬ x1 = 0 →
            ab_J G (ac_ST L xs) l (d + 1) 90 4 [some (.ref 42), some (.int i1), some (.int i2), some (.int (i3 + 1))] [] ac_SK V1 ac_SK K))))) ∧
    (¬ i3 < (V 42 10) →
      K (some (.int i2)) V)) :
    ab_J G (ac_ST L xs) l (d + 1) 90 4 [some (.ref 42), some (.int i1), some (.int i2), some (.int i3)] [] ac_SK V ac_SK K := ab_wm cd_90_ok [(4, [true, true, true, true])] 44 _ _ _ _ h

set_option maxRecDepth 20000 in
/-- FrameCounty$Watch wordsOf(II)I, from 0 -/
theorem vc_91_0 {G : ab_G} {L : Nat} {xs : Nat → Int32} {l : Launch} {d : Nat} {i1 : Int32} {i2 : Int32} {V : aa_V} {K : aa_K} (h :
    ab_J G (ac_ST L xs) l (d + 1) 91 5 [some (.ref 42), some (.int i1), some (.int i2), some (.int (0 : Int32)), some (.int (0 : Int32))] [] ac_SK V ac_SK K) :
    ab_E G (ac_ST L xs) l (d + 1) ac_SK 91 [.ref 42, .int i1, .int i2] V K := ab_wm cd_91_ok [(5, [true, true, true, true, true])] 10 _ _ _ _ h

set_option maxRecDepth 20000 in
/-- FrameCounty$Watch wordsOf(II)I, from 5 -/
theorem vc_91_5 {G : ab_G} {L : Nat} {xs : Nat → Int32} {l : Launch} {d : Nat} {i1 : Int32} {i2 : Int32} {i3 : Int32} {i4 : Int32} {V : aa_V} {K : aa_K} (h :
    (i4 < (V 42 10) →
      vp_in i4 24 ∧
      (i2 < (V 53 ((i4).toNatClampNeg)) →
        ab_J G (ac_ST L xs) l (d + 1) 91 5 [some (.ref 42), some (.int i1), some (.int i2), some (.int i3), some (.int (i4 + 1))] [] ac_SK V ac_SK K) ∧
      (¬ i2 < (V 53 ((i4).toNatClampNeg)) →
        vp_in i4 24 ∧
        ((V 49 ((i4).toNatClampNeg)) = i1 →
          ab_J G (ac_ST L xs) l (d + 1) 91 5 [some (.ref 42), some (.int i1), some (.int i2), some (.int (i3 ||| ((1 : Int32) <<< (i4 &&& 31)))), some (.int (i4 + 1))] [] ac_SK V ac_SK K) ∧
        (¬ (V 49 ((i4).toNatClampNeg)) = i1 →
          ab_J G (ac_ST L xs) l (d + 1) 91 5 [some (.ref 42), some (.int i1), some (.int i2), some (.int i3), some (.int (i4 + 1))] [] ac_SK V ac_SK K))) ∧
    (¬ i4 < (V 42 10) →
      K (some (.int i3)) V)) :
    ab_J G (ac_ST L xs) l (d + 1) 91 5 [some (.ref 42), some (.int i1), some (.int i2), some (.int i3), some (.int i4)] [] ac_SK V ac_SK K := ab_wm cd_91_ok [(5, [true, true, true, true, true])] 38 _ _ _ _ h

set_option maxRecDepth 20000 in
/-- FrameCounty$Watch wordsOn(II)I, from 0 -/
theorem vc_92_0 {G : ab_G} {L : Nat} {xs : Nat → Int32} {l : Launch} {d : Nat} {i1 : Int32} {i2 : Int32} {V : aa_V} {K : aa_K} (h :
    ab_J G (ac_ST L xs) l (d + 1) 92 5 [some (.ref 42), some (.int i1), some (.int i2), some (.int (0 : Int32)), some (.int (0 : Int32))] [] ac_SK V ac_SK K) :
    ab_E G (ac_ST L xs) l (d + 1) ac_SK 92 [.ref 42, .int i1, .int i2] V K := ab_wm cd_92_ok [(5, [true, true, true, true, true])] 10 _ _ _ _ h

set_option maxRecDepth 20000 in
/-- FrameCounty$Watch wordsOn(II)I, from 5 -/
theorem vc_92_5 {G : ab_G} {L : Nat} {xs : Nat → Int32} {l : Launch} {d : Nat} {i1 : Int32} {i2 : Int32} {i3 : Int32} {i4 : Int32} {V : aa_V} {K : aa_K} (h :
    (i4 < (V 42 10) →
      vp_in i4 24 ∧
      (i2 < (V 53 ((i4).toNatClampNeg)) →
        ab_J G (ac_ST L xs) l (d + 1) 92 5 [some (.ref 42), some (.int i1), some (.int i2), some (.int i3), some (.int (i4 + 1))] [] ac_SK V ac_SK K) ∧
      (¬ i2 < (V 53 ((i4).toNatClampNeg)) →
        vp_in i4 24 ∧
        ((V 50 ((i4).toNatClampNeg)) = i1 →
          ab_J G (ac_ST L xs) l (d + 1) 92 5 [some (.ref 42), some (.int i1), some (.int i2), some (.int (i3 ||| ((1 : Int32) <<< (i4 &&& 31)))), some (.int (i4 + 1))] [] ac_SK V ac_SK K) ∧
        (¬ (V 50 ((i4).toNatClampNeg)) = i1 →
          ab_J G (ac_ST L xs) l (d + 1) 92 5 [some (.ref 42), some (.int i1), some (.int i2), some (.int i3), some (.int (i4 + 1))] [] ac_SK V ac_SK K))) ∧
    (¬ i4 < (V 42 10) →
      K (some (.int i3)) V)) :
    ab_J G (ac_ST L xs) l (d + 1) 92 5 [some (.ref 42), some (.int i1), some (.int i2), some (.int i3), some (.int i4)] [] ac_SK V ac_SK K := ab_wm cd_92_ok [(5, [true, true, true, true, true])] 38 _ _ _ _ h

set_option maxRecDepth 20000 in
/-- FrameCounty$Watch paidFor(I)I, from 0 -/
theorem vc_93_0 {G : ab_G} {L : Nat} {xs : Nat → Int32} {l : Launch} {d : Nat} {i1 : Int32} {V : aa_V} {K : aa_K} (h :
    ab_J G (ac_ST L xs) l (d + 1) 93 4 [some (.ref 42), some (.int i1), some (.int (0 : Int32)), some (.int (0 : Int32))] [] ac_SK V ac_SK K) :
    ab_E G (ac_ST L xs) l (d + 1) ac_SK 93 [.ref 42, .int i1] V K := ab_wm cd_93_ok [(4, [true, true, true, true])] 10 _ _ _ _ h

set_option maxRecDepth 20000 in
/-- FrameCounty$Watch paidFor(I)I, from 4 -/
theorem vc_93_4 {G : ab_G} {L : Nat} {xs : Nat → Int32} {l : Launch} {d : Nat} {i1 : Int32} {i2 : Int32} {i3 : Int32} {V : aa_V} {K : aa_K} (h :
    (i3 < (V 42 10) →
      (((i1 >>> (i3 &&& 31)) &&& (1 : Int32)) = (1 : Int32) →
        vp_in i3 24 ∧
        ab_J G (ac_ST L xs) l (d + 1) 93 4 [some (.ref 42), some (.int i1), some (.int (i2 + (V 52 ((i3).toNatClampNeg)))), some (.int (i3 + 1))] [] ac_SK V ac_SK K) ∧
      (¬ ((i1 >>> (i3 &&& 31)) &&& (1 : Int32)) = (1 : Int32) →
        ab_J G (ac_ST L xs) l (d + 1) 93 4 [some (.ref 42), some (.int i1), some (.int i2), some (.int (i3 + 1))] [] ac_SK V ac_SK K)) ∧
    (¬ i3 < (V 42 10) →
      K (some (.int i2)) V)) :
    ab_J G (ac_ST L xs) l (d + 1) 93 4 [some (.ref 42), some (.int i1), some (.int i2), some (.int i3)] [] ac_SK V ac_SK K := ab_wm cd_93_ok [(4, [true, true, true, true])] 31 _ _ _ _ h

set_option maxRecDepth 20000 in
/-- FrameCounty$Weeks isRow(J)Z, from 0 -/
theorem vc_95_0 {G : ab_G} {L : Nat} {xs : Nat → Int32} {l : Launch} {d : Nat} {l0 : Int64} {V : aa_V} {K : aa_K} (h :
    ((lg_cmp l0 (0 : Int64)) < 0 →
      aa_bit (0 : Int32) ∧ K (some (.int (0 : Int32))) V) ∧
    (¬ (lg_cmp l0 (0 : Int64)) < 0 →
      ((lg_cmp l0 (10000000000 : Int64)) < 0 →
        aa_bit (1 : Int32) ∧ K (some (.int (1 : Int32))) V) ∧
      (¬ (lg_cmp l0 (10000000000 : Int64)) < 0 →
        aa_bit (0 : Int32) ∧ K (some (.int (0 : Int32))) V))) :
    ab_E G (ac_ST L xs) l (d + 1) ac_SK 95 [.long l0] V K := ab_wm cd_95_ok [] 20 _ _ _ _ h

set_option maxRecDepth 20000 in
/-- FrameCounty$Weeks rows()I, from 0 -/
theorem vc_96_0 {G : ab_G} {L : Nat} {xs : Nat → Int32} {l : Launch} {d : Nat} {V : aa_V} {K : aa_K} (h :
    K (some (.int (V 64 0))) V) :
    ab_E G (ac_ST L xs) l (d + 1) ac_SK 96 [.ref 64] V K := ab_wm cd_96_ok [] 8 _ _ _ _ h

set_option maxRecDepth 20000 in
/-- FrameCounty$Weeks addRow(J)I, from 0 -/
theorem vc_97_0 {G : ab_G} {L : Nat} {xs : Nat → Int32} {l : Launch} {d : Nat} {l1 : Int64} {V : aa_V} {K : aa_K} (h :
    ((V 64 0) < (6 : Int32) →
      ab_J G (ac_ST L xs) l (d + 1) 97 17 [some (.ref 64), none, none, some (.long l1), none, some (.int (0 : Int32))] [] ac_SK V ac_SK K) ∧
    (¬ (V 64 0) < (6 : Int32) →
      K (some (.int (-4 : Int32))) V)) :
    ab_E G (ac_ST L xs) l (d + 1) ac_SK 97 [.ref 64, .long l1] V K := ab_wm cd_97_ok [(17, [true, false, false, true, false, true])] 16 _ _ _ _ h

set_option maxRecDepth 20000 in
/-- FrameCounty$Weeks addRow(J)I, from 17 -/
theorem vc_97_17 {G : ab_G} {L : Nat} {xs : Nat → Int32} {l : Launch} {d : Nat} {l3 : Int64} {i5 : Int32} {V : aa_V} {K : aa_K} (h :
    (i5 < (5 : Int32) →
      ∃ (n1 : Nat) (rs1 : List Nat) (q1 : Nat), aa_sh ac_SK 65 = some (103, n1, rs1) ∧ vp_in (V 64 0) n1 ∧ aa_nth rs1 ((V 64 0)).toNatClampNeg = q1 + 1 ∧
      ¬ (100 : Int64) = 0 ∧
      ∃ (n2 : Nat) (rs2 : List Nat), aa_sh ac_SK q1 = some (100, n2, rs2) ∧ vp_in i5 n2 ∧
      ¬ (100 : Int64) = 0 ∧
      ab_J G (ac_ST L xs) l (d + 1) 97 17 [some (.ref 64), none, none, some (.long (l3 / (100 : Int64))), none, some (.int (i5 + 1))] [] ac_SK (aa_up V q1 ((i5).toNatClampNeg) ((l3 - l3 / (100 : Int64) * (100 : Int64)).toInt32)) ac_SK K) ∧
    (¬ i5 < (5 : Int32) →
      K (some (.int (((V 64 0) + (1 : Int32)) - (1 : Int32)))) (aa_up V 64 0 ((V 64 0) + (1 : Int32))))) :
    ab_J G (ac_ST L xs) l (d + 1) 97 17 [some (.ref 64), none, none, some (.long l3), none, some (.int i5)] [] ac_SK V ac_SK K := ab_wm cd_97_ok [(17, [true, false, false, true, false, true])] 37 _ _ _ _ h

set_option maxRecDepth 20000 in
/-- FrameCounty$Weeks doneIn(III)I, from 0 -/
theorem vc_98_0 {G : ab_G} {L : Nat} {xs : Nat → Int32} {l : Launch} {d : Nat} {i0 : Int32} {i1 : Int32} {i2 : Int32} {V : aa_V} {K : aa_K} (h :
    vp_in ((i2 - (1 : Int32)) - i0) (ac_ST L xs 1).2.1 ∧
    ¬ ((ac_ST L xs 1).2.2 (((i2 - (1 : Int32)) - i0)).toNatClampNeg) = 0 ∧
    ¬ (3 : Int32) = 0 ∧
    K (some (.int ((i1 / ((ac_ST L xs 1).2.2 (((i2 - (1 : Int32)) - i0)).toNatClampNeg)) - (i1 / ((ac_ST L xs 1).2.2 (((i2 - (1 : Int32)) - i0)).toNatClampNeg)) / (3 : Int32) * (3 : Int32)))) V) :
    ab_E G (ac_ST L xs) l (d + 1) ac_SK 98 [.int i0, .int i1, .int i2] V K := ab_wm cd_98_ok [] 17 _ _ _ _ h

set_option maxRecDepth 20000 in
/-- FrameCounty$Weeks bestPlan(I)I, from 0 -/
theorem vc_99_0 {G : ab_G} {L : Nat} {xs : Nat → Int32} {l : Launch} {d : Nat} {i1 : Int32} {V : aa_V} {K : aa_K} (h :
    ab_E G (ac_ST L xs) l d ac_SK 100 [.ref 64, .int (0 : Int32), .int i1] V (aa_rI (fun x1 V1 =>
      ab_J G (ac_ST L xs) l (d + 1) 99 15 [some (.ref 64), some (.int i1), some (.int (0 : Int32)), some (.int x1), some (.int (0 : Int32)), some (.int (1 : Int32)), none, none] [] ac_SK V1 ac_SK K))) :
    ab_E G (ac_ST L xs) l (d + 1) ac_SK 99 [.ref 64, .int i1] V K := ab_wm cd_99_ok [(15, [true, true, true, true, true, true, false, false])] 17 _ _ _ _ h

set_option maxRecDepth 20000 in
/-- FrameCounty$Weeks bestPlan(I)I, from 15 -/
theorem vc_99_15 {G : ab_G} {L : Nat} {xs : Nat → Int32} {l : Launch} {d : Nat} {i1 : Int32} {i2 : Int32} {i3 : Int32} {i4 : Int32} {i5 : Int32} {V : aa_V} {K : aa_K} (h :
    vp_in i1 (ac_ST L xs 1).2.1 ∧
    (i5 < ((ac_ST L xs 1).2.2 (i1).toNatClampNeg) →
      ab_E G (ac_ST L xs) l d ac_SK 100 [.ref 64, .int i5, .int i1] V (aa_rI (fun x1 V1 =>
        ab_E G (ac_ST L xs) l d ac_SK 102 [.int i5, .int i1] V1 (aa_rI (fun x2 V2 =>
          (x1 < i3 →
            ab_J G (ac_ST L xs) l (d + 1) 99 15 [some (.ref 64), some (.int i1), some (.int i5), some (.int x1), some (.int x2), some (.int (i5 + 1)), none, none] [] ac_SK V2 ac_SK K) ∧
          (¬ x1 < i3 →
            (x1 = i3 →
              (x2 < i4 →
                ab_J G (ac_ST L xs) l (d + 1) 99 15 [some (.ref 64), some (.int i1), some (.int i5), some (.int x1), some (.int x2), some (.int (i5 + 1)), none, none] [] ac_SK V2 ac_SK K) ∧
              (¬ x2 < i4 →
                ab_J G (ac_ST L xs) l (d + 1) 99 15 [some (.ref 64), some (.int i1), some (.int i2), some (.int i3), some (.int i4), some (.int (i5 + 1)), none, none] [] ac_SK V2 ac_SK K)) ∧
            (¬ x1 = i3 →
              ab_J G (ac_ST L xs) l (d + 1) 99 15 [some (.ref 64), some (.int i1), some (.int i2), some (.int i3), some (.int i4), some (.int (i5 + 1)), none, none] [] ac_SK V2 ac_SK K))))))) ∧
    (¬ i5 < ((ac_ST L xs 1).2.2 (i1).toNatClampNeg) →
      K (some (.int i2)) V)) :
    ab_J G (ac_ST L xs) l (d + 1) 99 15 [some (.ref 64), some (.int i1), some (.int i2), some (.int i3), some (.int i4), some (.int i5), none, none] [] ac_SK V ac_SK K := ab_wm cd_99_ok [(15, [true, true, true, true, true, true, false, false])] 54 _ _ _ _ h

set_option maxRecDepth 20000 in
/-- FrameCounty$Weeks mostBroken(II)I, from 0 -/
theorem vc_100_0 {G : ab_G} {L : Nat} {xs : Nat → Int32} {l : Launch} {d : Nat} {i1 : Int32} {i2 : Int32} {V : aa_V} {K : aa_K} (h :
    ab_J G (ac_ST L xs) l (d + 1) 100 5 [some (.ref 64), some (.int i1), some (.int i2), some (.int (0 : Int32)), some (.int (0 : Int32))] [] ac_SK V ac_SK K) :
    ab_E G (ac_ST L xs) l (d + 1) ac_SK 100 [.ref 64, .int i1, .int i2] V K := ab_wm cd_100_ok [(5, [true, true, true, true, true])] 10 _ _ _ _ h

set_option maxRecDepth 20000 in
/-- FrameCounty$Weeks mostBroken(II)I, from 5 -/
theorem vc_100_5 {G : ab_G} {L : Nat} {xs : Nat → Int32} {l : Launch} {d : Nat} {i1 : Int32} {i2 : Int32} {i3 : Int32} {i4 : Int32} {V : aa_V} {K : aa_K} (h :
    (i4 < (V 64 0) →
      ab_E G (ac_ST L xs) l d ac_SK 101 [.ref 64, .int i4, .int i1, .int i2] V (aa_rI (fun x1 V1 =>
        ab_J G (ac_ST L xs) l (d + 1) 100 5 [some (.ref 64), some (.int i1), some (.int i2), some (.int (if i3 < x1 then x1 else i3)), some (.int (i4 + 1))] [] ac_SK V1 ac_SK K))) ∧
    (¬ i4 < (V 64 0) →
      K (some (.int i3)) V)) :
    ab_J G (ac_ST L xs) l (d + 1) 100 5 [some (.ref 64), some (.int i1), some (.int i2), some (.int i3), some (.int i4)] [] ac_SK V ac_SK K := ab_wm cd_100_ok [(5, [true, true, true, true, true])] 22 _ _ _ _ h

set_option maxRecDepth 20000 in
/-- FrameCounty$Weeks broken(III)I, from 0 -/
theorem vc_101_0 {G : ab_G} {L : Nat} {xs : Nat → Int32} {l : Launch} {d : Nat} {i1 : Int32} {i2 : Int32} {i3 : Int32} {V : aa_V} {K : aa_K} (h :
    ab_J G (ac_ST L xs) l (d + 1) 101 9 [some (.ref 64), some (.int i1), some (.int i2), some (.int i3), some (.int (0 : Int32)), some (.int (0 : Int32)), some (.int (0 : Int32)), none, none] [] ac_SK V ac_SK K) :
    ab_E G (ac_ST L xs) l (d + 1) ac_SK 101 [.ref 64, .int i1, .int i2, .int i3] V K := ab_wm cd_101_ok [(9, [true, true, true, true, true, true, true, false, false])] 12 _ _ _ _ h

set_option maxRecDepth 20000 in
/-- FrameCounty$Weeks broken(III)I, from 9 -/
theorem vc_101_9 {G : ab_G} {L : Nat} {xs : Nat → Int32} {l : Launch} {d : Nat} {i1 : Int32} {i2 : Int32} {i3 : Int32} {i4 : Int32} {i5 : Int32} {i6 : Int32} {V : aa_V} {K : aa_K} (h :
    (i6 < i3 →
      ab_E G (ac_ST L xs) l d ac_SK 98 [.int i6, .int i2, .int i3] V (aa_rI (fun x1 V1 =>
        ∃ (n2 : Nat) (rs2 : List Nat) (q2 : Nat), aa_sh ac_SK 65 = some (103, n2, rs2) ∧ vp_in i1 n2 ∧ aa_nth rs2 (i1).toNatClampNeg = q2 + 1 ∧
        ∃ (n3 : Nat) (rs3 : List Nat), aa_sh ac_SK q2 = some (100, n3, rs3) ∧ vp_in i6 n3 ∧
        (x1 = (1 : Int32) →
          ¬ (2 : Int32) = 0 ∧
          ab_J G (ac_ST L xs) l (d + 1) 101 9 [some (.ref 64), some (.int i1), some (.int i2), some (.int i3), some (.int (i4 + (((V1 q2 ((i6).toNatClampNeg)) + (1 : Int32)) / (2 : Int32)))), some (.int x1), some (.int (i6 + 1)), none, none] [] ac_SK V1 ac_SK K) ∧
        (¬ x1 = (1 : Int32) →
          (x1 = (2 : Int32) →
            (i5 = (2 : Int32) →
              ab_J G (ac_ST L xs) l (d + 1) 101 9 [some (.ref 64), some (.int i1), some (.int i2), some (.int i3), some (.int (i4 + (V1 q2 ((i6).toNatClampNeg)))), some (.int x1), some (.int (i6 + 1)), none, none] [] ac_SK V1 ac_SK K) ∧
            (¬ i5 = (2 : Int32) →
              ¬ (3 : Int32) = 0 ∧
              ab_J G (ac_ST L xs) l (d + 1) 101 9 [some (.ref 64), some (.int i1), some (.int i2), some (.int i3), some (.int (i4 + (((V1 q2 ((i6).toNatClampNeg)) + (2 : Int32)) / (3 : Int32)))), some (.int x1), some (.int (i6 + 1)), none, none] [] ac_SK V1 ac_SK K)) ∧
          (¬ x1 = (2 : Int32) →
            ab_J G (ac_ST L xs) l (d + 1) 101 9 [some (.ref 64), some (.int i1), some (.int i2), some (.int i3), some (.int (i4 + (V1 q2 ((i6).toNatClampNeg)))), some (.int x1), some (.int (i6 + 1)), none, none] [] ac_SK V1 ac_SK K))))) ∧
    (¬ i6 < i3 →
      K (some (.int i4)) V)) :
    ab_J G (ac_ST L xs) l (d + 1) 101 9 [some (.ref 64), some (.int i1), some (.int i2), some (.int i3), some (.int i4), some (.int i5), some (.int i6), none, none] [] ac_SK V ac_SK K := ab_wm cd_101_ok [(9, [true, true, true, true, true, true, true, false, false])] 77 _ _ _ _ h

set_option maxRecDepth 20000 in
/-- FrameCounty$Weeks weeksWithSoldiers(II)I, from 0 -/
theorem vc_102_0 {G : ab_G} {L : Nat} {xs : Nat → Int32} {l : Launch} {d : Nat} {i0 : Int32} {i1 : Int32} {V : aa_V} {K : aa_K} (h :
    ab_J G (ac_ST L xs) l (d + 1) 102 4 [some (.int i0), some (.int i1), some (.int (0 : Int32)), some (.int (0 : Int32))] [] ac_SK V ac_SK K) :
    ab_E G (ac_ST L xs) l (d + 1) ac_SK 102 [.int i0, .int i1] V K := ab_wm cd_102_ok [(4, [true, true, true, true])] 10 _ _ _ _ h

set_option maxRecDepth 20000 in
/-- FrameCounty$Weeks weeksWithSoldiers(II)I, from 4 -/
theorem vc_102_4 {G : ab_G} {L : Nat} {xs : Nat → Int32} {l : Launch} {d : Nat} {i0 : Int32} {i1 : Int32} {i2 : Int32} {i3 : Int32} {V : aa_V} {K : aa_K} (h :
    (i3 < i1 →
      ab_E G (ac_ST L xs) l d ac_SK 98 [.int i3, .int i0, .int i1] V (aa_rI (fun x1 V1 =>
        (x1 = (1 : Int32) →
          ab_J G (ac_ST L xs) l (d + 1) 102 4 [some (.int i0), some (.int i1), some (.int (i2 + 1)), some (.int (i3 + 1))] [] ac_SK V1 ac_SK K) ∧
        (¬ x1 = (1 : Int32) →
          ab_J G (ac_ST L xs) l (d + 1) 102 4 [some (.int i0), some (.int i1), some (.int i2), some (.int (i3 + 1))] [] ac_SK V1 ac_SK K)))) ∧
    (¬ i3 < i1 →
      K (some (.int i2)) V)) :
    ab_J G (ac_ST L xs) l (d + 1) 102 4 [some (.int i0), some (.int i1), some (.int i2), some (.int i3)] [] ac_SK V ac_SK K := ab_wm cd_102_ok [(4, [true, true, true, true])] 23 _ _ _ _ h

set_option maxRecDepth 20000 in
/-- FrameCounty$Works canPay(I)Z, from 0 -/
theorem vc_104_0 {G : ab_G} {L : Nat} {xs : Nat → Int32} {l : Launch} {d : Nat} {i0 : Int32} {V : aa_V} {K : aa_K} (h :
    ab_E G (ac_ST L xs) l d ac_SK 182 [.int i0, .int (0 : Int32), .int (99 : Int32)] V (aa_rI (fun x1 V1 =>
      aa_bit x1 ∧ K (some (.int x1)) V1))) :
    ab_E G (ac_ST L xs) l (d + 1) ac_SK 104 [.int i0] V K := ab_wm cd_104_ok [] 10 _ _ _ _ h

set_option maxRecDepth 20000 in
/-- FrameCounty$Works isKind(I)Z, from 0 -/
theorem vc_105_0 {G : ab_G} {L : Nat} {xs : Nat → Int32} {l : Launch} {d : Nat} {i0 : Int32} {V : aa_V} {K : aa_K} (h :
    ab_E G (ac_ST L xs) l d ac_SK 182 [.int i0, .int (0 : Int32), .int (5 : Int32)] V (aa_rI (fun x1 V1 =>
      aa_bit x1 ∧ K (some (.int x1)) V1))) :
    ab_E G (ac_ST L xs) l (d + 1) ac_SK 105 [.int i0] V K := ab_wm cd_105_ok [] 10 _ _ _ _ h

set_option maxRecDepth 20000 in
/-- FrameCounty$Works canBeWide(I)Z, from 0 -/
theorem vc_106_0 {G : ab_G} {L : Nat} {xs : Nat → Int32} {l : Launch} {d : Nat} {i0 : Int32} {V : aa_V} {K : aa_K} (h :
    ab_E G (ac_ST L xs) l d ac_SK 182 [.int i0, .int (10 : Int32), .int (60 : Int32)] V (aa_rI (fun x1 V1 =>
      aa_bit x1 ∧ K (some (.int x1)) V1))) :
    ab_E G (ac_ST L xs) l (d + 1) ac_SK 106 [.int i0] V K := ab_wm cd_106_ok [] 10 _ _ _ _ h

set_option maxRecDepth 20000 in
/-- FrameCounty$Works isShop(I)Z, from 0 -/
theorem vc_107_0 {G : ab_G} {L : Nat} {xs : Nat → Int32} {l : Launch} {d : Nat} {i1 : Int32} {V : aa_V} {K : aa_K} (h :
    ab_E G (ac_ST L xs) l d ac_SK 182 [.int i1, .int (0 : Int32), .int ((V 29 0) - (1 : Int32))] V (aa_rI (fun x1 V1 =>
      aa_bit x1 ∧ K (some (.int x1)) V1))) :
    ab_E G (ac_ST L xs) l (d + 1) ac_SK 107 [.ref 29, .int i1] V K := ab_wm cd_107_ok [] 13 _ _ _ _ h

set_option maxRecDepth 20000 in
/-- FrameCounty$Works isFrame(I)Z, from 0 -/
theorem vc_108_0 {G : ab_G} {L : Nat} {xs : Nat → Int32} {l : Launch} {d : Nat} {i1 : Int32} {V : aa_V} {K : aa_K} (h :
    ab_E G (ac_ST L xs) l d ac_SK 182 [.int i1, .int (0 : Int32), .int ((V 29 3) - (1 : Int32))] V (aa_rI (fun x1 V1 =>
      aa_bit x1 ∧ K (some (.int x1)) V1))) :
    ab_E G (ac_ST L xs) l (d + 1) ac_SK 108 [.ref 29, .int i1] V K := ab_wm cd_108_ok [] 13 _ _ _ _ h

set_option maxRecDepth 20000 in
/-- FrameCounty$Works shops()I, from 0 -/
theorem vc_109_0 {G : ab_G} {L : Nat} {xs : Nat → Int32} {l : Launch} {d : Nat} {V : aa_V} {K : aa_K} (h :
    K (some (.int (V 29 0))) V) :
    ab_E G (ac_ST L xs) l (d + 1) ac_SK 109 [.ref 29] V K := ab_wm cd_109_ok [] 8 _ _ _ _ h

set_option maxRecDepth 20000 in
/-- FrameCounty$Works frames()I, from 0 -/
theorem vc_110_0 {G : ab_G} {L : Nat} {xs : Nat → Int32} {l : Launch} {d : Nat} {V : aa_V} {K : aa_K} (h :
    K (some (.int (V 29 3))) V) :
    ab_E G (ac_ST L xs) l (d + 1) ac_SK 110 [.ref 29] V K := ab_wm cd_110_ok [] 8 _ _ _ _ h

set_option maxRecDepth 20000 in
/-- FrameCounty$Works villageOf(I)I, from 0 -/
theorem vc_111_0 {G : ab_G} {L : Nat} {xs : Nat → Int32} {l : Launch} {d : Nat} {i1 : Int32} {V : aa_V} {K : aa_K} (h :
    vp_in i1 8 ∧
    K (some (.int (V 30 ((i1).toNatClampNeg)))) V) :
    ab_E G (ac_ST L xs) l (d + 1) ac_SK 111 [.ref 29, .int i1] V K := ab_wm cd_111_ok [] 10 _ _ _ _ h

set_option maxRecDepth 20000 in
/-- FrameCounty$Works paysOf(I)I, from 0 -/
theorem vc_112_0 {G : ab_G} {L : Nat} {xs : Nat → Int32} {l : Launch} {d : Nat} {i1 : Int32} {V : aa_V} {K : aa_K} (h :
    vp_in i1 8 ∧
    K (some (.int (V 31 ((i1).toNatClampNeg)))) V) :
    ab_E G (ac_ST L xs) l (d + 1) ac_SK 112 [.ref 29, .int i1] V K := ab_wm cd_112_ok [] 10 _ _ _ _ h

set_option maxRecDepth 20000 in
/-- FrameCounty$Works kindOf(I)I, from 0 -/
theorem vc_113_0 {G : ab_G} {L : Nat} {xs : Nat → Int32} {l : Launch} {d : Nat} {i1 : Int32} {V : aa_V} {K : aa_K} (h :
    vp_in i1 20 ∧
    K (some (.int (V 32 ((i1).toNatClampNeg)))) V) :
    ab_E G (ac_ST L xs) l (d + 1) ac_SK 113 [.ref 29, .int i1] V K := ab_wm cd_113_ok [] 10 _ _ _ _ h

set_option maxRecDepth 20000 in
/-- FrameCounty$Works shopOf(I)I, from 0 -/
theorem vc_114_0 {G : ab_G} {L : Nat} {xs : Nat → Int32} {l : Launch} {d : Nat} {i1 : Int32} {V : aa_V} {K : aa_K} (h :
    vp_in i1 20 ∧
    K (some (.int (V 33 ((i1).toNatClampNeg)))) V) :
    ab_E G (ac_ST L xs) l (d + 1) ac_SK 114 [.ref 29, .int i1] V K := ab_wm cd_114_ok [] 10 _ _ _ _ h

set_option maxRecDepth 20000 in
/-- FrameCounty$Works widthOf(I)I, from 0 -/
theorem vc_115_0 {G : ab_G} {L : Nat} {xs : Nat → Int32} {l : Launch} {d : Nat} {i1 : Int32} {V : aa_V} {K : aa_K} (h :
    vp_in i1 20 ∧
    K (some (.int (V 34 ((i1).toNatClampNeg)))) V) :
    ab_E G (ac_ST L xs) l (d + 1) ac_SK 115 [.ref 29, .int i1] V K := ab_wm cd_115_ok [] 10 _ _ _ _ h

set_option maxRecDepth 20000 in
/-- FrameCounty$Works isWhole(I)Z, from 0 -/
theorem vc_116_0 {G : ab_G} {L : Nat} {xs : Nat → Int32} {l : Launch} {d : Nat} {i1 : Int32} {V : aa_V} {K : aa_K} (h :
    vp_in i1 20 ∧
    ((V 36 ((i1).toNatClampNeg)) = 0 →
      aa_bit (1 : Int32) ∧ K (some (.int (1 : Int32))) V) ∧
    (¬ (V 36 ((i1).toNatClampNeg)) = 0 →
      aa_bit (0 : Int32) ∧ K (some (.int (0 : Int32))) V)) :
    ab_E G (ac_ST L xs) l (d + 1) ac_SK 116 [.ref 29, .int i1] V K := ab_wm cd_116_ok [] 15 _ _ _ _ h

set_option maxRecDepth 20000 in
/-- FrameCounty$Works addShop(II)I, from 0 -/
theorem vc_117_0 {G : ab_G} {L : Nat} {xs : Nat → Int32} {l : Launch} {d : Nat} {i1 : Int32} {i2 : Int32} {V : aa_V} {K : aa_K} (h :
    ((V 29 0) < (8 : Int32) →
      vp_in (V 29 0) 8 ∧
      vp_in (V 29 0) 8 ∧
      K (some (.int (((V 29 0) + (1 : Int32)) - (1 : Int32)))) (aa_up (aa_up (aa_up V 30 (((V 29 0)).toNatClampNeg) i1) 31 (((V 29 0)).toNatClampNeg) i2) 29 0 ((V 29 0) + (1 : Int32)))) ∧
    (¬ (V 29 0) < (8 : Int32) →
      K (some (.int (-4 : Int32))) V)) :
    ab_E G (ac_ST L xs) l (d + 1) ac_SK 117 [.ref 29, .int i1, .int i2] V K := ab_wm cd_117_ok [] 34 _ _ _ _ h

set_option maxRecDepth 20000 in
/-- FrameCounty$Works tellPays(II)I, from 0 -/
theorem vc_118_0 {G : ab_G} {L : Nat} {xs : Nat → Int32} {l : Launch} {d : Nat} {i1 : Int32} {i2 : Int32} {V : aa_V} {K : aa_K} (h :
    vp_in i1 8 ∧
    vp_in i1 8 ∧
    K (some (.int (V 31 ((i1).toNatClampNeg)))) (aa_up V 31 ((i1).toNatClampNeg) i2)) :
    ab_E G (ac_ST L xs) l (d + 1) ac_SK 118 [.ref 29, .int i1, .int i2] V K := ab_wm cd_118_ok [] 17 _ _ _ _ h

set_option maxRecDepth 20000 in
/-- FrameCounty$Works addFrame(IIII)I, from 0 -/
theorem vc_119_0 {G : ab_G} {L : Nat} {xs : Nat → Int32} {l : Launch} {d : Nat} {i1 : Int32} {i2 : Int32} {i3 : Int32} {i4 : Int32} {V : aa_V} {K : aa_K} (h :
    ((V 29 3) < (20 : Int32) →
      vp_in (V 29 3) 20 ∧
      vp_in (V 29 3) 20 ∧
      vp_in (V 29 3) 20 ∧
      vp_in (V 29 3) 20 ∧
      K (some (.int (((V 29 3) + (1 : Int32)) - (1 : Int32)))) (aa_up (aa_up (aa_up (aa_up (aa_up V 32 (((V 29 3)).toNatClampNeg) i1) 33 (((V 29 3)).toNatClampNeg) i2) 34 (((V 29 3)).toNatClampNeg) i3) 35 (((V 29 3)).toNatClampNeg) i4) 29 3 ((V 29 3) + (1 : Int32)))) ∧
    (¬ (V 29 3) < (20 : Int32) →
      K (some (.int (-4 : Int32))) V)) :
    ab_E G (ac_ST L xs) l (d + 1) ac_SK 119 [.ref 29, .int i1, .int i2, .int i3, .int i4] V K := ab_wm cd_119_ok [] 46 _ _ _ _ h

set_option maxRecDepth 20000 in
/-- FrameCounty$Works tellOf(II)J, from 0 -/
theorem vc_120_0 {G : ab_G} {L : Nat} {xs : Nat → Int32} {l : Launch} {d : Nat} {i1 : Int32} {i2 : Int32} {V : aa_V} {K : aa_K} (h :
    (i2 = 0 →
      vp_in i1 20 ∧
      K (some (.long ((V 32 ((i1).toNatClampNeg)).toInt64))) V) ∧
    (¬ i2 = 0 →
    (i2 = 1 →
      vp_in i1 20 ∧
      K (some (.long ((V 33 ((i1).toNatClampNeg)).toInt64))) V) ∧
    (¬ i2 = 1 →
    (i2 = 2 →
      vp_in i1 20 ∧
      K (some (.long ((V 34 ((i1).toNatClampNeg)).toInt64))) V) ∧
    (¬ i2 = 2 →
    (i2 = 3 →
      vp_in i1 20 ∧
      K (some (.long ((V 35 ((i1).toNatClampNeg)).toInt64))) V) ∧
    (¬ i2 = 3 →
    (i2 = 4 →
      vp_in i1 20 ∧
      K (some (.long ((V 36 ((i1).toNatClampNeg)).toInt64))) V) ∧
    (¬ i2 = 4 →
    (i2 = 5 →
      ab_E G (ac_ST L xs) l d ac_SK 126 [.ref 29, .int i1] V (aa_rI (fun x1 V1 =>
        K (some (.long (x1.toInt64))) V1))) ∧
    (¬ i2 = 5 →
    (i2 = 6 →
      ab_E G (ac_ST L xs) l d ac_SK 125 [.ref 29, .int i1] V (aa_rI (fun x1 V1 =>
        K (some (.long (x1.toInt64))) V1))) ∧
    (¬ i2 = 6 →
    (i2 = 7 →
      ab_E G (ac_ST L xs) l d ac_SK 127 [.ref 29, .int i1] V (aa_rI (fun x1 V1 =>
        K (some (.long (x1.toInt64))) V1))) ∧
    (¬ i2 = 7 →
    K (some (.long (-4611686018427387904 : Int64))) V))))))))) :
    ab_E G (ac_ST L xs) l (d + 1) ac_SK 120 [.ref 29, .int i1, .int i2] V K := ab_wm cd_120_ok [] 54 _ _ _ _ h

set_option maxRecDepth 20000 in
/-- FrameCounty$Works change(II)Z, from 0 -/
theorem vc_121_0 {G : ab_G} {L : Nat} {xs : Nat → Int32} {l : Launch} {d : Nat} {i1 : Int32} {i2 : Int32} {V : aa_V} {K : aa_K} (h :
    (i2 = 0 →
      vp_in i1 20 ∧
      ((V 36 ((i1).toNatClampNeg)) = (1 : Int32) →
        ((1 : Int32) = 0 →
          vp_in i1 20 ∧
          aa_bit (1 : Int32) ∧ K (some (.int (1 : Int32))) (aa_up V 36 ((i1).toNatClampNeg) (2 : Int32))) ∧
        (¬ (1 : Int32) = 0 →
          vp_in i1 20 ∧
          aa_bit (1 : Int32) ∧ K (some (.int (1 : Int32))) (aa_up V 36 ((i1).toNatClampNeg) (0 : Int32)))) ∧
      (¬ (V 36 ((i1).toNatClampNeg)) = (1 : Int32) →
        aa_bit (0 : Int32) ∧ K (some (.int (0 : Int32))) V)) ∧
    (¬ i2 = 0 →
      (i2 = (1 : Int32) →
        vp_in i1 20 ∧
        ((V 36 ((i1).toNatClampNeg)) = (2 : Int32) →
          ((2 : Int32) = 0 →
            vp_in i1 20 ∧
            aa_bit (1 : Int32) ∧ K (some (.int (1 : Int32))) (aa_up V 36 ((i1).toNatClampNeg) (2 : Int32))) ∧
          (¬ (2 : Int32) = 0 →
            vp_in i1 20 ∧
            aa_bit (1 : Int32) ∧ K (some (.int (1 : Int32))) (aa_up V 36 ((i1).toNatClampNeg) (0 : Int32)))) ∧
        (¬ (V 36 ((i1).toNatClampNeg)) = (2 : Int32) →
          aa_bit (0 : Int32) ∧ K (some (.int (0 : Int32))) V)) ∧
      (¬ i2 = (1 : Int32) →
        vp_in i1 20 ∧
        ((V 36 ((i1).toNatClampNeg)) = (0 : Int32) →
          ((0 : Int32) = 0 →
            vp_in i1 20 ∧
            aa_bit (1 : Int32) ∧ K (some (.int (1 : Int32))) (aa_up V 36 ((i1).toNatClampNeg) (2 : Int32))) ∧
          (¬ (0 : Int32) = 0 →
            vp_in i1 20 ∧
            aa_bit (1 : Int32) ∧ K (some (.int (1 : Int32))) (aa_up V 36 ((i1).toNatClampNeg) (0 : Int32)))) ∧
        (¬ (V 36 ((i1).toNatClampNeg)) = (0 : Int32) →
          aa_bit (0 : Int32) ∧ K (some (.int (0 : Int32))) V)))) :
    ab_E G (ac_ST L xs) l (d + 1) ac_SK 121 [.ref 29, .int i1, .int i2] V K := ab_wm cd_121_ok [] 84 _ _ _ _ h

set_option maxRecDepth 20000 in
/-- FrameCounty$Works breakDown(II)V, from 0 -/
theorem vc_122_0 {G : ab_G} {L : Nat} {xs : Nat → Int32} {l : Launch} {d : Nat} {i1 : Int32} {i2 : Int32} {V : aa_V} {K : aa_K} (h :
    vp_in i1 20 ∧
    vp_in i1 20 ∧
    K none (aa_up (aa_up V 36 ((i1).toNatClampNeg) (1 : Int32)) 37 ((i1).toNatClampNeg) i2)) :
    ab_E G (ac_ST L xs) l (d + 1) ac_SK 122 [.ref 29, .int i1, .int i2] V K := ab_wm cd_122_ok [] 16 _ _ _ _ h

set_option maxRecDepth 20000 in
/-- FrameCounty$Works framesThatAre(I)I, from 0 -/
theorem vc_123_0 {G : ab_G} {L : Nat} {xs : Nat → Int32} {l : Launch} {d : Nat} {i1 : Int32} {V : aa_V} {K : aa_K} (h :
    ab_J G (ac_ST L xs) l (d + 1) 123 4 [some (.ref 29), some (.int i1), some (.int (0 : Int32)), some (.int (0 : Int32))] [] ac_SK V ac_SK K) :
    ab_E G (ac_ST L xs) l (d + 1) ac_SK 123 [.ref 29, .int i1] V K := ab_wm cd_123_ok [(4, [true, true, true, true])] 10 _ _ _ _ h

set_option maxRecDepth 20000 in
/-- FrameCounty$Works framesThatAre(I)I, from 4 -/
theorem vc_123_4 {G : ab_G} {L : Nat} {xs : Nat → Int32} {l : Launch} {d : Nat} {i1 : Int32} {i2 : Int32} {i3 : Int32} {V : aa_V} {K : aa_K} (h :
    (i3 < (V 29 3) →
      vp_in i3 20 ∧
      ((V 36 ((i3).toNatClampNeg)) = i1 →
        ab_J G (ac_ST L xs) l (d + 1) 123 4 [some (.ref 29), some (.int i1), some (.int (i2 + 1)), some (.int (i3 + 1))] [] ac_SK V ac_SK K) ∧
      (¬ (V 36 ((i3).toNatClampNeg)) = i1 →
        ab_J G (ac_ST L xs) l (d + 1) 123 4 [some (.ref 29), some (.int i1), some (.int i2), some (.int (i3 + 1))] [] ac_SK V ac_SK K)) ∧
    (¬ i3 < (V 29 3) →
      K (some (.int i2)) V)) :
    ab_J G (ac_ST L xs) l (d + 1) 123 4 [some (.ref 29), some (.int i1), some (.int i2), some (.int i3)] [] ac_SK V ac_SK K := ab_wm cd_123_ok [(4, [true, true, true, true])] 24 _ _ _ _ h

set_option maxRecDepth 20000 in
/-- FrameCounty$Works isOfKind(II)Z, from 0 -/
theorem vc_124_0 {G : ab_G} {L : Nat} {xs : Nat → Int32} {l : Launch} {d : Nat} {i1 : Int32} {i2 : Int32} {V : aa_V} {K : aa_K} (h :
    vp_in i1 20 ∧
    ab_J G (ac_ST L xs) l (d + 1) 124 10 [none, none, some (.int i2), some (.int (V 32 ((i1).toNatClampNeg))), some (.int (0 : Int32))] [] ac_SK V ac_SK K) :
    ab_E G (ac_ST L xs) l (d + 1) ac_SK 124 [.ref 29, .int i1, .int i2] V K := ab_wm cd_124_ok [(10, [false, false, true, true, true])] 13 _ _ _ _ h

set_option maxRecDepth 20000 in
/-- FrameCounty$Works isOfKind(II)Z, from 10 -/
theorem vc_124_10 {G : ab_G} {L : Nat} {xs : Nat → Int32} {l : Launch} {d : Nat} {i2 : Int32} {i3 : Int32} {i4 : Int32} {V : aa_V} {K : aa_K} (h :
    (i4 < (6 : Int32) →
      (i3 = (-1 : Int32) →
        aa_bit (0 : Int32) ∧ K (some (.int (0 : Int32))) V) ∧
      (¬ i3 = (-1 : Int32) →
        (i3 = i2 →
          aa_bit (1 : Int32) ∧ K (some (.int (1 : Int32))) V) ∧
        (¬ i3 = i2 →
          vp_in i3 (ac_ST L xs 0).2.1 ∧
          ab_J G (ac_ST L xs) l (d + 1) 124 10 [none, none, some (.int i2), some (.int ((ac_ST L xs 0).2.2 (i3).toNatClampNeg)), some (.int (i4 + 1))] [] ac_SK V ac_SK K))) ∧
    (¬ i4 < (6 : Int32) →
      aa_bit (0 : Int32) ∧ K (some (.int (0 : Int32))) V)) :
    ab_J G (ac_ST L xs) l (d + 1) 124 10 [none, none, some (.int i2), some (.int i3), some (.int i4)] [] ac_SK V ac_SK K := ab_wm cd_124_ok [(10, [false, false, true, true, true])] 27 _ _ _ _ h

set_option maxRecDepth 20000 in
/-- FrameCounty$Works rentPaid(I)I, from 0 -/
theorem vc_125_0 {G : ab_G} {L : Nat} {xs : Nat → Int32} {l : Launch} {d : Nat} {i1 : Int32} {V : aa_V} {K : aa_K} (h :
    vp_in i1 20 ∧
    ((V 32 ((i1).toNatClampNeg)) = 2 →
      vp_in i1 20 ∧
      ¬ (2 : Int32) = 0 ∧
      K (some (.int ((V 35 ((i1).toNatClampNeg)) / (2 : Int32)))) V) ∧
    (¬ (V 32 ((i1).toNatClampNeg)) = 2 →
    ((V 32 ((i1).toNatClampNeg)) = 3 →
      vp_in i1 20 ∧
      K (some (.int ((V 35 ((i1).toNatClampNeg)) + (2 : Int32)))) V) ∧
    (¬ (V 32 ((i1).toNatClampNeg)) = 3 →
    ((V 32 ((i1).toNatClampNeg)) = 4 →
      vp_in i1 20 ∧
      ¬ (2 : Int32) = 0 ∧
      K (some (.int ((V 35 ((i1).toNatClampNeg)) / (2 : Int32)))) V) ∧
    (¬ (V 32 ((i1).toNatClampNeg)) = 4 →
    ((V 32 ((i1).toNatClampNeg)) = 5 →
      vp_in i1 20 ∧
      vp_in i1 20 ∧
      K (some (.int ((V 35 ((i1).toNatClampNeg)) + (V 34 ((i1).toNatClampNeg))))) V) ∧
    (¬ (V 32 ((i1).toNatClampNeg)) = 5 →
    vp_in i1 20 ∧
    K (some (.int (V 35 ((i1).toNatClampNeg)))) V))))) :
    ab_E G (ac_ST L xs) l (d + 1) ac_SK 125 [.ref 29, .int i1] V K := ab_wm cd_125_ok [] 46 _ _ _ _ h

set_option maxRecDepth 20000 in
/-- FrameCounty$Works makes(I)I, from 0 -/
theorem vc_126_0 {G : ab_G} {L : Nat} {xs : Nat → Int32} {l : Launch} {d : Nat} {i1 : Int32} {V : aa_V} {K : aa_K} (h :
    vp_in i1 20 ∧
    ¬ (10 : Int32) = 0 ∧
    vp_in i1 20 ∧
    ((V 32 ((i1).toNatClampNeg)) = 1 →
      K (some (.int (((V 34 ((i1).toNatClampNeg)) / (10 : Int32)) + (3 : Int32)))) V) ∧
    (¬ (V 32 ((i1).toNatClampNeg)) = 1 →
    ((V 32 ((i1).toNatClampNeg)) = 2 →
      K (some (.int (((V 34 ((i1).toNatClampNeg)) / (10 : Int32)) - (1 : Int32)))) V) ∧
    (¬ (V 32 ((i1).toNatClampNeg)) = 2 →
    ((V 32 ((i1).toNatClampNeg)) = 3 →
      K (some (.int ((((V 34 ((i1).toNatClampNeg)) / (10 : Int32)) + (3 : Int32)) * (2 : Int32)))) V) ∧
    (¬ (V 32 ((i1).toNatClampNeg)) = 3 →
    ((V 32 ((i1).toNatClampNeg)) = 4 →
      ¬ (2 : Int32) = 0 ∧
      K (some (.int ((((V 34 ((i1).toNatClampNeg)) / (10 : Int32)) - (1 : Int32)) / (2 : Int32)))) V) ∧
    (¬ (V 32 ((i1).toNatClampNeg)) = 4 →
    ((V 32 ((i1).toNatClampNeg)) = 5 →
      K (some (.int (((V 34 ((i1).toNatClampNeg)) / (10 : Int32)) * (4 : Int32)))) V) ∧
    (¬ (V 32 ((i1).toNatClampNeg)) = 5 →
    K (some (.int ((V 34 ((i1).toNatClampNeg)) / (10 : Int32)))) V)))))) :
    ab_E G (ac_ST L xs) l (d + 1) ac_SK 126 [.ref 29, .int i1] V K := ab_wm cd_126_ok [] 43 _ _ _ _ h

set_option maxRecDepth 20000 in
/-- FrameCounty$Works earned(I)I, from 0 -/
theorem vc_127_0 {G : ab_G} {L : Nat} {xs : Nat → Int32} {l : Launch} {d : Nat} {i1 : Int32} {V : aa_V} {K : aa_K} (h :
    vp_in i1 20 ∧
    ((V 36 ((i1).toNatClampNeg)) = 0 →
      ab_E G (ac_ST L xs) l d ac_SK 126 [.ref 29, .int i1] V (aa_rI (fun x1 V1 =>
        vp_in i1 20 ∧
        vp_in (V1 33 ((i1).toNatClampNeg)) 8 ∧
        ab_E G (ac_ST L xs) l d ac_SK 125 [.ref 29, .int i1] V1 (aa_rI (fun x2 V2 =>
          K (some (.int ((x1 * (V1 31 (((V1 33 ((i1).toNatClampNeg))).toNatClampNeg))) - x2))) V2))))) ∧
    (¬ (V 36 ((i1).toNatClampNeg)) = 0 →
      ab_E G (ac_ST L xs) l d ac_SK 125 [.ref 29, .int i1] V (aa_rI (fun x1 V1 =>
        K (some (.int ((0 : Int32) - x1))) V1)))) :
    ab_E G (ac_ST L xs) l (d + 1) ac_SK 127 [.ref 29, .int i1] V K := ab_wm cd_127_ok [] 37 _ _ _ _ h

set_option maxRecDepth 20000 in
/-- FrameCounty$Works earnedBy(I)I, from 0 -/
theorem vc_128_0 {G : ab_G} {L : Nat} {xs : Nat → Int32} {l : Launch} {d : Nat} {i1 : Int32} {V : aa_V} {K : aa_K} (h :
    ab_J G (ac_ST L xs) l (d + 1) 128 4 [some (.ref 29), some (.int i1), some (.int (0 : Int32)), some (.int (0 : Int32))] [] ac_SK V ac_SK K) :
    ab_E G (ac_ST L xs) l (d + 1) ac_SK 128 [.ref 29, .int i1] V K := ab_wm cd_128_ok [(4, [true, true, true, true])] 10 _ _ _ _ h

set_option maxRecDepth 20000 in
/-- FrameCounty$Works earnedBy(I)I, from 4 -/
theorem vc_128_4 {G : ab_G} {L : Nat} {xs : Nat → Int32} {l : Launch} {d : Nat} {i1 : Int32} {i2 : Int32} {i3 : Int32} {V : aa_V} {K : aa_K} (h :
    (i3 < (V 29 3) →
      vp_in i3 20 ∧
      ((V 33 ((i3).toNatClampNeg)) = i1 →
        ab_E G (ac_ST L xs) l d ac_SK 127 [.ref 29, .int i3] V (aa_rI (fun x1 V1 =>
          ab_J G (ac_ST L xs) l (d + 1) 128 4 [some (.ref 29), some (.int i1), some (.int (i2 + x1)), some (.int (i3 + 1))] [] ac_SK V1 ac_SK K))) ∧
      (¬ (V 33 ((i3).toNatClampNeg)) = i1 →
        ab_J G (ac_ST L xs) l (d + 1) 128 4 [some (.ref 29), some (.int i1), some (.int i2), some (.int (i3 + 1))] [] ac_SK V ac_SK K)) ∧
    (¬ i3 < (V 29 3) →
      K (some (.int i2)) V)) :
    ab_J G (ac_ST L xs) l (d + 1) 128 4 [some (.ref 29), some (.int i1), some (.int i2), some (.int i3)] [] ac_SK V ac_SK K := ab_wm cd_128_ok [(4, [true, true, true, true])] 29 _ _ _ _ h

set_option maxRecDepth 20000 in
/-- FrameCounty$Works struckIn(I)I, from 0 -/
theorem vc_129_0 {G : ab_G} {L : Nat} {xs : Nat → Int32} {l : Launch} {d : Nat} {i1 : Int32} {V : aa_V} {K : aa_K} (h :
    ab_J G (ac_ST L xs) l (d + 1) 129 4 [some (.ref 29), some (.int i1), some (.int (0 : Int32)), some (.int (0 : Int32))] [] ac_SK V ac_SK K) :
    ab_E G (ac_ST L xs) l (d + 1) ac_SK 129 [.ref 29, .int i1] V K := ab_wm cd_129_ok [(4, [true, true, true, true])] 10 _ _ _ _ h

set_option maxRecDepth 20000 in
/-- FrameCounty$Works struckIn(I)I, from 4 -/
theorem vc_129_4 {G : ab_G} {L : Nat} {xs : Nat → Int32} {l : Launch} {d : Nat} {i1 : Int32} {i2 : Int32} {i3 : Int32} {V : aa_V} {K : aa_K} (h :
    (i3 < (V 29 3) →
      vp_in i3 20 ∧
      ((V 36 ((i3).toNatClampNeg)) = (1 : Int32) →
        vp_in i3 20 ∧
        ((V 37 ((i3).toNatClampNeg)) = i1 →
          ab_J G (ac_ST L xs) l (d + 1) 129 4 [some (.ref 29), some (.int i1), some (.int (i2 ||| ((1 : Int32) <<< (i3 &&& 31)))), some (.int (i3 + 1))] [] ac_SK V ac_SK K) ∧
        (¬ (V 37 ((i3).toNatClampNeg)) = i1 →
          ab_J G (ac_ST L xs) l (d + 1) 129 4 [some (.ref 29), some (.int i1), some (.int i2), some (.int (i3 + 1))] [] ac_SK V ac_SK K)) ∧
      (¬ (V 36 ((i3).toNatClampNeg)) = (1 : Int32) →
        ab_J G (ac_ST L xs) l (d + 1) 129 4 [some (.ref 29), some (.int i1), some (.int i2), some (.int (i3 + 1))] [] ac_SK V ac_SK K)) ∧
    (¬ i3 < (V 29 3) →
      K (some (.int i2)) V)) :
    ab_J G (ac_ST L xs) l (d + 1) 129 4 [some (.ref 29), some (.int i1), some (.int i2), some (.int i3)] [] ac_SK V ac_SK K := ab_wm cd_129_ok [(4, [true, true, true, true])] 38 _ _ _ _ h

set_option maxRecDepth 20000 in
/-- FrameCounty$Works sparedBy(I)I, from 0 -/
theorem vc_130_0 {G : ab_G} {L : Nat} {xs : Nat → Int32} {l : Launch} {d : Nat} {i1 : Int32} {V : aa_V} {K : aa_K} (h :
    ab_E G (ac_ST L xs) l d ac_SK 131 [.ref 29, .int i1] V (aa_rI (fun x1 V1 =>
      ab_J G (ac_ST L xs) l (d + 1) 130 11 [some (.ref 29), none, some (.int x1), some (.int (0 : Int32)), some (.int (0 : Int32))] [] ac_SK V1 ac_SK K))) :
    ab_E G (ac_ST L xs) l (d + 1) ac_SK 130 [.ref 29, .int i1] V K := ab_wm cd_130_ok [(11, [true, false, true, true, true])] 14 _ _ _ _ h

set_option maxRecDepth 20000 in
/-- FrameCounty$Works sparedBy(I)I, from 11 -/
theorem vc_130_11 {G : ab_G} {L : Nat} {xs : Nat → Int32} {l : Launch} {d : Nat} {i2 : Int32} {i3 : Int32} {i4 : Int32} {V : aa_V} {K : aa_K} (h :
    (i4 < (V 29 3) →
      vp_in i4 20 ∧
      ((V 36 ((i4).toNatClampNeg)) = 0 →
        vp_in i4 20 ∧
        (((i2 >>> ((V 33 ((i4).toNatClampNeg)) &&& 31)) &&& (1 : Int32)) = (1 : Int32) →
          ab_J G (ac_ST L xs) l (d + 1) 130 11 [some (.ref 29), none, some (.int i2), some (.int (i3 ||| ((1 : Int32) <<< (i4 &&& 31)))), some (.int (i4 + 1))] [] ac_SK V ac_SK K) ∧
        (¬ ((i2 >>> ((V 33 ((i4).toNatClampNeg)) &&& 31)) &&& (1 : Int32)) = (1 : Int32) →
          ab_J G (ac_ST L xs) l (d + 1) 130 11 [some (.ref 29), none, some (.int i2), some (.int i3), some (.int (i4 + 1))] [] ac_SK V ac_SK K)) ∧
      (¬ (V 36 ((i4).toNatClampNeg)) = 0 →
        ab_J G (ac_ST L xs) l (d + 1) 130 11 [some (.ref 29), none, some (.int i2), some (.int i3), some (.int (i4 + 1))] [] ac_SK V ac_SK K)) ∧
    (¬ i4 < (V 29 3) →
      K (some (.int i3)) V)) :
    ab_J G (ac_ST L xs) l (d + 1) 130 11 [some (.ref 29), none, some (.int i2), some (.int i3), some (.int i4)] [] ac_SK V ac_SK K := ab_wm cd_130_ok [(11, [true, false, true, true, true])] 41 _ _ _ _ h

set_option maxRecDepth 20000 in
/-- FrameCounty$Works shopsWith(I)I, from 0 -/
theorem vc_131_0 {G : ab_G} {L : Nat} {xs : Nat → Int32} {l : Launch} {d : Nat} {i1 : Int32} {V : aa_V} {K : aa_K} (h :
    ab_J G (ac_ST L xs) l (d + 1) 131 4 [some (.ref 29), some (.int i1), some (.int (0 : Int32)), some (.int (0 : Int32))] [] ac_SK V ac_SK K) :
    ab_E G (ac_ST L xs) l (d + 1) ac_SK 131 [.ref 29, .int i1] V K := ab_wm cd_131_ok [(4, [true, true, true, true])] 10 _ _ _ _ h

set_option maxRecDepth 20000 in
/-- FrameCounty$Works shopsWith(I)I, from 4 -/
theorem vc_131_4 {G : ab_G} {L : Nat} {xs : Nat → Int32} {l : Launch} {d : Nat} {i1 : Int32} {i2 : Int32} {i3 : Int32} {V : aa_V} {K : aa_K} (h :
    (i3 < (V 29 3) →
      (((i1 >>> (i3 &&& 31)) &&& (1 : Int32)) = (1 : Int32) →
        vp_in i3 20 ∧
        ab_J G (ac_ST L xs) l (d + 1) 131 4 [some (.ref 29), some (.int i1), some (.int (i2 ||| ((1 : Int32) <<< ((V 33 ((i3).toNatClampNeg)) &&& 31)))), some (.int (i3 + 1))] [] ac_SK V ac_SK K) ∧
      (¬ ((i1 >>> (i3 &&& 31)) &&& (1 : Int32)) = (1 : Int32) →
        ab_J G (ac_ST L xs) l (d + 1) 131 4 [some (.ref 29), some (.int i1), some (.int i2), some (.int (i3 + 1))] [] ac_SK V ac_SK K)) ∧
    (¬ i3 < (V 29 3) →
      K (some (.int i2)) V)) :
    ab_J G (ac_ST L xs) l (d + 1) 131 4 [some (.ref 29), some (.int i1), some (.int i2), some (.int i3)] [] ac_SK V ac_SK K := ab_wm cd_131_ok [(4, [true, true, true, true])] 33 _ _ _ _ h

set_option maxRecDepth 20000 in
/-- FrameCounty$Works fits(II)Z, from 0 -/
theorem vc_132_0 {G : ab_G} {L : Nat} {xs : Nat → Int32} {l : Launch} {d : Nat} {i1 : Int32} {i2 : Int32} {V : aa_V} {K : aa_K} (h :
    ¬ (300 : Int32) = 0 ∧
    ab_E G (ac_ST L xs) l d ac_SK 133 [.ref 29, .int (i1 / (300 : Int32)), .int i2] V (aa_rI (fun x1 V1 =>
      ¬ (100 : Int32) = 0 ∧
      ¬ (100 : Int32) = 0 ∧
      ¬ (3 : Int32) = 0 ∧
      (((i1 / (100 : Int32)) - (i1 / (100 : Int32)) / (3 : Int32) * (3 : Int32)) = 0 →
        (x1 < (i1 - i1 / (100 : Int32) * (100 : Int32)) →
          aa_bit (1 : Int32) ∧ K (some (.int (1 : Int32))) V1) ∧
        (¬ x1 < (i1 - i1 / (100 : Int32) * (100 : Int32)) →
          aa_bit (0 : Int32) ∧ K (some (.int (0 : Int32))) V1)) ∧
      (¬ ((i1 / (100 : Int32)) - (i1 / (100 : Int32)) / (3 : Int32) * (3 : Int32)) = 0 →
      (((i1 / (100 : Int32)) - (i1 / (100 : Int32)) / (3 : Int32) * (3 : Int32)) = 1 →
        (x1 = (i1 - i1 / (100 : Int32) * (100 : Int32)) →
          aa_bit (1 : Int32) ∧ K (some (.int (1 : Int32))) V1) ∧
        (¬ x1 = (i1 - i1 / (100 : Int32) * (100 : Int32)) →
          aa_bit (0 : Int32) ∧ K (some (.int (0 : Int32))) V1)) ∧
      (¬ ((i1 / (100 : Int32)) - (i1 / (100 : Int32)) / (3 : Int32) * (3 : Int32)) = 1 →
      ((i1 - i1 / (100 : Int32) * (100 : Int32)) < x1 →
        aa_bit (1 : Int32) ∧ K (some (.int (1 : Int32))) V1) ∧
      (¬ (i1 - i1 / (100 : Int32) * (100 : Int32)) < x1 →
        aa_bit (0 : Int32) ∧ K (some (.int (0 : Int32))) V1)))))) :
    ab_E G (ac_ST L xs) l (d + 1) ac_SK 132 [.ref 29, .int i1, .int i2] V K := ab_wm cd_132_ok [] 46 _ _ _ _ h

set_option maxRecDepth 20000 in
/-- FrameCounty$Works fieldOf(II)I, from 0 -/
theorem vc_133_0 {G : ab_G} {L : Nat} {xs : Nat → Int32} {l : Launch} {d : Nat} {i1 : Int32} {i2 : Int32} {V : aa_V} {K : aa_K} (h :
    (i1 = 0 →
      vp_in i2 20 ∧
      K (some (.int (V 34 ((i2).toNatClampNeg)))) V) ∧
    (¬ i1 = 0 →
    (i1 = 1 →
      vp_in i2 20 ∧
      K (some (.int (V 35 ((i2).toNatClampNeg)))) V) ∧
    (¬ i1 = 1 →
    (i1 = 2 →
      vp_in i2 20 ∧
      K (some (.int (V 32 ((i2).toNatClampNeg)))) V) ∧
    (¬ i1 = 2 →
    (i1 = 3 →
      vp_in i2 20 ∧
      vp_in (V 33 ((i2).toNatClampNeg)) 8 ∧
      K (some (.int (V 31 (((V 33 ((i2).toNatClampNeg))).toNatClampNeg)))) V) ∧
    (¬ i1 = 3 →
    vp_in i2 20 ∧
    vp_in (V 33 ((i2).toNatClampNeg)) 8 ∧
    K (some (.int (V 30 (((V 33 ((i2).toNatClampNeg))).toNatClampNeg)))) V))))) :
    ab_E G (ac_ST L xs) l (d + 1) ac_SK 133 [.ref 29, .int i1, .int i2] V K := ab_wm cd_133_ok [] 38 _ _ _ _ h

set_option maxRecDepth 20000 in
/-- FrameCounty$Works parts(III)Z, from 0 -/
theorem vc_134_0 {G : ab_G} {L : Nat} {xs : Nat → Int32} {l : Launch} {d : Nat} {i1 : Int32} {i2 : Int32} {i3 : Int32} {V : aa_V} {K : aa_K} (h :
    (i2 = 0 →
      aa_bit (0 : Int32) ∧ K (some (.int (0 : Int32))) V) ∧
    (¬ i2 = 0 →
      ab_J G (ac_ST L xs) l (d + 1) 134 9 [some (.ref 29), some (.int i1), some (.int i2), some (.int i3), some (.int (0 : Int32)), none, none] [] ac_SK V ac_SK K)) :
    ab_E G (ac_ST L xs) l (d + 1) ac_SK 134 [.ref 29, .int i1, .int i2, .int i3] V K := ab_wm cd_134_ok [(9, [true, true, true, true, true, false, false])] 12 _ _ _ _ h

set_option maxRecDepth 20000 in
/-- FrameCounty$Works parts(III)Z, from 9 -/
theorem vc_134_9 {G : ab_G} {L : Nat} {xs : Nat → Int32} {l : Launch} {d : Nat} {i1 : Int32} {i2 : Int32} {i3 : Int32} {i4 : Int32} {V : aa_V} {K : aa_K} (h :
    (i4 < (V 29 3) →
      (((i2 >>> (i4 &&& 31)) &&& (1 : Int32)) = (1 : Int32) →
        (((i3 >>> (i4 &&& 31)) &&& (1 : Int32)) = (1 : Int32) →
          ((1 : Int32) = 0 →
            ((1 : Int32) = 0 →
              ab_J G (ac_ST L xs) l (d + 1) 134 9 [some (.ref 29), some (.int i1), some (.int i2), some (.int i3), some (.int (i4 + 1)), none, none] [] ac_SK V ac_SK K) ∧
            (¬ (1 : Int32) = 0 →
              ab_E G (ac_ST L xs) l d ac_SK 132 [.ref 29, .int i1, .int i4] V (aa_rI (fun x1 V1 =>
                (x1 = (1 : Int32) →
                  ab_J G (ac_ST L xs) l (d + 1) 134 9 [some (.ref 29), some (.int i1), some (.int i2), some (.int i3), some (.int (i4 + 1)), none, none] [] ac_SK V1 ac_SK K) ∧
                (¬ x1 = (1 : Int32) →
                  aa_bit (0 : Int32) ∧ K (some (.int (0 : Int32))) V1))))) ∧
          (¬ (1 : Int32) = 0 →
            ab_E G (ac_ST L xs) l d ac_SK 132 [.ref 29, .int i1, .int i4] V (aa_rI (fun x1 V1 =>
              (x1 = (1 : Int32) →
                ab_J G (ac_ST L xs) l (d + 1) 134 9 [some (.ref 29), some (.int i1), some (.int i2), some (.int i3), some (.int (i4 + 1)), none, none] [] ac_SK V1 ac_SK K) ∧
              (¬ x1 = (1 : Int32) →
                aa_bit (0 : Int32) ∧ K (some (.int (0 : Int32))) V1))))) ∧
        (¬ ((i3 >>> (i4 &&& 31)) &&& (1 : Int32)) = (1 : Int32) →
          ((1 : Int32) = 0 →
            ((0 : Int32) = 0 →
              ab_J G (ac_ST L xs) l (d + 1) 134 9 [some (.ref 29), some (.int i1), some (.int i2), some (.int i3), some (.int (i4 + 1)), none, none] [] ac_SK V ac_SK K) ∧
            (¬ (0 : Int32) = 0 →
              ab_E G (ac_ST L xs) l d ac_SK 132 [.ref 29, .int i1, .int i4] V (aa_rI (fun x1 V1 =>
                (x1 = (1 : Int32) →
                  ab_J G (ac_ST L xs) l (d + 1) 134 9 [some (.ref 29), some (.int i1), some (.int i2), some (.int i3), some (.int (i4 + 1)), none, none] [] ac_SK V1 ac_SK K) ∧
                (¬ x1 = (1 : Int32) →
                  aa_bit (0 : Int32) ∧ K (some (.int (0 : Int32))) V1))))) ∧
          (¬ (1 : Int32) = 0 →
            ab_E G (ac_ST L xs) l d ac_SK 132 [.ref 29, .int i1, .int i4] V (aa_rI (fun x1 V1 =>
              (x1 = (1 : Int32) →
                ab_J G (ac_ST L xs) l (d + 1) 134 9 [some (.ref 29), some (.int i1), some (.int i2), some (.int i3), some (.int (i4 + 1)), none, none] [] ac_SK V1 ac_SK K) ∧
              (¬ x1 = (1 : Int32) →
                aa_bit (0 : Int32) ∧ K (some (.int (0 : Int32))) V1)))))) ∧
      (¬ ((i2 >>> (i4 &&& 31)) &&& (1 : Int32)) = (1 : Int32) →
        (((i3 >>> (i4 &&& 31)) &&& (1 : Int32)) = (1 : Int32) →
          ((0 : Int32) = 0 →
            ((1 : Int32) = 0 →
              ab_J G (ac_ST L xs) l (d + 1) 134 9 [some (.ref 29), some (.int i1), some (.int i2), some (.int i3), some (.int (i4 + 1)), none, none] [] ac_SK V ac_SK K) ∧
            (¬ (1 : Int32) = 0 →
              ab_E G (ac_ST L xs) l d ac_SK 132 [.ref 29, .int i1, .int i4] V (aa_rI (fun x1 V1 =>
                (x1 = (0 : Int32) →
                  ab_J G (ac_ST L xs) l (d + 1) 134 9 [some (.ref 29), some (.int i1), some (.int i2), some (.int i3), some (.int (i4 + 1)), none, none] [] ac_SK V1 ac_SK K) ∧
                (¬ x1 = (0 : Int32) →
                  aa_bit (0 : Int32) ∧ K (some (.int (0 : Int32))) V1))))) ∧
          (¬ (0 : Int32) = 0 →
            ab_E G (ac_ST L xs) l d ac_SK 132 [.ref 29, .int i1, .int i4] V (aa_rI (fun x1 V1 =>
              (x1 = (0 : Int32) →
                ab_J G (ac_ST L xs) l (d + 1) 134 9 [some (.ref 29), some (.int i1), some (.int i2), some (.int i3), some (.int (i4 + 1)), none, none] [] ac_SK V1 ac_SK K) ∧
              (¬ x1 = (0 : Int32) →
                aa_bit (0 : Int32) ∧ K (some (.int (0 : Int32))) V1))))) ∧
        (¬ ((i3 >>> (i4 &&& 31)) &&& (1 : Int32)) = (1 : Int32) →
          ((0 : Int32) = 0 →
            ((0 : Int32) = 0 →
              ab_J G (ac_ST L xs) l (d + 1) 134 9 [some (.ref 29), some (.int i1), some (.int i2), some (.int i3), some (.int (i4 + 1)), none, none] [] ac_SK V ac_SK K) ∧
            (¬ (0 : Int32) = 0 →
              ab_E G (ac_ST L xs) l d ac_SK 132 [.ref 29, .int i1, .int i4] V (aa_rI (fun x1 V1 =>
                (x1 = (0 : Int32) →
                  ab_J G (ac_ST L xs) l (d + 1) 134 9 [some (.ref 29), some (.int i1), some (.int i2), some (.int i3), some (.int (i4 + 1)), none, none] [] ac_SK V1 ac_SK K) ∧
                (¬ x1 = (0 : Int32) →
                  aa_bit (0 : Int32) ∧ K (some (.int (0 : Int32))) V1))))) ∧
          (¬ (0 : Int32) = 0 →
            ab_E G (ac_ST L xs) l d ac_SK 132 [.ref 29, .int i1, .int i4] V (aa_rI (fun x1 V1 =>
              (x1 = (0 : Int32) →
                ab_J G (ac_ST L xs) l (d + 1) 134 9 [some (.ref 29), some (.int i1), some (.int i2), some (.int i3), some (.int (i4 + 1)), none, none] [] ac_SK V1 ac_SK K) ∧
              (¬ x1 = (0 : Int32) →
                aa_bit (0 : Int32) ∧ K (some (.int (0 : Int32))) V1))))))) ∧
    (¬ i4 < (V 29 3) →
      aa_bit (1 : Int32) ∧ K (some (.int (1 : Int32))) V)) :
    ab_J G (ac_ST L xs) l (d + 1) 134 9 [some (.ref 29), some (.int i1), some (.int i2), some (.int i3), some (.int i4), none, none] [] ac_SK V ac_SK K := ab_wm cd_134_ok [(9, [true, true, true, true, true, false, false])] 163 _ _ _ _ h

set_option maxRecDepth 20000 in
/-- FrameCounty$Works nextShop(II)I, from 0 -/
theorem vc_135_0 {G : ab_G} {L : Nat} {xs : Nat → Int32} {l : Launch} {d : Nat} {i1 : Int32} {i2 : Int32} {V : aa_V} {K : aa_K} (h :
    ab_E G (ac_ST L xs) l d ac_SK 131 [.ref 29, .int i2] V (aa_rI (fun x1 V1 =>
      ab_J G (ac_ST L xs) l (d + 1) 135 15 [some (.ref 29), some (.int i1), none, some (.int x1), some (.int (-1 : Int32)), some (.int (0 : Int32)), some (.int (0 : Int32)), none] [] ac_SK V1 ac_SK K))) :
    ab_E G (ac_ST L xs) l (d + 1) ac_SK 135 [.ref 29, .int i1, .int i2] V K := ab_wm cd_135_ok [(15, [true, true, false, true, true, true, true, false])] 16 _ _ _ _ h

set_option maxRecDepth 20000 in
/-- FrameCounty$Works nextShop(II)I, from 15 -/
theorem vc_135_15 {G : ab_G} {L : Nat} {xs : Nat → Int32} {l : Launch} {d : Nat} {i1 : Int32} {i3 : Int32} {i4 : Int32} {i5 : Int32} {i6 : Int32} {V : aa_V} {K : aa_K} (h :
    (i6 < (V 29 0) →
      (((i3 >>> (i6 &&& 31)) &&& (1 : Int32)) = (1 : Int32) →
        (i5 < (0 : Int32) →
          ab_J G (ac_ST L xs) l (d + 1) 135 15 [some (.ref 29), some (.int i1), none, some (.int i3), some (.int i6), some (.int (0 : Int32)), some (.int (i6 + 1)), none] [] ac_SK V ac_SK K) ∧
        (¬ i5 < (0 : Int32) →
          ab_J G (ac_ST L xs) l (d + 1) 135 15 [some (.ref 29), some (.int i1), none, some (.int i3), some (.int i4), some (.int i5), some (.int (i6 + 1)), none] [] ac_SK V ac_SK K)) ∧
      (¬ ((i3 >>> (i6 &&& 31)) &&& (1 : Int32)) = (1 : Int32) →
        ab_E G (ac_ST L xs) l d ac_SK 136 [.ref 29, .int i1, .int i6] V (aa_rI (fun x1 V1 =>
          (i5 < x1 →
            ab_J G (ac_ST L xs) l (d + 1) 135 15 [some (.ref 29), some (.int i1), none, some (.int i3), some (.int i6), some (.int x1), some (.int (i6 + 1)), none] [] ac_SK V1 ac_SK K) ∧
          (¬ i5 < x1 →
            ab_J G (ac_ST L xs) l (d + 1) 135 15 [some (.ref 29), some (.int i1), none, some (.int i3), some (.int i4), some (.int i5), some (.int (i6 + 1)), none] [] ac_SK V1 ac_SK K))))) ∧
    (¬ i6 < (V 29 0) →
      K (some (.int i4)) V)) :
    ab_J G (ac_ST L xs) l (d + 1) 135 15 [some (.ref 29), some (.int i1), none, some (.int i3), some (.int i4), some (.int i5), some (.int i6), none] [] ac_SK V ac_SK K := ab_wm cd_135_ok [(15, [true, true, false, true, true, true, true, false])] 52 _ _ _ _ h

set_option maxRecDepth 20000 in
/-- FrameCounty$Works wholeThatFit(II)I, from 0 -/
theorem vc_136_0 {G : ab_G} {L : Nat} {xs : Nat → Int32} {l : Launch} {d : Nat} {i1 : Int32} {i2 : Int32} {V : aa_V} {K : aa_K} (h :
    ab_J G (ac_ST L xs) l (d + 1) 136 5 [some (.ref 29), some (.int i1), some (.int i2), some (.int (0 : Int32)), some (.int (0 : Int32))] [] ac_SK V ac_SK K) :
    ab_E G (ac_ST L xs) l (d + 1) ac_SK 136 [.ref 29, .int i1, .int i2] V K := ab_wm cd_136_ok [(5, [true, true, true, true, true])] 10 _ _ _ _ h

set_option maxRecDepth 20000 in
/-- FrameCounty$Works wholeThatFit(II)I, from 5 -/
theorem vc_136_5 {G : ab_G} {L : Nat} {xs : Nat → Int32} {l : Launch} {d : Nat} {i1 : Int32} {i2 : Int32} {i3 : Int32} {i4 : Int32} {V : aa_V} {K : aa_K} (h :
    (i4 < (V 29 3) →
      vp_in i4 20 ∧
      ((V 33 ((i4).toNatClampNeg)) = i2 →
        vp_in i4 20 ∧
        ((V 36 ((i4).toNatClampNeg)) = 0 →
          ab_E G (ac_ST L xs) l d ac_SK 132 [.ref 29, .int i1, .int i4] V (aa_rI (fun x1 V1 =>
            (x1 = 0 →
              ab_J G (ac_ST L xs) l (d + 1) 136 5 [some (.ref 29), some (.int i1), some (.int i2), some (.int i3), some (.int (i4 + 1))] [] ac_SK V1 ac_SK K) ∧
            (¬ x1 = 0 →
              ab_J G (ac_ST L xs) l (d + 1) 136 5 [some (.ref 29), some (.int i1), some (.int i2), some (.int (i3 + 1)), some (.int (i4 + 1))] [] ac_SK V1 ac_SK K)))) ∧
        (¬ (V 36 ((i4).toNatClampNeg)) = 0 →
          ab_J G (ac_ST L xs) l (d + 1) 136 5 [some (.ref 29), some (.int i1), some (.int i2), some (.int i3), some (.int (i4 + 1))] [] ac_SK V ac_SK K)) ∧
      (¬ (V 33 ((i4).toNatClampNeg)) = i2 →
        ab_J G (ac_ST L xs) l (d + 1) 136 5 [some (.ref 29), some (.int i1), some (.int i2), some (.int i3), some (.int (i4 + 1))] [] ac_SK V ac_SK K)) ∧
    (¬ i4 < (V 29 3) →
      K (some (.int i3)) V)) :
    ab_J G (ac_ST L xs) l (d + 1) 136 5 [some (.ref 29), some (.int i1), some (.int i2), some (.int i3), some (.int i4)] [] ac_SK V ac_SK K := ab_wm cd_136_ok [(5, [true, true, true, true, true])] 40 _ _ _ _ h

set_option maxRecDepth 20000 in
/-- java/lang/Integer bitCount(I)I, from 0 -/
theorem vc_285_0 {G : ab_G} {L : Nat} {xs : Nat → Int32} {l : Launch} {d : Nat} {i0 : Int32} {V : aa_V} {K : aa_K} (h :
    K (some (.int ((((((((i0 - (((i0.toUInt32 >>> ((1 : Int32).toUInt32 &&& Int32.toUInt32 31)).toInt32) &&& (1431655765 : Int32))) &&& (858993459 : Int32)) + ((((i0 - (((i0.toUInt32 >>> ((1 : Int32).toUInt32 &&& Int32.toUInt32 31)).toInt32) &&& (1431655765 : Int32))).toUInt32 >>> ((2 : Int32).toUInt32 &&& Int32.toUInt32 31)).toInt32) &&& (858993459 : Int32))) + (((((i0 - (((i0.toUInt32 >>> ((1 : Int32).toUInt32 &&& Int32.toUInt32 31)).toInt32) &&& (1431655765 : Int32))) &&& (858993459 : Int32)) + ((((i0 - (((i0.toUInt32 >>> ((1 : Int32).toUInt32 &&& Int32.toUInt32 31)).toInt32) &&& (1431655765 : Int32))).toUInt32 >>> ((2 : Int32).toUInt32 &&& Int32.toUInt32 31)).toInt32) &&& (858993459 : Int32))).toUInt32 >>> ((4 : Int32).toUInt32 &&& Int32.toUInt32 31)).toInt32)) &&& (252645135 : Int32)) + (((((((i0 - (((i0.toUInt32 >>> ((1 : Int32).toUInt32 &&& Int32.toUInt32 31)).toInt32) &&& (1431655765 : Int32))) &&& (858993459 : Int32)) + ((((i0 - (((i0.toUInt32 >>> ((1 : Int32).toUInt32 &&& Int32.toUInt32 31)).toInt32) &&& (1431655765 : Int32))).toUInt32 >>> ((2 : Int32).toUInt32 &&& Int32.toUInt32 31)).toInt32) &&& (858993459 : Int32))) + (((((i0 - (((i0.toUInt32 >>> ((1 : Int32).toUInt32 &&& Int32.toUInt32 31)).toInt32) &&& (1431655765 : Int32))) &&& (858993459 : Int32)) + ((((i0 - (((i0.toUInt32 >>> ((1 : Int32).toUInt32 &&& Int32.toUInt32 31)).toInt32) &&& (1431655765 : Int32))).toUInt32 >>> ((2 : Int32).toUInt32 &&& Int32.toUInt32 31)).toInt32) &&& (858993459 : Int32))).toUInt32 >>> ((4 : Int32).toUInt32 &&& Int32.toUInt32 31)).toInt32)) &&& (252645135 : Int32)).toUInt32 >>> ((8 : Int32).toUInt32 &&& Int32.toUInt32 31)).toInt32)) + ((((((((i0 - (((i0.toUInt32 >>> ((1 : Int32).toUInt32 &&& Int32.toUInt32 31)).toInt32) &&& (1431655765 : Int32))) &&& (858993459 : Int32)) + ((((i0 - (((i0.toUInt32 >>> ((1 : Int32).toUInt32 &&& Int32.toUInt32 31)).toInt32) &&& (1431655765 : Int32))).toUInt32 >>> ((2 : Int32).toUInt32 &&& Int32.toUInt32 31)).toInt32) &&& (858993459 : Int32))) + (((((i0 - (((i0.toUInt32 >>> ((1 : Int32).toUInt32 &&& Int32.toUInt32 31)).toInt32) &&& (1431655765 : Int32))) &&& (858993459 : Int32)) + ((((i0 - (((i0.toUInt32 >>> ((1 : Int32).toUInt32 &&& Int32.toUInt32 31)).toInt32) &&& (1431655765 : Int32))).toUInt32 >>> ((2 : Int32).toUInt32 &&& Int32.toUInt32 31)).toInt32) &&& (858993459 : Int32))).toUInt32 >>> ((4 : Int32).toUInt32 &&& Int32.toUInt32 31)).toInt32)) &&& (252645135 : Int32)) + (((((((i0 - (((i0.toUInt32 >>> ((1 : Int32).toUInt32 &&& Int32.toUInt32 31)).toInt32) &&& (1431655765 : Int32))) &&& (858993459 : Int32)) + ((((i0 - (((i0.toUInt32 >>> ((1 : Int32).toUInt32 &&& Int32.toUInt32 31)).toInt32) &&& (1431655765 : Int32))).toUInt32 >>> ((2 : Int32).toUInt32 &&& Int32.toUInt32 31)).toInt32) &&& (858993459 : Int32))) + (((((i0 - (((i0.toUInt32 >>> ((1 : Int32).toUInt32 &&& Int32.toUInt32 31)).toInt32) &&& (1431655765 : Int32))) &&& (858993459 : Int32)) + ((((i0 - (((i0.toUInt32 >>> ((1 : Int32).toUInt32 &&& Int32.toUInt32 31)).toInt32) &&& (1431655765 : Int32))).toUInt32 >>> ((2 : Int32).toUInt32 &&& Int32.toUInt32 31)).toInt32) &&& (858993459 : Int32))).toUInt32 >>> ((4 : Int32).toUInt32 &&& Int32.toUInt32 31)).toInt32)) &&& (252645135 : Int32)).toUInt32 >>> ((8 : Int32).toUInt32 &&& Int32.toUInt32 31)).toInt32)).toUInt32 >>> ((16 : Int32).toUInt32 &&& Int32.toUInt32 31)).toInt32)) &&& (63 : Int32)))) V) :
    ab_E G (ac_ST L xs) l (d + 1) ac_SK 285 [.int i0] V K := ab_wm cd_285_ok [] 47 _ _ _ _ h

set_option maxRecDepth 20000 in
/-- java/lang/String length()I, from 0 -/
theorem vc_289_0 {G : ab_G} {L : Nat} {xs : Nat → Int32} {l : Launch} {d : Nat} {r0 : Nat} {V : aa_V} {K : aa_K} (h :
    2000000 ≤ r0 ∧ r0 < 2000012 ∧
    ∃ j1 : Nat, (r0 - 999900) = 1000000 + (100 + j1) ∧ j1 < 12 ∧
    2000000 ≤ r0 ∧ r0 < 2000012 ∧
    ab_E G (ac_ST L xs) l d ac_SK 291 [.ref r0] V (aa_rI (fun x2 V2 =>
      K (some (.int ((nI (ac_ST L xs (100 + j1)).2.1) >>> (x2 &&& 31)))) V2))) :
    ab_E G (ac_ST L xs) l (d + 1) ac_SK 289 [.ref r0] V K := ab_wm cd_289_ok [] 12 _ _ _ _ h

set_option maxRecDepth 20000 in
/-- java/lang/String charAt(I)C, from 0 -/
theorem vc_290_0 {G : ab_G} {L : Nat} {xs : Nat → Int32} {l : Launch} {d : Nat} {r0 : Nat} {i1 : Int32} {V : aa_V} {K : aa_K} (h :
    2000000 ≤ r0 ∧ r0 < 2000012 ∧
    ab_E G (ac_ST L xs) l d ac_SK 292 [.ref r0] V (aa_rI (fun x1 V1 =>
      (x1 = 0 →
        2000000 ≤ r0 ∧ r0 < 2000012 ∧
        False) ∧
      (¬ x1 = 0 →
        2000000 ≤ r0 ∧ r0 < 2000012 ∧
        ab_E G (ac_ST L xs) l d ac_SK 294 [.ref (r0 - 999900), .int i1] V1 (aa_rI (fun x2 V2 =>
          narrow .char (.int x2) = .int x2 ∧ K (some (.int x2)) V2)))))) :
    ab_E G (ac_ST L xs) l (d + 1) ac_SK 290 [.ref r0, .int i1] V K := ab_wm cd_290_ok [] 17 _ _ _ _ h

set_option maxRecDepth 20000 in
/-- java/lang/String coder()B, from 0 -/
theorem vc_291_0 {G : ab_G} {L : Nat} {xs : Nat → Int32} {l : Launch} {d : Nat} {r0 : Nat} {V : aa_V} {K : aa_K} (h :
    ((1 : Int32) = 0 →
      narrow .byte (.int (1 : Int32)) = .int (1 : Int32) ∧ K (some (.int (1 : Int32))) V) ∧
    (¬ (1 : Int32) = 0 →
      2000000 ≤ r0 ∧ r0 < 2000012 ∧
      narrow .byte (.int (0 : Int32)) = .int (0 : Int32) ∧ K (some (.int (0 : Int32))) V)) :
    ab_E G (ac_ST L xs) l (d + 1) ac_SK 291 [.ref r0] V K := ab_wm cd_291_ok [] 13 _ _ _ _ h

set_option maxRecDepth 20000 in
/-- java/lang/String isLatin1()Z, from 0 -/
theorem vc_292_0 {G : ab_G} {L : Nat} {xs : Nat → Int32} {l : Launch} {d : Nat} {r0 : Nat} {V : aa_V} {K : aa_K} (h :
    ((1 : Int32) = 0 →
      aa_bit (0 : Int32) ∧ K (some (.int (0 : Int32))) V) ∧
    (¬ (1 : Int32) = 0 →
      2000000 ≤ r0 ∧ r0 < 2000012 ∧
      ((0 : Int32) = 0 →
        aa_bit (1 : Int32) ∧ K (some (.int (1 : Int32))) V) ∧
      (¬ (0 : Int32) = 0 →
        aa_bit (0 : Int32) ∧ K (some (.int (0 : Int32))) V))) :
    ab_E G (ac_ST L xs) l (d + 1) ac_SK 292 [.ref r0] V K := ab_wm cd_292_ok [] 17 _ _ _ _ h

set_option maxRecDepth 20000 in
/-- java/lang/String checkIndex(II)V, from 0 -/
theorem vc_293_0 {G : ab_G} {L : Nat} {xs : Nat → Int32} {l : Launch} {d : Nat} {i0 : Int32} {i1 : Int32} {V : aa_V} {K : aa_K} (h :
    ab_E G (ac_ST L xs) l d ac_SK 300 [.int i0, .int i1, .float 0] V (aa_rI (fun x1 V1 =>
      K none V1))) :
    ab_E G (ac_ST L xs) l (d + 1) ac_SK 293 [.int i0, .int i1] V K := ab_wm cd_293_ok [] 11 _ _ _ _ h

set_option maxRecDepth 20000 in
/-- java/lang/StringLatin1 charAt([BI)C, from 0 -/
theorem vc_294_0 {G : ab_G} {L : Nat} {xs : Nat → Int32} {l : Launch} {d : Nat} {r0 : Nat} {i1 : Int32} {V : aa_V} {K : aa_K} (h :
    ∃ j1 : Nat, r0 = 1000000 + (100 + j1) ∧ j1 < 12 ∧
    ab_E G (ac_ST L xs) l d ac_SK 293 [.int i1, .int (nI (ac_ST L xs (100 + j1)).2.1)] V (aa_rV (fun V2 =>
      ∃ j3 : Nat, r0 = 1000000 + (100 + j3) ∧ j3 < 12 ∧ vp_in i1 (ac_ST L xs (100 + j3)).2.1 ∧
      narrow .char (.int (((((ac_ST L xs (100 + j3)).2.2 (i1).toNatClampNeg) &&& (255 : Int32)).toUInt32 % 65536).toInt32)) = .int (((((ac_ST L xs (100 + j3)).2.2 (i1).toNatClampNeg) &&& (255 : Int32)).toUInt32 % 65536).toInt32) ∧ K (some (.int (((((ac_ST L xs (100 + j3)).2.2 (i1).toNatClampNeg) &&& (255 : Int32)).toUInt32 % 65536).toInt32))) V2))) :
    ab_E G (ac_ST L xs) l (d + 1) ac_SK 294 [.ref r0, .int i1] V K := ab_wm cd_294_ok [] 16 _ _ _ _ h

set_option maxRecDepth 20000 in
/-- java/util/Arrays fill([II)V, from 0 -/
theorem vc_299_0 {G : ab_G} {L : Nat} {xs : Nat → Int32} {l : Launch} {d : Nat} {r0 : Nat} {i1 : Int32} {V : aa_V} {K : aa_K} (h :
    ∃ (c1 n1 : Nat) (rs1 : List Nat), aa_sh ac_SK r0 = some (c1, n1, rs1) ∧ 100 ≤ c1 ∧
    ab_J G (ac_ST L xs) l (d + 1) 299 5 [some (.ref r0), some (.int i1), some (.int (0 : Int32)), some (.int (nI n1))] [] ac_SK V ac_SK K) :
    ab_E G (ac_ST L xs) l (d + 1) ac_SK 299 [.ref r0, .int i1] V K := ab_wm cd_299_ok [(5, [true, true, true, true])] 11 _ _ _ _ h

set_option maxRecDepth 20000 in
/-- java/util/Arrays fill([II)V, from 5 -/
theorem vc_299_5 {G : ab_G} {L : Nat} {xs : Nat → Int32} {l : Launch} {d : Nat} {r0 : Nat} {i1 : Int32} {i2 : Int32} {i3 : Int32} {V : aa_V} {K : aa_K} (h :
    (i2 < i3 →
      ∃ (n1 : Nat) (rs1 : List Nat), aa_sh ac_SK r0 = some (100, n1, rs1) ∧ vp_in i2 n1 ∧
      ab_J G (ac_ST L xs) l (d + 1) 299 5 [some (.ref r0), some (.int i1), some (.int (i2 + 1)), some (.int i3)] [] ac_SK (aa_up V r0 ((i2).toNatClampNeg) i1) ac_SK K) ∧
    (¬ i2 < i3 →
      K none V)) :
    ab_J G (ac_ST L xs) l (d + 1) 299 5 [some (.ref r0), some (.int i1), some (.int i2), some (.int i3)] [] ac_SK V ac_SK K := ab_wm cd_299_ok [(5, [true, true, true, true])] 16 _ _ _ _ h

set_option maxRecDepth 20000 in
/-- jdk/internal/util/Preconditions checkIndex(IILjava/util/function/BiFunction;)I, from 0 -/
theorem vc_300_0 {G : ab_G} {L : Nat} {xs : Nat → Int32} {l : Launch} {d : Nat} {i0 : Int32} {i1 : Int32} {V : aa_V} {K : aa_K} (h :
    (i0 < 0 →
      False) ∧
    (¬ i0 < 0 →
      (i0 < i1 →
        K (some (.int i0)) V) ∧
      (¬ i0 < i1 →
        False))) :
    ab_E G (ac_ST L xs) l (d + 1) ac_SK 300 [.int i0, .int i1, .float 0] V K := ab_wm cd_300_ok [] 14 _ _ _ _ h
