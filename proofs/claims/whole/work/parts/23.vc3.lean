/-! stretches: what is wanted ahead of each -/
set_option maxRecDepth 20000 in
/-- FrameCountyModel isIn(JJJ)Z, from 0 -/
theorem vc_192_0 {G : ab_G} {L : Nat} {xs : Nat → Int32} {l : Launch} {d : Nat} {l0 : Int64} {l2 : Int64} {l4 : Int64} {V : aa_V} {K : aa_K} (h :
    ((lg_cmp l0 l2) < 0 →
      aa_bit (0 : Int32) ∧ K (some (.int (0 : Int32))) V) ∧
    (¬ (lg_cmp l0 l2) < 0 →
      (0 < (lg_cmp l0 l4) →
        aa_bit (0 : Int32) ∧ K (some (.int (0 : Int32))) V) ∧
      (¬ 0 < (lg_cmp l0 l4) →
        aa_bit (1 : Int32) ∧ K (some (.int (1 : Int32))) V))) :
    ab_E G (ac_ST L xs) l (d + 1) ac_SK 192 [.long l0, .long l2, .long l4] V K := ab_wm cd_192_ok [] 20 _ _ _ _ h

set_option maxRecDepth 20000 in
/-- FrameCountyModel isVillage(I)Z, from 0 -/
theorem vc_193_0 {G : ab_G} {L : Nat} {xs : Nat → Int32} {l : Launch} {d : Nat} {i0 : Int32} {V : aa_V} {K : aa_K} (h :
    (i0 < 0 →
      aa_bit (0 : Int32) ∧ K (some (.int (0 : Int32))) V) ∧
    (¬ i0 < 0 →
      (i0 < (8 : Int32) →
        aa_bit (1 : Int32) ∧ K (some (.int (1 : Int32))) V) ∧
      (¬ i0 < (8 : Int32) →
        aa_bit (0 : Int32) ∧ K (some (.int (0 : Int32))) V))) :
    ab_E G (ac_ST L xs) l (d + 1) ac_SK 193 [.int i0] V K := ab_wm cd_193_ok [] 17 _ _ _ _ h

set_option maxRecDepth 20000 in
/-- FrameCountyModel isNight(I)Z, from 0 -/
theorem vc_194_0 {G : ab_G} {L : Nat} {xs : Nat → Int32} {l : Launch} {d : Nat} {i0 : Int32} {V : aa_V} {K : aa_K} (h :
    ab_E G (ac_ST L xs) l d ac_SK 192 [.long (i0.toInt64), .long (0 : Int64), .long (399 : Int64)] V (aa_rI (fun x1 V1 =>
      aa_bit x1 ∧ K (some (.int x1)) V1))) :
    ab_E G (ac_ST L xs) l (d + 1) ac_SK 194 [.int i0] V K := ab_wm cd_194_ok [] 11 _ _ _ _ h

set_option maxRecDepth 20000 in
/-- FrameCountyModel pass(I)I, from 0 -/
theorem vc_195_0 {G : ab_G} {L : Nat} {xs : Nat → Int32} {l : Launch} {d : Nat} {i1 : Int32} {V : aa_V} {K : aa_K} (h :
    ab_E G (ac_ST L xs) l d ac_SK 192 [.long (i1.toInt64), .long (1 : Int64), .long (60 : Int64)] V (aa_rI (fun x1 V1 =>
      (x1 = 0 →
        K (some (.int (-2 : Int32))) V1) ∧
      (¬ x1 = 0 →
        ((399 : Int32) < ((V1 105 2) + i1) →
          K (some (.int (-4 : Int32))) V1) ∧
        (¬ (399 : Int32) < ((V1 105 2) + i1) →
          K (some (.int ((V1 105 2) + i1))) (aa_up V1 105 2 ((V1 105 2) + i1))))))) :
    ab_E G (ac_ST L xs) l (d + 1) ac_SK 195 [.ref 105, .int i1] V K := ab_wm cd_195_ok [] 30 _ _ _ _ h

set_option maxRecDepth 20000 in
/-- FrameCountyModel road(III)I, from 0 -/
theorem vc_196_0 {G : ab_G} {L : Nat} {xs : Nat → Int32} {l : Launch} {d : Nat} {i1 : Int32} {i2 : Int32} {i3 : Int32} {V : aa_V} {K : aa_K} (h :
    ab_E G (ac_ST L xs) l d ac_SK 193 [.int i1] V (aa_rI (fun x1 V1 =>
      (x1 = 0 →
        K (some (.int (-2 : Int32))) V1) ∧
      (¬ x1 = 0 →
        ab_E G (ac_ST L xs) l d ac_SK 193 [.int i2] V1 (aa_rI (fun x2 V2 =>
          (x2 = 0 →
            K (some (.int (-2 : Int32))) V2) ∧
          (¬ x2 = 0 →
            (i1 = i2 →
              K (some (.int (-2 : Int32))) V2) ∧
            (¬ i1 = i2 →
              ab_E G (ac_ST L xs) l d ac_SK 192 [.long (i3.toInt64), .long (1 : Int64), .long (9 : Int64)] V2 (aa_rI (fun x3 V3 =>
                (x3 = 0 →
                  (i3 = (99 : Int32) →
                    vp_in (((8 : Int32) * i1) + i2) 64 ∧
                    vp_in (((8 : Int32) * i1) + i2) 64 ∧
                    vp_in (((8 : Int32) * i2) + i1) 64 ∧
                    K (some (.int (V3 106 (((((8 : Int32) * i1) + i2)).toNatClampNeg)))) (aa_up (aa_up V3 106 (((((8 : Int32) * i1) + i2)).toNatClampNeg) i3) 106 (((((8 : Int32) * i2) + i1)).toNatClampNeg) i3)) ∧
                  (¬ i3 = (99 : Int32) →
                    K (some (.int (-2 : Int32))) V3)) ∧
                (¬ x3 = 0 →
                  vp_in (((8 : Int32) * i1) + i2) 64 ∧
                  vp_in (((8 : Int32) * i1) + i2) 64 ∧
                  vp_in (((8 : Int32) * i2) + i1) 64 ∧
                  K (some (.int (V3 106 (((((8 : Int32) * i1) + i2)).toNatClampNeg)))) (aa_up (aa_up V3 106 (((((8 : Int32) * i1) + i2)).toNatClampNeg) i3) 106 (((((8 : Int32) * i2) + i1)).toNatClampNeg) i3)))))))))))) :
    ab_E G (ac_ST L xs) l (d + 1) ac_SK 196 [.ref 105, .int i1, .int i2, .int i3] V K := ab_wm cd_196_ok [] 89 _ _ _ _ h

set_option maxRecDepth 20000 in
/-- FrameCountyModel findFar(I)V, from 0 -/
theorem vc_197_0 {G : ab_G} {L : Nat} {xs : Nat → Int32} {l : Launch} {d : Nat} {i1 : Int32} {V : aa_V} {K : aa_K} (h :
    ¬ (30 : Int32) = 0 ∧
    ab_E G (ac_ST L xs) l d ac_SK 192 [.long ((i1 - i1 / (30 : Int32) * (30 : Int32)).toInt64), .long (8 : Int64), .long (22 : Int64)] V (aa_rI (fun x1 V1 =>
      (x1 = 0 →
        ab_J G (ac_ST L xs) l (d + 1) 197 25 [some (.ref 105), none, some (.int (1 : Int32)), some (.int (0 : Int32)), none, none, none] [] ac_SK V1 ac_SK K) ∧
      (¬ x1 = 0 →
        ab_J G (ac_ST L xs) l (d + 1) 197 25 [some (.ref 105), none, some (.int (0 : Int32)), some (.int (0 : Int32)), none, none, none] [] ac_SK V1 ac_SK K)))) :
    ab_E G (ac_ST L xs) l (d + 1) ac_SK 197 [.ref 105, .int i1] V K := ab_wm cd_197_ok [(25, [true, false, true, true, false, false, false]), (80, [true, false, false, true, false, false, false]), (89, [true, false, false, true, true, false, false]), (99, [true, false, false, true, true, true, false])] 24 _ _ _ _ h

set_option maxRecDepth 20000 in
/-- FrameCountyModel findFar(I)V, from 25 -/
theorem vc_197_25 {G : ab_G} {L : Nat} {xs : Nat → Int32} {l : Launch} {d : Nat} {i2 : Int32} {i3 : Int32} {V : aa_V} {K : aa_K} (h :
    (i3 < (64 : Int32) →
      ¬ (9 : Int32) = 0 ∧
      ((i3 - i3 / (9 : Int32) * (9 : Int32)) = 0 →
        vp_in i3 64 ∧
        ab_J G (ac_ST L xs) l (d + 1) 197 25 [some (.ref 105), none, some (.int i2), some (.int (i3 + 1)), none, none, none] [] ac_SK (aa_up V 107 ((i3).toNatClampNeg) (0 : Int32)) ac_SK K) ∧
      (¬ (i3 - i3 / (9 : Int32) * (9 : Int32)) = 0 →
        vp_in i3 64 ∧
        ((V 106 ((i3).toNatClampNeg)) = (99 : Int32) →
          vp_in i3 64 ∧
          ab_J G (ac_ST L xs) l (d + 1) 197 25 [some (.ref 105), none, some (.int i2), some (.int (i3 + 1)), none, none, none] [] ac_SK (aa_up V 107 ((i3).toNatClampNeg) (99 : Int32)) ac_SK K) ∧
        (¬ (V 106 ((i3).toNatClampNeg)) = (99 : Int32) →
          vp_in i3 64 ∧
          vp_in i3 64 ∧
          ab_J G (ac_ST L xs) l (d + 1) 197 25 [some (.ref 105), none, some (.int i2), some (.int (i3 + 1)), none, none, none] [] ac_SK (aa_up V 107 ((i3).toNatClampNeg) ((V 106 ((i3).toNatClampNeg)) + i2)) ac_SK K))) ∧
    (¬ i3 < (64 : Int32) →
      ab_J G (ac_ST L xs) l (d + 1) 197 80 [some (.ref 105), none, none, some (.int (0 : Int32)), none, none, none] [] ac_SK V ac_SK K)) :
    ab_J G (ac_ST L xs) l (d + 1) 197 25 [some (.ref 105), none, some (.int i2), some (.int i3), none, none, none] [] ac_SK V ac_SK K := ab_wm cd_197_ok [(25, [true, false, true, true, false, false, false]), (80, [true, false, false, true, false, false, false]), (89, [true, false, false, true, true, false, false]), (99, [true, false, false, true, true, true, false])] 46 _ _ _ _ h

set_option maxRecDepth 20000 in
/-- FrameCountyModel findFar(I)V, from 80 -/
theorem vc_197_80 {G : ab_G} {L : Nat} {xs : Nat → Int32} {l : Launch} {d : Nat} {i3 : Int32} {V : aa_V} {K : aa_K} (h :
    (i3 < (8 : Int32) →
      ab_J G (ac_ST L xs) l (d + 1) 197 89 [some (.ref 105), none, none, some (.int i3), some (.int (0 : Int32)), none, none] [] ac_SK V ac_SK K) ∧
    (¬ i3 < (8 : Int32) →
      K none V)) :
    ab_J G (ac_ST L xs) l (d + 1) 197 80 [some (.ref 105), none, none, some (.int i3), none, none, none] [] ac_SK V ac_SK K := ab_wm cd_197_ok [(25, [true, false, true, true, false, false, false]), (80, [true, false, false, true, false, false, false]), (89, [true, false, false, true, true, false, false]), (99, [true, false, false, true, true, true, false])] 12 _ _ _ _ h

set_option maxRecDepth 20000 in
/-- FrameCountyModel findFar(I)V, from 89 -/
theorem vc_197_89 {G : ab_G} {L : Nat} {xs : Nat → Int32} {l : Launch} {d : Nat} {i3 : Int32} {i4 : Int32} {V : aa_V} {K : aa_K} (h :
    (i4 < (8 : Int32) →
      ab_J G (ac_ST L xs) l (d + 1) 197 99 [some (.ref 105), none, none, some (.int i3), some (.int i4), some (.int (0 : Int32)), none] [] ac_SK V ac_SK K) ∧
    (¬ i4 < (8 : Int32) →
      ab_J G (ac_ST L xs) l (d + 1) 197 80 [some (.ref 105), none, none, some (.int (i3 + 1)), none, none, none] [] ac_SK V ac_SK K)) :
    ab_J G (ac_ST L xs) l (d + 1) 197 89 [some (.ref 105), none, none, some (.int i3), some (.int i4), none, none] [] ac_SK V ac_SK K := ab_wm cd_197_ok [(25, [true, false, true, true, false, false, false]), (80, [true, false, false, true, false, false, false]), (89, [true, false, false, true, true, false, false]), (99, [true, false, false, true, true, true, false])] 14 _ _ _ _ h

set_option maxRecDepth 20000 in
/-- FrameCountyModel findFar(I)V, from 99 -/
theorem vc_197_99 {G : ab_G} {L : Nat} {xs : Nat → Int32} {l : Launch} {d : Nat} {i3 : Int32} {i4 : Int32} {i5 : Int32} {V : aa_V} {K : aa_K} (h :
    (i5 < (8 : Int32) →
      vp_in (((8 : Int32) * i4) + i3) 64 ∧
      vp_in (((8 : Int32) * i3) + i5) 64 ∧
      vp_in (((8 : Int32) * i4) + i3) 64 ∧
      ((V 107 (((((8 : Int32) * i4) + i3)).toNatClampNeg)) < (99 : Int32) →
        vp_in (((8 : Int32) * i3) + i5) 64 ∧
        ((V 107 (((((8 : Int32) * i3) + i5)).toNatClampNeg)) < (99 : Int32) →
          vp_in (((8 : Int32) * i4) + i5) 64 ∧
          (((V 107 (((((8 : Int32) * i4) + i3)).toNatClampNeg)) + (V 107 (((((8 : Int32) * i3) + i5)).toNatClampNeg))) < (V 107 (((((8 : Int32) * i4) + i5)).toNatClampNeg)) →
            vp_in (((8 : Int32) * i4) + i5) 64 ∧
            ab_J G (ac_ST L xs) l (d + 1) 197 99 [some (.ref 105), none, none, some (.int i3), some (.int i4), some (.int (i5 + 1)), none] [] ac_SK (aa_up V 107 (((((8 : Int32) * i4) + i5)).toNatClampNeg) ((V 107 (((((8 : Int32) * i4) + i3)).toNatClampNeg)) + (V 107 (((((8 : Int32) * i3) + i5)).toNatClampNeg)))) ac_SK K) ∧
          (¬ ((V 107 (((((8 : Int32) * i4) + i3)).toNatClampNeg)) + (V 107 (((((8 : Int32) * i3) + i5)).toNatClampNeg))) < (V 107 (((((8 : Int32) * i4) + i5)).toNatClampNeg)) →
            ab_J G (ac_ST L xs) l (d + 1) 197 99 [some (.ref 105), none, none, some (.int i3), some (.int i4), some (.int (i5 + 1)), none] [] ac_SK V ac_SK K)) ∧
        (¬ (V 107 (((((8 : Int32) * i3) + i5)).toNatClampNeg)) < (99 : Int32) →
          ab_J G (ac_ST L xs) l (d + 1) 197 99 [some (.ref 105), none, none, some (.int i3), some (.int i4), some (.int (i5 + 1)), none] [] ac_SK V ac_SK K)) ∧
      (¬ (V 107 (((((8 : Int32) * i4) + i3)).toNatClampNeg)) < (99 : Int32) →
        ab_J G (ac_ST L xs) l (d + 1) 197 99 [some (.ref 105), none, none, some (.int i3), some (.int i4), some (.int (i5 + 1)), none] [] ac_SK V ac_SK K)) ∧
    (¬ i5 < (8 : Int32) →
      ab_J G (ac_ST L xs) l (d + 1) 197 89 [some (.ref 105), none, none, some (.int i3), some (.int (i4 + 1)), none, none] [] ac_SK V ac_SK K)) :
    ab_J G (ac_ST L xs) l (d + 1) 197 99 [some (.ref 105), none, none, some (.int i3), some (.int i4), some (.int i5), none] [] ac_SK V ac_SK K := ab_wm cd_197_ok [(25, [true, false, true, true, false, false, false]), (80, [true, false, false, true, false, false, false]), (89, [true, false, false, true, true, false, false]), (99, [true, false, false, true, true, true, false])] 80 _ _ _ _ h

set_option maxRecDepth 20000 in
/-- FrameCountyModel far(III)I, from 0 -/
theorem vc_198_0 {G : ab_G} {L : Nat} {xs : Nat → Int32} {l : Launch} {d : Nat} {i1 : Int32} {i2 : Int32} {i3 : Int32} {V : aa_V} {K : aa_K} (h :
    ab_E G (ac_ST L xs) l d ac_SK 193 [.int i1] V (aa_rI (fun x1 V1 =>
      (x1 = 0 →
        K (some (.int (-2 : Int32))) V1) ∧
      (¬ x1 = 0 →
        ab_E G (ac_ST L xs) l d ac_SK 193 [.int i2] V1 (aa_rI (fun x2 V2 =>
          (x2 = 0 →
            K (some (.int (-2 : Int32))) V2) ∧
          (¬ x2 = 0 →
            ab_E G (ac_ST L xs) l d ac_SK 194 [.int i3] V2 (aa_rI (fun x3 V3 =>
              (x3 = 0 →
                K (some (.int (-2 : Int32))) V3) ∧
              (¬ x3 = 0 →
                ab_E G (ac_ST L xs) l d ac_SK 197 [.ref 105, .int i3] V3 (aa_rV (fun V4 =>
                  vp_in (((8 : Int32) * i1) + i2) 64 ∧
                  K (some (.int (V4 107 (((((8 : Int32) * i1) + i2)).toNatClampNeg)))) V4)))))))))))) :
    ab_E G (ac_ST L xs) l (d + 1) ac_SK 198 [.ref 105, .int i1, .int i2, .int i3] V K := ab_wm cd_198_ok [] 32 _ _ _ _ h

set_option maxRecDepth 20000 in
/-- FrameCountyModel isShop(I)Z, from 0 -/
theorem vc_199_0 {G : ab_G} {L : Nat} {xs : Nat → Int32} {l : Launch} {d : Nat} {i1 : Int32} {V : aa_V} {K : aa_K} (h :
    (i1 < 0 →
      aa_bit (0 : Int32) ∧ K (some (.int (0 : Int32))) V) ∧
    (¬ i1 < 0 →
      (i1 < (V 105 11) →
        aa_bit (1 : Int32) ∧ K (some (.int (1 : Int32))) V) ∧
      (¬ i1 < (V 105 11) →
        aa_bit (0 : Int32) ∧ K (some (.int (0 : Int32))) V))) :
    ab_E G (ac_ST L xs) l (d + 1) ac_SK 199 [.ref 105, .int i1] V K := ab_wm cd_199_ok [] 18 _ _ _ _ h

set_option maxRecDepth 20000 in
/-- FrameCountyModel isFrame(I)Z, from 0 -/
theorem vc_200_0 {G : ab_G} {L : Nat} {xs : Nat → Int32} {l : Launch} {d : Nat} {i1 : Int32} {V : aa_V} {K : aa_K} (h :
    (i1 < 0 →
      aa_bit (0 : Int32) ∧ K (some (.int (0 : Int32))) V) ∧
    (¬ i1 < 0 →
      (i1 < (V 105 12) →
        aa_bit (1 : Int32) ∧ K (some (.int (1 : Int32))) V) ∧
      (¬ i1 < (V 105 12) →
        aa_bit (0 : Int32) ∧ K (some (.int (0 : Int32))) V))) :
    ab_E G (ac_ST L xs) l (d + 1) ac_SK 200 [.ref 105, .int i1] V K := ab_wm cd_200_ok [] 18 _ _ _ _ h

set_option maxRecDepth 20000 in
/-- FrameCountyModel shop(II)I, from 0 -/
theorem vc_201_0 {G : ab_G} {L : Nat} {xs : Nat → Int32} {l : Launch} {d : Nat} {i1 : Int32} {i2 : Int32} {V : aa_V} {K : aa_K} (h :
    ab_E G (ac_ST L xs) l d ac_SK 193 [.int i1] V (aa_rI (fun x1 V1 =>
      (x1 = 0 →
        K (some (.int (-2 : Int32))) V1) ∧
      (¬ x1 = 0 →
        ab_E G (ac_ST L xs) l d ac_SK 192 [.long (i2.toInt64), .long (0 : Int64), .long (99 : Int64)] V1 (aa_rI (fun x2 V2 =>
          (x2 = 0 →
            K (some (.int (-2 : Int32))) V2) ∧
          (¬ x2 = 0 →
            ((V2 105 11) = (8 : Int32) →
              K (some (.int (-4 : Int32))) V2) ∧
            (¬ (V2 105 11) = (8 : Int32) →
              vp_in (V2 105 11) 8 ∧
              vp_in (V2 105 11) 8 ∧
              K (some (.int (((V2 105 11) + (1 : Int32)) - (1 : Int32)))) (aa_up (aa_up (aa_up V2 108 (((V2 105 11)).toNatClampNeg) i1) 109 (((V2 105 11)).toNatClampNeg) i2) 105 11 ((V2 105 11) + (1 : Int32))))))))))) :
    ab_E G (ac_ST L xs) l (d + 1) ac_SK 201 [.ref 105, .int i1, .int i2] V K := ab_wm cd_201_ok [] 47 _ _ _ _ h

set_option maxRecDepth 20000 in
/-- FrameCountyModel pays(II)I, from 0 -/
theorem vc_202_0 {G : ab_G} {L : Nat} {xs : Nat → Int32} {l : Launch} {d : Nat} {i1 : Int32} {i2 : Int32} {V : aa_V} {K : aa_K} (h :
    ab_E G (ac_ST L xs) l d ac_SK 199 [.ref 105, .int i1] V (aa_rI (fun x1 V1 =>
      (x1 = 0 →
        K (some (.int (-2 : Int32))) V1) ∧
      (¬ x1 = 0 →
        ab_E G (ac_ST L xs) l d ac_SK 192 [.long (i2.toInt64), .long (0 : Int64), .long (99 : Int64)] V1 (aa_rI (fun x2 V2 =>
          (x2 = 0 →
            K (some (.int (-2 : Int32))) V2) ∧
          (¬ x2 = 0 →
            vp_in i1 8 ∧
            vp_in i1 8 ∧
            K (some (.int (V2 109 ((i1).toNatClampNeg)))) (aa_up V2 109 ((i1).toNatClampNeg) i2)))))))) :
    ab_E G (ac_ST L xs) l (d + 1) ac_SK 202 [.ref 105, .int i1, .int i2] V K := ab_wm cd_202_ok [] 31 _ _ _ _ h

set_option maxRecDepth 20000 in
/-- FrameCountyModel frame(IIII)I, from 0 -/
theorem vc_203_0 {G : ab_G} {L : Nat} {xs : Nat → Int32} {l : Launch} {d : Nat} {i1 : Int32} {i2 : Int32} {i3 : Int32} {i4 : Int32} {V : aa_V} {K : aa_K} (h :
    ab_E G (ac_ST L xs) l d ac_SK 192 [.long (i1.toInt64), .long (0 : Int64), .long (5 : Int64)] V (aa_rI (fun x1 V1 =>
      (x1 = 0 →
        K (some (.int (-2 : Int32))) V1) ∧
      (¬ x1 = 0 →
        ab_E G (ac_ST L xs) l d ac_SK 199 [.ref 105, .int i2] V1 (aa_rI (fun x2 V2 =>
          (x2 = 0 →
            K (some (.int (-2 : Int32))) V2) ∧
          (¬ x2 = 0 →
            ab_E G (ac_ST L xs) l d ac_SK 192 [.long (i3.toInt64), .long (10 : Int64), .long (60 : Int64)] V2 (aa_rI (fun x3 V3 =>
              (x3 = 0 →
                K (some (.int (-2 : Int32))) V3) ∧
              (¬ x3 = 0 →
                ab_E G (ac_ST L xs) l d ac_SK 192 [.long (i4.toInt64), .long (0 : Int64), .long (99 : Int64)] V3 (aa_rI (fun x4 V4 =>
                  (x4 = 0 →
                    K (some (.int (-2 : Int32))) V4) ∧
                  (¬ x4 = 0 →
                    ((V4 105 12) = (20 : Int32) →
                      K (some (.int (-4 : Int32))) V4) ∧
                    (¬ (V4 105 12) = (20 : Int32) →
                      vp_in (V4 105 12) 20 ∧
                      vp_in (V4 105 12) 20 ∧
                      vp_in (V4 105 12) 20 ∧
                      vp_in (V4 105 12) 20 ∧
                      K (some (.int (((V4 105 12) + (1 : Int32)) - (1 : Int32)))) (aa_up (aa_up (aa_up (aa_up (aa_up V4 110 (((V4 105 12)).toNatClampNeg) i1) 111 (((V4 105 12)).toNatClampNeg) i2) 112 (((V4 105 12)).toNatClampNeg) i3) 113 (((V4 105 12)).toNatClampNeg) i4) 105 12 ((V4 105 12) + (1 : Int32))))))))))))))))) :
    ab_E G (ac_ST L xs) l (d + 1) ac_SK 203 [.ref 105, .int i1, .int i2, .int i3, .int i4] V K := ab_wm cd_203_ok [] 76 _ _ _ _ h

set_option maxRecDepth 20000 in
/-- FrameCountyModel makes(I)I, from 0 -/
theorem vc_204_0 {G : ab_G} {L : Nat} {xs : Nat → Int32} {l : Launch} {d : Nat} {i1 : Int32} {V : aa_V} {K : aa_K} (h :
    vp_in i1 20 ∧
    ¬ (10 : Int32) = 0 ∧
    vp_in i1 20 ∧
    ((V 110 ((i1).toNatClampNeg)) = 0 →
      K (some (.int ((V 112 ((i1).toNatClampNeg)) / (10 : Int32)))) V) ∧
    (¬ (V 110 ((i1).toNatClampNeg)) = 0 →
    ((V 110 ((i1).toNatClampNeg)) = 1 →
      K (some (.int (((V 112 ((i1).toNatClampNeg)) / (10 : Int32)) + (3 : Int32)))) V) ∧
    (¬ (V 110 ((i1).toNatClampNeg)) = 1 →
    ((V 110 ((i1).toNatClampNeg)) = 2 →
      K (some (.int (((V 112 ((i1).toNatClampNeg)) / (10 : Int32)) - (1 : Int32)))) V) ∧
    (¬ (V 110 ((i1).toNatClampNeg)) = 2 →
    ((V 110 ((i1).toNatClampNeg)) = 3 →
      K (some (.int ((2 : Int32) * (((V 112 ((i1).toNatClampNeg)) / (10 : Int32)) + (3 : Int32))))) V) ∧
    (¬ (V 110 ((i1).toNatClampNeg)) = 3 →
    ((V 110 ((i1).toNatClampNeg)) = 4 →
      ¬ (2 : Int32) = 0 ∧
      K (some (.int ((((V 112 ((i1).toNatClampNeg)) / (10 : Int32)) - (1 : Int32)) / (2 : Int32)))) V) ∧
    (¬ (V 110 ((i1).toNatClampNeg)) = 4 →
    K (some (.int ((4 : Int32) * ((V 112 ((i1).toNatClampNeg)) / (10 : Int32))))) V)))))) :
    ab_E G (ac_ST L xs) l (d + 1) ac_SK 204 [.ref 105, .int i1] V K := ab_wm cd_204_ok [] 43 _ _ _ _ h

set_option maxRecDepth 20000 in
/-- FrameCountyModel paidRent(I)I, from 0 -/
theorem vc_205_0 {G : ab_G} {L : Nat} {xs : Nat → Int32} {l : Launch} {d : Nat} {i1 : Int32} {V : aa_V} {K : aa_K} (h :
    vp_in i1 20 ∧
    ((V 110 ((i1).toNatClampNeg)) = (2 : Int32) →
      vp_in i1 20 ∧
      ¬ (2 : Int32) = 0 ∧
      K (some (.int ((V 113 ((i1).toNatClampNeg)) / (2 : Int32)))) V) ∧
    (¬ (V 110 ((i1).toNatClampNeg)) = (2 : Int32) →
      vp_in i1 20 ∧
      ((V 110 ((i1).toNatClampNeg)) = (4 : Int32) →
        vp_in i1 20 ∧
        ¬ (2 : Int32) = 0 ∧
        K (some (.int ((V 113 ((i1).toNatClampNeg)) / (2 : Int32)))) V) ∧
      (¬ (V 110 ((i1).toNatClampNeg)) = (4 : Int32) →
        vp_in i1 20 ∧
        ((V 110 ((i1).toNatClampNeg)) = (3 : Int32) →
          vp_in i1 20 ∧
          K (some (.int ((V 113 ((i1).toNatClampNeg)) + (2 : Int32)))) V) ∧
        (¬ (V 110 ((i1).toNatClampNeg)) = (3 : Int32) →
          vp_in i1 20 ∧
          ((V 110 ((i1).toNatClampNeg)) = (5 : Int32) →
            vp_in i1 20 ∧
            vp_in i1 20 ∧
            K (some (.int ((V 113 ((i1).toNatClampNeg)) + (V 112 ((i1).toNatClampNeg))))) V) ∧
          (¬ (V 110 ((i1).toNatClampNeg)) = (5 : Int32) →
            vp_in i1 20 ∧
            K (some (.int (V 113 ((i1).toNatClampNeg)))) V))))) :
    ab_E G (ac_ST L xs) l (d + 1) ac_SK 205 [.ref 105, .int i1] V K := ab_wm cd_205_ok [] 69 _ _ _ _ h

set_option maxRecDepth 20000 in
/-- FrameCountyModel earned(I)I, from 0 -/
theorem vc_206_0 {G : ab_G} {L : Nat} {xs : Nat → Int32} {l : Launch} {d : Nat} {i1 : Int32} {V : aa_V} {K : aa_K} (h :
    vp_in i1 20 ∧
    ((V 114 ((i1).toNatClampNeg)) = 0 →
      ab_E G (ac_ST L xs) l d ac_SK 204 [.ref 105, .int i1] V (aa_rI (fun x1 V1 =>
        vp_in i1 20 ∧
        vp_in (V1 111 ((i1).toNatClampNeg)) 8 ∧
        ab_E G (ac_ST L xs) l d ac_SK 205 [.ref 105, .int i1] V1 (aa_rI (fun x2 V2 =>
          K (some (.int ((x1 * (V1 109 (((V1 111 ((i1).toNatClampNeg))).toNatClampNeg))) - x2))) V2))))) ∧
    (¬ (V 114 ((i1).toNatClampNeg)) = 0 →
      ab_E G (ac_ST L xs) l d ac_SK 205 [.ref 105, .int i1] V (aa_rI (fun x1 V1 =>
        K (some (.int ((0 : Int32) - x1))) V1)))) :
    ab_E G (ac_ST L xs) l (d + 1) ac_SK 206 [.ref 105, .int i1] V K := ab_wm cd_206_ok [] 33 _ _ _ _ h

set_option maxRecDepth 20000 in
/-- FrameCountyModel frameTold(II)J, from 0 -/
theorem vc_207_0 {G : ab_G} {L : Nat} {xs : Nat → Int32} {l : Launch} {d : Nat} {i1 : Int32} {i2 : Int32} {V : aa_V} {K : aa_K} (h :
    ab_E G (ac_ST L xs) l d ac_SK 200 [.ref 105, .int i1] V (aa_rI (fun x1 V1 =>
      (x1 = 0 →
        K (some (.long (-4611686018427387904 : Int64))) V1) ∧
      (¬ x1 = 0 →
        (i2 = 0 →
          vp_in i1 20 ∧
          K (some (.long ((V1 110 ((i1).toNatClampNeg)).toInt64))) V1) ∧
        (¬ i2 = 0 →
        (i2 = 1 →
          vp_in i1 20 ∧
          K (some (.long ((V1 111 ((i1).toNatClampNeg)).toInt64))) V1) ∧
        (¬ i2 = 1 →
        (i2 = 2 →
          vp_in i1 20 ∧
          K (some (.long ((V1 112 ((i1).toNatClampNeg)).toInt64))) V1) ∧
        (¬ i2 = 2 →
        (i2 = 3 →
          vp_in i1 20 ∧
          K (some (.long ((V1 113 ((i1).toNatClampNeg)).toInt64))) V1) ∧
        (¬ i2 = 3 →
        (i2 = 4 →
          vp_in i1 20 ∧
          K (some (.long ((V1 114 ((i1).toNatClampNeg)).toInt64))) V1) ∧
        (¬ i2 = 4 →
        (i2 = 5 →
          ab_E G (ac_ST L xs) l d ac_SK 204 [.ref 105, .int i1] V1 (aa_rI (fun x2 V2 =>
            K (some (.long (x2.toInt64))) V2))) ∧
        (¬ i2 = 5 →
        (i2 = 6 →
          ab_E G (ac_ST L xs) l d ac_SK 205 [.ref 105, .int i1] V1 (aa_rI (fun x2 V2 =>
            K (some (.long (x2.toInt64))) V2))) ∧
        (¬ i2 = 6 →
        (i2 = 7 →
          ab_E G (ac_ST L xs) l d ac_SK 206 [.ref 105, .int i1] V1 (aa_rI (fun x2 V2 =>
            K (some (.long (x2.toInt64))) V2))) ∧
        (¬ i2 = 7 →
        K (some (.long (-4611686018427387904 : Int64))) V1)))))))))))) :
    ab_E G (ac_ST L xs) l (d + 1) ac_SK 207 [.ref 105, .int i1, .int i2] V K := ab_wm cd_207_ok [] 60 _ _ _ _ h

set_option maxRecDepth 20000 in
/-- FrameCountyModel mend(II)I, from 0 -/
theorem vc_208_0 {G : ab_G} {L : Nat} {xs : Nat → Int32} {l : Launch} {d : Nat} {i1 : Int32} {i2 : Int32} {V : aa_V} {K : aa_K} (h :
    ab_E G (ac_ST L xs) l d ac_SK 200 [.ref 105, .int i1] V (aa_rI (fun x1 V1 =>
      (x1 = 0 →
        K (some (.int (-2 : Int32))) V1) ∧
      (¬ x1 = 0 →
        ab_E G (ac_ST L xs) l d ac_SK 192 [.long (i2.toInt64), .long (0 : Int64), .long (2 : Int64)] V1 (aa_rI (fun x2 V2 =>
          (x2 = 0 →
            K (some (.int (-2 : Int32))) V2) ∧
          (¬ x2 = 0 →
            (i2 = 0 →
              vp_in i1 20 ∧
              ((V2 114 ((i1).toNatClampNeg)) = (1 : Int32) →
                (i2 = (2 : Int32) →
                  vp_in i1 20 ∧
                  K (some (.int (1 : Int32))) (aa_up V2 114 ((i1).toNatClampNeg) (2 : Int32))) ∧
                (¬ i2 = (2 : Int32) →
                  vp_in i1 20 ∧
                  K (some (.int (1 : Int32))) (aa_up V2 114 ((i1).toNatClampNeg) (0 : Int32)))) ∧
              (¬ (V2 114 ((i1).toNatClampNeg)) = (1 : Int32) →
                K (some (.int (-3 : Int32))) V2)) ∧
            (¬ i2 = 0 →
              (i2 = (1 : Int32) →
                vp_in i1 20 ∧
                ((V2 114 ((i1).toNatClampNeg)) = (2 : Int32) →
                  (i2 = (2 : Int32) →
                    vp_in i1 20 ∧
                    K (some (.int (1 : Int32))) (aa_up V2 114 ((i1).toNatClampNeg) (2 : Int32))) ∧
                  (¬ i2 = (2 : Int32) →
                    vp_in i1 20 ∧
                    K (some (.int (1 : Int32))) (aa_up V2 114 ((i1).toNatClampNeg) (0 : Int32)))) ∧
                (¬ (V2 114 ((i1).toNatClampNeg)) = (2 : Int32) →
                  K (some (.int (-3 : Int32))) V2)) ∧
              (¬ i2 = (1 : Int32) →
                vp_in i1 20 ∧
                ((V2 114 ((i1).toNatClampNeg)) = (0 : Int32) →
                  (i2 = (2 : Int32) →
                    vp_in i1 20 ∧
                    K (some (.int (1 : Int32))) (aa_up V2 114 ((i1).toNatClampNeg) (2 : Int32))) ∧
                  (¬ i2 = (2 : Int32) →
                    vp_in i1 20 ∧
                    K (some (.int (1 : Int32))) (aa_up V2 114 ((i1).toNatClampNeg) (0 : Int32)))) ∧
                (¬ (V2 114 ((i1).toNatClampNeg)) = (0 : Int32) →
                  K (some (.int (-3 : Int32))) V2)))))))))) :
    ab_E G (ac_ST L xs) l (d + 1) ac_SK 208 [.ref 105, .int i1, .int i2] V K := ab_wm cd_208_ok [] 101 _ _ _ _ h

set_option maxRecDepth 20000 in
/-- FrameCountyModel keeps(I)I, from 0 -/
theorem vc_209_0 {G : ab_G} {L : Nat} {xs : Nat → Int32} {l : Launch} {d : Nat} {i1 : Int32} {V : aa_V} {K : aa_K} (h :
    ab_E G (ac_ST L xs) l d ac_SK 199 [.ref 105, .int i1] V (aa_rI (fun x1 V1 =>
      (x1 = 0 →
        K (some (.int (-2 : Int32))) V1) ∧
      (¬ x1 = 0 →
        ab_J G (ac_ST L xs) l (d + 1) 209 15 [some (.ref 105), some (.int i1), some (.int (1 : Int32)), some (.int (0 : Int32))] [] ac_SK V1 ac_SK K)))) :
    ab_E G (ac_ST L xs) l (d + 1) ac_SK 209 [.ref 105, .int i1] V K := ab_wm cd_209_ok [(15, [true, true, true, true])] 16 _ _ _ _ h

set_option maxRecDepth 20000 in
/-- FrameCountyModel keeps(I)I, from 15 -/
theorem vc_209_15 {G : ab_G} {L : Nat} {xs : Nat → Int32} {l : Launch} {d : Nat} {i1 : Int32} {i2 : Int32} {i3 : Int32} {V : aa_V} {K : aa_K} (h :
    (i3 < (V 105 12) →
      vp_in i3 20 ∧
      ((V 111 ((i3).toNatClampNeg)) = i1 →
        vp_in i3 20 ∧
        ((V 114 ((i3).toNatClampNeg)) = 0 →
          vp_in i1 8 ∧
          ab_E G (ac_ST L xs) l d ac_SK 227 [.ref 105, .int i3] V (aa_rI (fun x1 V1 =>
            ((V 109 ((i1).toNatClampNeg)) < x1 →
              ab_J G (ac_ST L xs) l (d + 1) 209 15 [some (.ref 105), some (.int i1), some (.int (0 : Int32)), some (.int (i3 + 1))] [] ac_SK V1 ac_SK K) ∧
            (¬ (V 109 ((i1).toNatClampNeg)) < x1 →
              ab_J G (ac_ST L xs) l (d + 1) 209 15 [some (.ref 105), some (.int i1), some (.int i2), some (.int (i3 + 1))] [] ac_SK V1 ac_SK K)))) ∧
        (¬ (V 114 ((i3).toNatClampNeg)) = 0 →
          ab_J G (ac_ST L xs) l (d + 1) 209 15 [some (.ref 105), some (.int i1), some (.int i2), some (.int (i3 + 1))] [] ac_SK V ac_SK K)) ∧
      (¬ (V 111 ((i3).toNatClampNeg)) = i1 →
        ab_J G (ac_ST L xs) l (d + 1) 209 15 [some (.ref 105), some (.int i1), some (.int i2), some (.int (i3 + 1))] [] ac_SK V ac_SK K)) ∧
    (¬ i3 < (V 105 12) →
      K (some (.int i2)) V)) :
    ab_J G (ac_ST L xs) l (d + 1) 209 15 [some (.ref 105), some (.int i1), some (.int i2), some (.int i3)] [] ac_SK V ac_SK K := ab_wm cd_209_ok [(15, [true, true, true, true])] 44 _ _ _ _ h

set_option maxRecDepth 20000 in
/-- FrameCountyModel earns(I)J, from 0 -/
theorem vc_210_0 {G : ab_G} {L : Nat} {xs : Nat → Int32} {l : Launch} {d : Nat} {i1 : Int32} {V : aa_V} {K : aa_K} (h :
    ab_E G (ac_ST L xs) l d ac_SK 199 [.ref 105, .int i1] V (aa_rI (fun x1 V1 =>
      (x1 = 0 →
        K (some (.long (-4611686018427387904 : Int64))) V1) ∧
      (¬ x1 = 0 →
        ab_J G (ac_ST L xs) l (d + 1) 210 17 [some (.ref 105), some (.int i1), some (.long (0 : Int64)), none, some (.int (0 : Int32))] [] ac_SK V1 ac_SK K)))) :
    ab_E G (ac_ST L xs) l (d + 1) ac_SK 210 [.ref 105, .int i1] V K := ab_wm cd_210_ok [(17, [true, true, true, false, true])] 16 _ _ _ _ h

set_option maxRecDepth 20000 in
/-- FrameCountyModel earns(I)J, from 17 -/
theorem vc_210_17 {G : ab_G} {L : Nat} {xs : Nat → Int32} {l : Launch} {d : Nat} {i1 : Int32} {l2 : Int64} {i4 : Int32} {V : aa_V} {K : aa_K} (h :
    (i4 < (V 105 12) →
      vp_in i4 20 ∧
      ((V 111 ((i4).toNatClampNeg)) = i1 →
        ab_E G (ac_ST L xs) l d ac_SK 206 [.ref 105, .int i4] V (aa_rI (fun x1 V1 =>
          ab_J G (ac_ST L xs) l (d + 1) 210 17 [some (.ref 105), some (.int i1), some (.long (l2 + (x1.toInt64))), none, some (.int (i4 + 1))] [] ac_SK V1 ac_SK K))) ∧
      (¬ (V 111 ((i4).toNatClampNeg)) = i1 →
        ab_J G (ac_ST L xs) l (d + 1) 210 17 [some (.ref 105), some (.int i1), some (.long (l2 + (0 : Int64))), none, some (.int (i4 + 1))] [] ac_SK V ac_SK K)) ∧
    (¬ i4 < (V 105 12) →
      K (some (.long l2)) V)) :
    ab_J G (ac_ST L xs) l (d + 1) 210 17 [some (.ref 105), some (.int i1), some (.long l2), none, some (.int i4)] [] ac_SK V ac_SK K := ab_wm cd_210_ok [(17, [true, true, true, false, true])] 34 _ _ _ _ h

set_option maxRecDepth 20000 in
/-- FrameCountyModel puts(II)V, from 0 -/
theorem vc_211_0 {G : ab_G} {L : Nat} {xs : Nat → Int32} {l : Launch} {d : Nat} {i1 : Int32} {i2 : Int32} {V : aa_V} {K : aa_K} (h :
    vp_in (V 105 25) 2000 ∧
    vp_in (V 105 25) 2000 ∧
    K none (aa_up (aa_up (aa_up V 117 (((V 105 25)).toNatClampNeg) i1) 118 (((V 105 25)).toNatClampNeg) i2) 105 25 ((V 105 25) + (1 : Int32)))) :
    ab_E G (ac_ST L xs) l (d + 1) ac_SK 211 [.ref 105, .int i1, .int i2] V K := ab_wm cd_211_ok [] 24 _ _ _ _ h

set_option maxRecDepth 20000 in
/-- FrameCountyModel list0()V, from 0 -/
theorem vc_212_0 {G : ab_G} {L : Nat} {xs : Nat → Int32} {l : Launch} {d : Nat} {V : aa_V} {K : aa_K} (h :
    ab_E G (ac_ST L xs) l d ac_SK 211 [.ref 105, .int (0 : Int32), .int (10 : Int32)] V (aa_rV (fun V1 =>
      ab_E G (ac_ST L xs) l d ac_SK 211 [.ref 105, .int (1 : Int32), .int (1 : Int32)] V1 (aa_rV (fun V2 =>
        ab_E G (ac_ST L xs) l d ac_SK 211 [.ref 105, .int (7 : Int32), .int (0 : Int32)] V2 (aa_rV (fun V3 =>
          vp_in (0 : Int32) 12 ∧
          vp_in (1 : Int32) 12 ∧
          ab_E G (ac_ST L xs) l d ac_SK 211 [.ref 105, .int (0 : Int32), .int (1 : Int32)] (aa_up (aa_up V3 120 (((0 : Int32)).toNatClampNeg) (V3 105 25)) 119 (((1 : Int32)).toNatClampNeg) (V3 105 25)) (aa_rV (fun V4 =>
            ab_E G (ac_ST L xs) l d ac_SK 211 [.ref 105, .int (1 : Int32), .int (4 : Int32)] V4 (aa_rV (fun V5 =>
              ab_E G (ac_ST L xs) l d ac_SK 211 [.ref 105, .int (5 : Int32), .int (0 : Int32)] V5 (aa_rV (fun V6 =>
                vp_in (1 : Int32) 12 ∧
                K none (aa_up V6 120 (((1 : Int32)).toNatClampNeg) (V6 105 25))))))))))))))) :
    ab_E G (ac_ST L xs) l (d + 1) ac_SK 212 [.ref 105] V K := ab_wm cd_212_ok [] 48 _ _ _ _ h

set_option maxRecDepth 20000 in
/-- FrameCountyModel feed(IJ)I, from 0 -/
theorem vc_213_0 {G : ab_G} {L : Nat} {xs : Nat → Int32} {l : Launch} {d : Nat} {i1 : Int32} {l2 : Int64} {V : aa_V} {K : aa_K} (h :
    ab_E G (ac_ST L xs) l d ac_SK 192 [.long (i1.toInt64), .long (1 : Int64), .long (8 : Int64)] V (aa_rI (fun x1 V1 =>
      (x1 = 0 →
        K (some (.int (-2 : Int32))) V1) ∧
      (¬ x1 = 0 →
        ((160 : Int32) < ((V1 105 19) + i1) →
          K (some (.int (-4 : Int32))) V1) ∧
        (¬ (160 : Int32) < ((V1 105 19) + i1) →
          ab_J G (ac_ST L xs) l (d + 1) 213 33 [some (.ref 105), some (.int i1), some (.long l2), none, some (.int (0 : Int32))] [] ac_SK V1 ac_SK K))))) :
    ab_E G (ac_ST L xs) l (d + 1) ac_SK 213 [.ref 105, .int i1, .long l2] V K := ab_wm cd_213_ok [(33, [true, true, true, false, true])] 24 _ _ _ _ h

set_option maxRecDepth 20000 in
/-- FrameCountyModel feed(IJ)I, from 33 -/
theorem vc_213_33 {G : ab_G} {L : Nat} {xs : Nat → Int32} {l : Launch} {d : Nat} {i1 : Int32} {l2 : Int64} {i4 : Int32} {V : aa_V} {K : aa_K} (h :
    (i4 < i1 →
      vp_in (V 105 19) 160 ∧
      ab_J G (ac_ST L xs) l (d + 1) 213 33 [some (.ref 105), some (.int i1), some (.long l2), none, some (.int (i4 + 1))] [] ac_SK (aa_up (aa_up V 116 (((V 105 19)).toNatClampNeg) (((l2 >>> (((8 : Int32) * i4).toInt64 &&& 63)) &&& (255 : Int64)).toInt32)) 105 19 ((V 105 19) + (1 : Int32))) ac_SK K) ∧
    (¬ i4 < i1 →
      K (some (.int (V 105 19))) V)) :
    ab_J G (ac_ST L xs) l (d + 1) 213 33 [some (.ref 105), some (.int i1), some (.long l2), none, some (.int i4)] [] ac_SK V ac_SK K := ab_wm cd_213_ok [(33, [true, true, true, false, true])] 33 _ _ _ _ h

set_option maxRecDepth 20000 in
/-- FrameCountyModel isLetter(I)Z, from 0 -/
theorem vc_214_0 {G : ab_G} {L : Nat} {xs : Nat → Int32} {l : Launch} {d : Nat} {i0 : Int32} {V : aa_V} {K : aa_K} (h :
    (i0 < (97 : Int32) →
      aa_bit (0 : Int32) ∧ K (some (.int (0 : Int32))) V) ∧
    (¬ i0 < (97 : Int32) →
      ((122 : Int32) < i0 →
        aa_bit (0 : Int32) ∧ K (some (.int (0 : Int32))) V) ∧
      (¬ (122 : Int32) < i0 →
        aa_bit (1 : Int32) ∧ K (some (.int (1 : Int32))) V))) :
    ab_E G (ac_ST L xs) l (d + 1) ac_SK 214 [.int i0] V K := ab_wm cd_214_ok [] 18 _ _ _ _ h

set_option maxRecDepth 20000 in
/-- FrameCountyModel isDigit(I)Z, from 0 -/
theorem vc_215_0 {G : ab_G} {L : Nat} {xs : Nat → Int32} {l : Launch} {d : Nat} {i0 : Int32} {V : aa_V} {K : aa_K} (h :
    (i0 < (48 : Int32) →
      aa_bit (0 : Int32) ∧ K (some (.int (0 : Int32))) V) ∧
    (¬ i0 < (48 : Int32) →
      ((57 : Int32) < i0 →
        aa_bit (0 : Int32) ∧ K (some (.int (0 : Int32))) V) ∧
      (¬ (57 : Int32) < i0 →
        aa_bit (1 : Int32) ∧ K (some (.int (1 : Int32))) V))) :
    ab_E G (ac_ST L xs) l (d + 1) ac_SK 215 [.int i0] V K := ab_wm cd_215_ok [] 18 _ _ _ _ h

set_option maxRecDepth 20000 in
/-- FrameCountyModel isWord(JI)Z, from 0 -/
theorem vc_216_0 {G : ab_G} {L : Nat} {xs : Nat → Int32} {l : Launch} {d : Nat} {l1 : Int64} {i3 : Int32} {V : aa_V} {K : aa_K} (h :
    (((V 105 22) - (V 105 27)) = i3 →
      ab_J G (ac_ST L xs) l (d + 1) 216 18 [some (.ref 105), some (.long l1), none, some (.int i3), some (.int (0 : Int32))] [] ac_SK V ac_SK K) ∧
    (¬ ((V 105 22) - (V 105 27)) = i3 →
      aa_bit (0 : Int32) ∧ K (some (.int (0 : Int32))) V)) :
    ab_E G (ac_ST L xs) l (d + 1) ac_SK 216 [.ref 105, .long l1, .int i3] V K := ab_wm cd_216_ok [(18, [true, true, false, true, true])] 17 _ _ _ _ h

set_option maxRecDepth 20000 in
/-- FrameCountyModel isWord(JI)Z, from 18 -/
theorem vc_216_18 {G : ab_G} {L : Nat} {xs : Nat → Int32} {l : Launch} {d : Nat} {l1 : Int64} {i3 : Int32} {i4 : Int32} {V : aa_V} {K : aa_K} (h :
    (i4 < i3 →
      vp_in ((V 105 27) + i4) 160 ∧
      ((lg_cmp ((V 116 ((((V 105 27) + i4)).toNatClampNeg)).toInt64) ((l1 >>> (((8 : Int32) * ((i3 - (1 : Int32)) - i4)).toInt64 &&& 63)) &&& (255 : Int64))) = 0 →
        ab_J G (ac_ST L xs) l (d + 1) 216 18 [some (.ref 105), some (.long l1), none, some (.int i3), some (.int (i4 + 1))] [] ac_SK V ac_SK K) ∧
      (¬ (lg_cmp ((V 116 ((((V 105 27) + i4)).toNatClampNeg)).toInt64) ((l1 >>> (((8 : Int32) * ((i3 - (1 : Int32)) - i4)).toInt64 &&& 63)) &&& (255 : Int64))) = 0 →
        aa_bit (0 : Int32) ∧ K (some (.int (0 : Int32))) V)) ∧
    (¬ i4 < i3 →
      aa_bit (1 : Int32) ∧ K (some (.int (1 : Int32))) V)) :
    ab_J G (ac_ST L xs) l (d + 1) 216 18 [some (.ref 105), some (.long l1), none, some (.int i3), some (.int i4)] [] ac_SK V ac_SK K := ab_wm cd_216_ok [(18, [true, true, false, true, true])] 36 _ _ _ _ h

set_option maxRecDepth 20000 in
/-- FrameCountyModel reads()V, from 0 -/
theorem vc_217_0 {G : ab_G} {L : Nat} {xs : Nat → Int32} {l : Launch} {d : Nat} {V : aa_V} {K : aa_K} (h :
    ((V 105 22) < (V 105 19) →
      vp_in (V 105 22) 160 ∧
      ((V 116 (((V 105 22)).toNatClampNeg)) = (32 : Int32) →
        ab_J G (ac_ST L xs) l (d + 1) 217 39 [some (.ref 105), none] [] ac_SK V ac_SK K) ∧
      (¬ (V 116 (((V 105 22)).toNatClampNeg)) = (32 : Int32) →
        vp_in (V 105 22) 160 ∧
        ((V 116 (((V 105 22)).toNatClampNeg)) = (10 : Int32) →
          ab_J G (ac_ST L xs) l (d + 1) 217 39 [some (.ref 105), none] [] ac_SK V ac_SK K) ∧
        (¬ (V 116 (((V 105 22)).toNatClampNeg)) = (10 : Int32) →
          ab_J G (ac_ST L xs) l (d + 1) 217 52 [some (.ref 105), none] [] ac_SK V ac_SK K))) ∧
    (¬ (V 105 22) < (V 105 19) →
      ab_J G (ac_ST L xs) l (d + 1) 217 52 [some (.ref 105), none] [] ac_SK V ac_SK K)) :
    ab_E G (ac_ST L xs) l (d + 1) ac_SK 217 [.ref 105] V K := ab_wm cd_217_ok [(0, [true, false]), (39, [true, false]), (52, [true, false]), (114, [true, false]), (197, [true, false]), (229, [true, false]), (268, [true, false]), (327, [true, true]), (342, [false, false])] 28 _ _ _ _ h

set_option maxRecDepth 20000 in
/-- FrameCountyModel reads()V, from 39 -/
theorem vc_217_39 {G : ab_G} {L : Nat} {xs : Nat → Int32} {l : Launch} {d : Nat} {V : aa_V} {K : aa_K} (h :
    ab_J G (ac_ST L xs) l (d + 1) 217 0 [some (.ref 105), none] [] ac_SK (aa_up V 105 22 ((V 105 22) + (1 : Int32))) ac_SK K) :
    ab_J G (ac_ST L xs) l (d + 1) 217 39 [some (.ref 105), none] [] ac_SK V ac_SK K := ab_wm cd_217_ok [(0, [true, false]), (39, [true, false]), (52, [true, false]), (114, [true, false]), (197, [true, false]), (229, [true, false]), (268, [true, false]), (327, [true, true]), (342, [false, false])] 13 _ _ _ _ h

set_option maxRecDepth 20000 in
/-- FrameCountyModel reads()V, from 52 -/
theorem vc_217_52 {G : ab_G} {L : Nat} {xs : Nat → Int32} {l : Launch} {d : Nat} {V : aa_V} {K : aa_K} (h :
    ((V 105 22) = (V 105 19) →
      ((V 105 22) = (V 105 19) →
        K none (aa_up (aa_up (aa_up V 105 27 (V 105 22)) 105 26 (0 : Int32)) 105 28 (0 : Int32))) ∧
      (¬ (V 105 22) = (V 105 19) →
        vp_in (V 105 22) 160 ∧
        ab_E G (ac_ST L xs) l d ac_SK 215 [.int (V 116 (((V 105 22)).toNatClampNeg))] (aa_up (aa_up (aa_up V 105 27 (V 105 22)) 105 26 (0 : Int32)) 105 28 (0 : Int32)) (aa_rI (fun x1 V1 =>
          (x1 = 0 →
            ab_E G (ac_ST L xs) l d ac_SK 214 [.int (V 116 (((V 105 22)).toNatClampNeg))] V1 (aa_rI (fun x2 V2 =>
              (x2 = 0 →
                ((V 116 (((V 105 22)).toNatClampNeg)) = (40 : Int32) →
                  ab_J G (ac_ST L xs) l (d + 1) 217 327 [some (.ref 105), some (.int (V 116 (((V 105 22)).toNatClampNeg)))] [] ac_SK V2 ac_SK K) ∧
                (¬ (V 116 (((V 105 22)).toNatClampNeg)) = (40 : Int32) →
                  ((V 116 (((V 105 22)).toNatClampNeg)) = (41 : Int32) →
                    ab_J G (ac_ST L xs) l (d + 1) 217 327 [some (.ref 105), some (.int (V 116 (((V 105 22)).toNatClampNeg)))] [] ac_SK V2 ac_SK K) ∧
                  (¬ (V 116 (((V 105 22)).toNatClampNeg)) = (41 : Int32) →
                    ((V 116 (((V 105 22)).toNatClampNeg)) = (59 : Int32) →
                      ab_J G (ac_ST L xs) l (d + 1) 217 327 [some (.ref 105), some (.int (V 116 (((V 105 22)).toNatClampNeg)))] [] ac_SK V2 ac_SK K) ∧
                    (¬ (V 116 (((V 105 22)).toNatClampNeg)) = (59 : Int32) →
                      ((V 116 (((V 105 22)).toNatClampNeg)) = (43 : Int32) →
                        ab_J G (ac_ST L xs) l (d + 1) 217 327 [some (.ref 105), some (.int (V 116 (((V 105 22)).toNatClampNeg)))] [] ac_SK V2 ac_SK K) ∧
                      (¬ (V 116 (((V 105 22)).toNatClampNeg)) = (43 : Int32) →
                        ((V 116 (((V 105 22)).toNatClampNeg)) = (45 : Int32) →
                          ab_J G (ac_ST L xs) l (d + 1) 217 327 [some (.ref 105), some (.int (V 116 (((V 105 22)).toNatClampNeg)))] [] ac_SK V2 ac_SK K) ∧
                        (¬ (V 116 (((V 105 22)).toNatClampNeg)) = (45 : Int32) →
                          ((V 116 (((V 105 22)).toNatClampNeg)) = (42 : Int32) →
                            ab_J G (ac_ST L xs) l (d + 1) 217 327 [some (.ref 105), some (.int (V 116 (((V 105 22)).toNatClampNeg)))] [] ac_SK V2 ac_SK K) ∧
                          (¬ (V 116 (((V 105 22)).toNatClampNeg)) = (42 : Int32) →
                            ((V 116 (((V 105 22)).toNatClampNeg)) = (60 : Int32) →
                              ab_J G (ac_ST L xs) l (d + 1) 217 327 [some (.ref 105), some (.int (V 116 (((V 105 22)).toNatClampNeg)))] [] ac_SK V2 ac_SK K) ∧
                            (¬ (V 116 (((V 105 22)).toNatClampNeg)) = (60 : Int32) →
                              ((V 116 (((V 105 22)).toNatClampNeg)) = (61 : Int32) →
                                ab_J G (ac_ST L xs) l (d + 1) 217 327 [some (.ref 105), some (.int (V 116 (((V 105 22)).toNatClampNeg)))] [] ac_SK V2 ac_SK K) ∧
                              (¬ (V 116 (((V 105 22)).toNatClampNeg)) = (61 : Int32) →
                                ab_J G (ac_ST L xs) l (d + 1) 217 342 [none, none] [] ac_SK V2 ac_SK K))))))))) ∧
              (¬ x2 = 0 →
                ab_J G (ac_ST L xs) l (d + 1) 217 229 [some (.ref 105), none] [] ac_SK V2 ac_SK K)))) ∧
          (¬ x1 = 0 →
            ab_J G (ac_ST L xs) l (d + 1) 217 114 [some (.ref 105), none] [] ac_SK V1 ac_SK K))))) ∧
    (¬ (V 105 22) = (V 105 19) →
      ((V 105 22) = (V 105 19) →
        K none (aa_up (aa_up (aa_up V 105 27 (V 105 22)) 105 26 (-1 : Int32)) 105 28 (0 : Int32))) ∧
      (¬ (V 105 22) = (V 105 19) →
        vp_in (V 105 22) 160 ∧
        ab_E G (ac_ST L xs) l d ac_SK 215 [.int (V 116 (((V 105 22)).toNatClampNeg))] (aa_up (aa_up (aa_up V 105 27 (V 105 22)) 105 26 (-1 : Int32)) 105 28 (0 : Int32)) (aa_rI (fun x1 V1 =>
          (x1 = 0 →
            ab_E G (ac_ST L xs) l d ac_SK 214 [.int (V 116 (((V 105 22)).toNatClampNeg))] V1 (aa_rI (fun x2 V2 =>
              (x2 = 0 →
                ((V 116 (((V 105 22)).toNatClampNeg)) = (40 : Int32) →
                  ab_J G (ac_ST L xs) l (d + 1) 217 327 [some (.ref 105), some (.int (V 116 (((V 105 22)).toNatClampNeg)))] [] ac_SK V2 ac_SK K) ∧
                (¬ (V 116 (((V 105 22)).toNatClampNeg)) = (40 : Int32) →
                  ((V 116 (((V 105 22)).toNatClampNeg)) = (41 : Int32) →
                    ab_J G (ac_ST L xs) l (d + 1) 217 327 [some (.ref 105), some (.int (V 116 (((V 105 22)).toNatClampNeg)))] [] ac_SK V2 ac_SK K) ∧
                  (¬ (V 116 (((V 105 22)).toNatClampNeg)) = (41 : Int32) →
                    ((V 116 (((V 105 22)).toNatClampNeg)) = (59 : Int32) →
                      ab_J G (ac_ST L xs) l (d + 1) 217 327 [some (.ref 105), some (.int (V 116 (((V 105 22)).toNatClampNeg)))] [] ac_SK V2 ac_SK K) ∧
                    (¬ (V 116 (((V 105 22)).toNatClampNeg)) = (59 : Int32) →
                      ((V 116 (((V 105 22)).toNatClampNeg)) = (43 : Int32) →
                        ab_J G (ac_ST L xs) l (d + 1) 217 327 [some (.ref 105), some (.int (V 116 (((V 105 22)).toNatClampNeg)))] [] ac_SK V2 ac_SK K) ∧
                      (¬ (V 116 (((V 105 22)).toNatClampNeg)) = (43 : Int32) →
                        ((V 116 (((V 105 22)).toNatClampNeg)) = (45 : Int32) →
                          ab_J G (ac_ST L xs) l (d + 1) 217 327 [some (.ref 105), some (.int (V 116 (((V 105 22)).toNatClampNeg)))] [] ac_SK V2 ac_SK K) ∧
                        (¬ (V 116 (((V 105 22)).toNatClampNeg)) = (45 : Int32) →
                          ((V 116 (((V 105 22)).toNatClampNeg)) = (42 : Int32) →
                            ab_J G (ac_ST L xs) l (d + 1) 217 327 [some (.ref 105), some (.int (V 116 (((V 105 22)).toNatClampNeg)))] [] ac_SK V2 ac_SK K) ∧
                          (¬ (V 116 (((V 105 22)).toNatClampNeg)) = (42 : Int32) →
                            ((V 116 (((V 105 22)).toNatClampNeg)) = (60 : Int32) →
                              ab_J G (ac_ST L xs) l (d + 1) 217 327 [some (.ref 105), some (.int (V 116 (((V 105 22)).toNatClampNeg)))] [] ac_SK V2 ac_SK K) ∧
                            (¬ (V 116 (((V 105 22)).toNatClampNeg)) = (60 : Int32) →
                              ((V 116 (((V 105 22)).toNatClampNeg)) = (61 : Int32) →
                                ab_J G (ac_ST L xs) l (d + 1) 217 327 [some (.ref 105), some (.int (V 116 (((V 105 22)).toNatClampNeg)))] [] ac_SK V2 ac_SK K) ∧
                              (¬ (V 116 (((V 105 22)).toNatClampNeg)) = (61 : Int32) →
                                ab_J G (ac_ST L xs) l (d + 1) 217 342 [none, none] [] ac_SK V2 ac_SK K))))))))) ∧
              (¬ x2 = 0 →
                ab_J G (ac_ST L xs) l (d + 1) 217 229 [some (.ref 105), none] [] ac_SK V2 ac_SK K)))) ∧
          (¬ x1 = 0 →
            ab_J G (ac_ST L xs) l (d + 1) 217 114 [some (.ref 105), none] [] ac_SK V1 ac_SK K)))))) :
    ab_J G (ac_ST L xs) l (d + 1) 217 52 [some (.ref 105), none] [] ac_SK V ac_SK K := ab_wm cd_217_ok [(0, [true, false]), (39, [true, false]), (52, [true, false]), (114, [true, false]), (197, [true, false]), (229, [true, false]), (268, [true, false]), (327, [true, true]), (342, [false, false])] 132 _ _ _ _ h

set_option maxRecDepth 20000 in
/-- FrameCountyModel reads()V, from 114 -/
theorem vc_217_114 {G : ab_G} {L : Nat} {xs : Nat → Int32} {l : Launch} {d : Nat} {V : aa_V} {K : aa_K} (h :
    ((V 105 22) < (V 105 19) →
      vp_in (V 105 22) 160 ∧
      ab_E G (ac_ST L xs) l d ac_SK 215 [.int (V 116 (((V 105 22)).toNatClampNeg))] V (aa_rI (fun x1 V1 =>
        (x1 = 0 →
          ab_J G (ac_ST L xs) l (d + 1) 217 197 [some (.ref 105), none] [] ac_SK V1 ac_SK K) ∧
        (¬ x1 = 0 →
          (((V1 105 22) - (V1 105 27)) < (4 : Int32) →
            vp_in (V1 105 22) 160 ∧
            ab_J G (ac_ST L xs) l (d + 1) 217 114 [some (.ref 105), none] [] ac_SK (aa_up (aa_up V1 105 28 ((((10 : Int32) * (V1 105 28)) + (V1 116 (((V1 105 22)).toNatClampNeg))) - (48 : Int32))) 105 22 ((V1 105 22) + (1 : Int32))) ac_SK K) ∧
          (¬ ((V1 105 22) - (V1 105 27)) < (4 : Int32) →
            ab_J G (ac_ST L xs) l (d + 1) 217 114 [some (.ref 105), none] [] ac_SK (aa_up (aa_up V1 105 28 (V1 105 28)) 105 22 ((V1 105 22) + (1 : Int32))) ac_SK K))))) ∧
    (¬ (V 105 22) < (V 105 19) →
      ab_J G (ac_ST L xs) l (d + 1) 217 197 [some (.ref 105), none] [] ac_SK V ac_SK K)) :
    ab_J G (ac_ST L xs) l (d + 1) 217 114 [some (.ref 105), none] [] ac_SK V ac_SK K := ab_wm cd_217_ok [(0, [true, false]), (39, [true, false]), (52, [true, false]), (114, [true, false]), (197, [true, false]), (229, [true, false]), (268, [true, false]), (327, [true, true]), (342, [false, false])] 60 _ _ _ _ h

set_option maxRecDepth 20000 in
/-- FrameCountyModel reads()V, from 197 -/
theorem vc_217_197 {G : ab_G} {L : Nat} {xs : Nat → Int32} {l : Launch} {d : Nat} {V : aa_V} {K : aa_K} (h :
    ((4 : Int32) < ((V 105 22) - (V 105 27)) →
      ab_J G (ac_ST L xs) l (d + 1) 217 342 [none, none] [] ac_SK (aa_up V 105 26 (-1 : Int32)) ac_SK K) ∧
    (¬ (4 : Int32) < ((V 105 22) - (V 105 27)) →
      ab_J G (ac_ST L xs) l (d + 1) 217 342 [none, none] [] ac_SK (aa_up V 105 26 (1 : Int32)) ac_SK K)) :
    ab_J G (ac_ST L xs) l (d + 1) 217 197 [some (.ref 105), none] [] ac_SK V ac_SK K := ab_wm cd_217_ok [(0, [true, false]), (39, [true, false]), (52, [true, false]), (114, [true, false]), (197, [true, false]), (229, [true, false]), (268, [true, false]), (327, [true, true]), (342, [false, false])] 22 _ _ _ _ h

set_option maxRecDepth 20000 in
/-- FrameCountyModel reads()V, from 229 -/
theorem vc_217_229 {G : ab_G} {L : Nat} {xs : Nat → Int32} {l : Launch} {d : Nat} {V : aa_V} {K : aa_K} (h :
    ((V 105 22) < (V 105 19) →
      vp_in (V 105 22) 160 ∧
      ab_E G (ac_ST L xs) l d ac_SK 214 [.int (V 116 (((V 105 22)).toNatClampNeg))] V (aa_rI (fun x1 V1 =>
        (x1 = 0 →
          ab_J G (ac_ST L xs) l (d + 1) 217 268 [some (.ref 105), none] [] ac_SK V1 ac_SK K) ∧
        (¬ x1 = 0 →
          ab_J G (ac_ST L xs) l (d + 1) 217 229 [some (.ref 105), none] [] ac_SK (aa_up V1 105 22 ((V1 105 22) + (1 : Int32))) ac_SK K)))) ∧
    (¬ (V 105 22) < (V 105 19) →
      ab_J G (ac_ST L xs) l (d + 1) 217 268 [some (.ref 105), none] [] ac_SK V ac_SK K)) :
    ab_J G (ac_ST L xs) l (d + 1) 217 229 [some (.ref 105), none] [] ac_SK V ac_SK K := ab_wm cd_217_ok [(0, [true, false]), (39, [true, false]), (52, [true, false]), (114, [true, false]), (197, [true, false]), (229, [true, false]), (268, [true, false]), (327, [true, true]), (342, [false, false])] 27 _ _ _ _ h

set_option maxRecDepth 20000 in
/-- FrameCountyModel reads()V, from 268 -/
theorem vc_217_268 {G : ab_G} {L : Nat} {xs : Nat → Int32} {l : Launch} {d : Nat} {V : aa_V} {K : aa_K} (h :
    ab_E G (ac_ST L xs) l d ac_SK 218 [.ref 105] V (aa_rI (fun x1 V1 =>
      ab_J G (ac_ST L xs) l (d + 1) 217 342 [none, none] [] ac_SK (aa_up V1 105 26 x1) ac_SK K))) :
    ab_J G (ac_ST L xs) l (d + 1) 217 268 [some (.ref 105), none] [] ac_SK V ac_SK K := ab_wm cd_217_ok [(0, [true, false]), (39, [true, false]), (52, [true, false]), (114, [true, false]), (197, [true, false]), (229, [true, false]), (268, [true, false]), (327, [true, true]), (342, [false, false])] 11 _ _ _ _ h

set_option maxRecDepth 20000 in
/-- FrameCountyModel reads()V, from 327 -/
theorem vc_217_327 {G : ab_G} {L : Nat} {xs : Nat → Int32} {l : Launch} {d : Nat} {i1 : Int32} {V : aa_V} {K : aa_K} (h :
    ab_J G (ac_ST L xs) l (d + 1) 217 342 [none, none] [] ac_SK (aa_up (aa_up V 105 26 i1) 105 22 ((V 105 22) + (1 : Int32))) ac_SK K) :
    ab_J G (ac_ST L xs) l (d + 1) 217 327 [some (.ref 105), some (.int i1)] [] ac_SK V ac_SK K := ab_wm cd_217_ok [(0, [true, false]), (39, [true, false]), (52, [true, false]), (114, [true, false]), (197, [true, false]), (229, [true, false]), (268, [true, false]), (327, [true, true]), (342, [false, false])] 15 _ _ _ _ h

set_option maxRecDepth 20000 in
/-- FrameCountyModel reads()V, from 342 -/
theorem vc_217_342 {G : ab_G} {L : Nat} {xs : Nat → Int32} {l : Launch} {d : Nat} {V : aa_V} {K : aa_K} (h :
    K none V) :
    ab_J G (ac_ST L xs) l (d + 1) 217 342 [none, none] [] ac_SK V ac_SK K := ab_wm cd_217_ok [(0, [true, false]), (39, [true, false]), (52, [true, false]), (114, [true, false]), (197, [true, false]), (229, [true, false]), (268, [true, false]), (327, [true, true]), (342, [false, false])] 6 _ _ _ _ h

set_option maxRecDepth 20000 in
/-- FrameCountyModel word()I, from 0 -/
theorem vc_218_0 {G : ab_G} {L : Nat} {xs : Nat → Int32} {l : Launch} {d : Nat} {V : aa_V} {K : aa_K} (h :
    ab_E G (ac_ST L xs) l d ac_SK 216 [.ref 105, .long (1802071652 : Int64), .int (4 : Int32)] V (aa_rI (fun x1 V1 =>
      (x1 = 0 →
        ab_E G (ac_ST L xs) l d ac_SK 216 [.ref 105, .long (512869299304 : Int64), .int (5 : Int32)] V1 (aa_rI (fun x2 V2 =>
          (x2 = 0 →
            ab_E G (ac_ST L xs) l d ac_SK 216 [.ref 105, .long (2003133803 : Int64), .int (4 : Int32)] V2 (aa_rI (fun x3 V3 =>
              (x3 = 0 →
                ab_E G (ac_ST L xs) l d ac_SK 216 [.ref 105, .long (1919250036 : Int64), .int (4 : Int32)] V3 (aa_rI (fun x4 V4 =>
                  (x4 = 0 →
                    ab_E G (ac_ST L xs) l d ac_SK 216 [.ref 105, .long (512970876019 : Int64), .int (5 : Int32)] V4 (aa_rI (fun x5 V5 =>
                      (x5 = 0 →
                        ab_E G (ac_ST L xs) l d ac_SK 216 [.ref 105, .long (1885432164 : Int64), .int (4 : Int32)] V5 (aa_rI (fun x6 V6 =>
                          (x6 = 0 →
                            ((-1 : Int32) < 0 →
                              ab_E G (ac_ST L xs) l d ac_SK 216 [.ref 105, .long (28530 : Int64), .int (2 : Int32)] (aa_up V6 105 28 (-1 : Int32)) (aa_rI (fun x7 V7 =>
                                (x7 = 0 →
                                  ab_E G (ac_ST L xs) l d ac_SK 216 [.ref 105, .long (6385252 : Int64), .int (3 : Int32)] V7 (aa_rI (fun x8 V8 =>
                                    (x8 = 0 →
                                      ab_E G (ac_ST L xs) l d ac_SK 216 [.ref 105, .long (7237492 : Int64), .int (3 : Int32)] V8 (aa_rI (fun x9 V9 =>
                                        (x9 = 0 →
                                          ab_E G (ac_ST L xs) l d ac_SK 216 [.ref 105, .long (482955846501 : Int64), .int (5 : Int32)] V9 (aa_rI (fun x10 V10 =>
                                            (x10 = 0 →
                                              ab_E G (ac_ST L xs) l d ac_SK 216 [.ref 105, .long (1752132708 : Int64), .int (4 : Int32)] V10 (aa_rI (fun x11 V11 =>
                                                (x11 = 0 →
                                                  K (some (.int (-1 : Int32))) V11) ∧
                                                (¬ x11 = 0 →
                                                  K (some (.int (7 : Int32))) V11)))) ∧
                                            (¬ x10 = 0 →
                                              K (some (.int (6 : Int32))) V10)))) ∧
                                        (¬ x9 = 0 →
                                          K (some (.int (5 : Int32))) V9)))) ∧
                                    (¬ x8 = 0 →
                                      K (some (.int (4 : Int32))) V8)))) ∧
                                (¬ x7 = 0 →
                                  K (some (.int (3 : Int32))) V7)))) ∧
                            (¬ (-1 : Int32) < 0 →
                              K (some (.int (2 : Int32))) (aa_up V6 105 28 (-1 : Int32)))) ∧
                          (¬ x6 = 0 →
                            ((5 : Int32) < 0 →
                              ab_E G (ac_ST L xs) l d ac_SK 216 [.ref 105, .long (28530 : Int64), .int (2 : Int32)] (aa_up V6 105 28 (5 : Int32)) (aa_rI (fun x7 V7 =>
                                (x7 = 0 →
                                  ab_E G (ac_ST L xs) l d ac_SK 216 [.ref 105, .long (6385252 : Int64), .int (3 : Int32)] V7 (aa_rI (fun x8 V8 =>
                                    (x8 = 0 →
                                      ab_E G (ac_ST L xs) l d ac_SK 216 [.ref 105, .long (7237492 : Int64), .int (3 : Int32)] V8 (aa_rI (fun x9 V9 =>
                                        (x9 = 0 →
                                          ab_E G (ac_ST L xs) l d ac_SK 216 [.ref 105, .long (482955846501 : Int64), .int (5 : Int32)] V9 (aa_rI (fun x10 V10 =>
                                            (x10 = 0 →
                                              ab_E G (ac_ST L xs) l d ac_SK 216 [.ref 105, .long (1752132708 : Int64), .int (4 : Int32)] V10 (aa_rI (fun x11 V11 =>
                                                (x11 = 0 →
                                                  K (some (.int (-1 : Int32))) V11) ∧
                                                (¬ x11 = 0 →
                                                  K (some (.int (7 : Int32))) V11)))) ∧
                                            (¬ x10 = 0 →
                                              K (some (.int (6 : Int32))) V10)))) ∧
                                        (¬ x9 = 0 →
                                          K (some (.int (5 : Int32))) V9)))) ∧
                                    (¬ x8 = 0 →
                                      K (some (.int (4 : Int32))) V8)))) ∧
                                (¬ x7 = 0 →
                                  K (some (.int (3 : Int32))) V7)))) ∧
                            (¬ (5 : Int32) < 0 →
                              K (some (.int (2 : Int32))) (aa_up V6 105 28 (5 : Int32))))))) ∧
                      (¬ x5 = 0 →
                        ((4 : Int32) < 0 →
                          ab_E G (ac_ST L xs) l d ac_SK 216 [.ref 105, .long (28530 : Int64), .int (2 : Int32)] (aa_up V5 105 28 (4 : Int32)) (aa_rI (fun x6 V6 =>
                            (x6 = 0 →
                              ab_E G (ac_ST L xs) l d ac_SK 216 [.ref 105, .long (6385252 : Int64), .int (3 : Int32)] V6 (aa_rI (fun x7 V7 =>
                                (x7 = 0 →
                                  ab_E G (ac_ST L xs) l d ac_SK 216 [.ref 105, .long (7237492 : Int64), .int (3 : Int32)] V7 (aa_rI (fun x8 V8 =>
                                    (x8 = 0 →
                                      ab_E G (ac_ST L xs) l d ac_SK 216 [.ref 105, .long (482955846501 : Int64), .int (5 : Int32)] V8 (aa_rI (fun x9 V9 =>
                                        (x9 = 0 →
                                          ab_E G (ac_ST L xs) l d ac_SK 216 [.ref 105, .long (1752132708 : Int64), .int (4 : Int32)] V9 (aa_rI (fun x10 V10 =>
                                            (x10 = 0 →
                                              K (some (.int (-1 : Int32))) V10) ∧
                                            (¬ x10 = 0 →
                                              K (some (.int (7 : Int32))) V10)))) ∧
                                        (¬ x9 = 0 →
                                          K (some (.int (6 : Int32))) V9)))) ∧
                                    (¬ x8 = 0 →
                                      K (some (.int (5 : Int32))) V8)))) ∧
                                (¬ x7 = 0 →
                                  K (some (.int (4 : Int32))) V7)))) ∧
                            (¬ x6 = 0 →
                              K (some (.int (3 : Int32))) V6)))) ∧
                        (¬ (4 : Int32) < 0 →
                          K (some (.int (2 : Int32))) (aa_up V5 105 28 (4 : Int32))))))) ∧
                  (¬ x4 = 0 →
                    ((3 : Int32) < 0 →
                      ab_E G (ac_ST L xs) l d ac_SK 216 [.ref 105, .long (28530 : Int64), .int (2 : Int32)] (aa_up V4 105 28 (3 : Int32)) (aa_rI (fun x5 V5 =>
                        (x5 = 0 →
                          ab_E G (ac_ST L xs) l d ac_SK 216 [.ref 105, .long (6385252 : Int64), .int (3 : Int32)] V5 (aa_rI (fun x6 V6 =>
                            (x6 = 0 →
                              ab_E G (ac_ST L xs) l d ac_SK 216 [.ref 105, .long (7237492 : Int64), .int (3 : Int32)] V6 (aa_rI (fun x7 V7 =>
                                (x7 = 0 →
                                  ab_E G (ac_ST L xs) l d ac_SK 216 [.ref 105, .long (482955846501 : Int64), .int (5 : Int32)] V7 (aa_rI (fun x8 V8 =>
                                    (x8 = 0 →
                                      ab_E G (ac_ST L xs) l d ac_SK 216 [.ref 105, .long (1752132708 : Int64), .int (4 : Int32)] V8 (aa_rI (fun x9 V9 =>
                                        (x9 = 0 →
                                          K (some (.int (-1 : Int32))) V9) ∧
                                        (¬ x9 = 0 →
                                          K (some (.int (7 : Int32))) V9)))) ∧
                                    (¬ x8 = 0 →
                                      K (some (.int (6 : Int32))) V8)))) ∧
                                (¬ x7 = 0 →
                                  K (some (.int (5 : Int32))) V7)))) ∧
                            (¬ x6 = 0 →
                              K (some (.int (4 : Int32))) V6)))) ∧
                        (¬ x5 = 0 →
                          K (some (.int (3 : Int32))) V5)))) ∧
                    (¬ (3 : Int32) < 0 →
                      K (some (.int (2 : Int32))) (aa_up V4 105 28 (3 : Int32))))))) ∧
              (¬ x3 = 0 →
                ((2 : Int32) < 0 →
                  ab_E G (ac_ST L xs) l d ac_SK 216 [.ref 105, .long (28530 : Int64), .int (2 : Int32)] (aa_up V3 105 28 (2 : Int32)) (aa_rI (fun x4 V4 =>
                    (x4 = 0 →
                      ab_E G (ac_ST L xs) l d ac_SK 216 [.ref 105, .long (6385252 : Int64), .int (3 : Int32)] V4 (aa_rI (fun x5 V5 =>
                        (x5 = 0 →
                          ab_E G (ac_ST L xs) l d ac_SK 216 [.ref 105, .long (7237492 : Int64), .int (3 : Int32)] V5 (aa_rI (fun x6 V6 =>
                            (x6 = 0 →
                              ab_E G (ac_ST L xs) l d ac_SK 216 [.ref 105, .long (482955846501 : Int64), .int (5 : Int32)] V6 (aa_rI (fun x7 V7 =>
                                (x7 = 0 →
                                  ab_E G (ac_ST L xs) l d ac_SK 216 [.ref 105, .long (1752132708 : Int64), .int (4 : Int32)] V7 (aa_rI (fun x8 V8 =>
                                    (x8 = 0 →
                                      K (some (.int (-1 : Int32))) V8) ∧
                                    (¬ x8 = 0 →
                                      K (some (.int (7 : Int32))) V8)))) ∧
                                (¬ x7 = 0 →
                                  K (some (.int (6 : Int32))) V7)))) ∧
                            (¬ x6 = 0 →
                              K (some (.int (5 : Int32))) V6)))) ∧
                        (¬ x5 = 0 →
                          K (some (.int (4 : Int32))) V5)))) ∧
                    (¬ x4 = 0 →
                      K (some (.int (3 : Int32))) V4)))) ∧
                (¬ (2 : Int32) < 0 →
                  K (some (.int (2 : Int32))) (aa_up V3 105 28 (2 : Int32))))))) ∧
          (¬ x2 = 0 →
            ((1 : Int32) < 0 →
              ab_E G (ac_ST L xs) l d ac_SK 216 [.ref 105, .long (28530 : Int64), .int (2 : Int32)] (aa_up V2 105 28 (1 : Int32)) (aa_rI (fun x3 V3 =>
                (x3 = 0 →
                  ab_E G (ac_ST L xs) l d ac_SK 216 [.ref 105, .long (6385252 : Int64), .int (3 : Int32)] V3 (aa_rI (fun x4 V4 =>
                    (x4 = 0 →
                      ab_E G (ac_ST L xs) l d ac_SK 216 [.ref 105, .long (7237492 : Int64), .int (3 : Int32)] V4 (aa_rI (fun x5 V5 =>
                        (x5 = 0 →
                          ab_E G (ac_ST L xs) l d ac_SK 216 [.ref 105, .long (482955846501 : Int64), .int (5 : Int32)] V5 (aa_rI (fun x6 V6 =>
                            (x6 = 0 →
                              ab_E G (ac_ST L xs) l d ac_SK 216 [.ref 105, .long (1752132708 : Int64), .int (4 : Int32)] V6 (aa_rI (fun x7 V7 =>
                                (x7 = 0 →
                                  K (some (.int (-1 : Int32))) V7) ∧
                                (¬ x7 = 0 →
                                  K (some (.int (7 : Int32))) V7)))) ∧
                            (¬ x6 = 0 →
                              K (some (.int (6 : Int32))) V6)))) ∧
                        (¬ x5 = 0 →
                          K (some (.int (5 : Int32))) V5)))) ∧
                    (¬ x4 = 0 →
                      K (some (.int (4 : Int32))) V4)))) ∧
                (¬ x3 = 0 →
                  K (some (.int (3 : Int32))) V3)))) ∧
            (¬ (1 : Int32) < 0 →
              K (some (.int (2 : Int32))) (aa_up V2 105 28 (1 : Int32))))))) ∧
      (¬ x1 = 0 →
        ((0 : Int32) < 0 →
          ab_E G (ac_ST L xs) l d ac_SK 216 [.ref 105, .long (28530 : Int64), .int (2 : Int32)] (aa_up V1 105 28 (0 : Int32)) (aa_rI (fun x2 V2 =>
            (x2 = 0 →
              ab_E G (ac_ST L xs) l d ac_SK 216 [.ref 105, .long (6385252 : Int64), .int (3 : Int32)] V2 (aa_rI (fun x3 V3 =>
                (x3 = 0 →
                  ab_E G (ac_ST L xs) l d ac_SK 216 [.ref 105, .long (7237492 : Int64), .int (3 : Int32)] V3 (aa_rI (fun x4 V4 =>
                    (x4 = 0 →
                      ab_E G (ac_ST L xs) l d ac_SK 216 [.ref 105, .long (482955846501 : Int64), .int (5 : Int32)] V4 (aa_rI (fun x5 V5 =>
                        (x5 = 0 →
                          ab_E G (ac_ST L xs) l d ac_SK 216 [.ref 105, .long (1752132708 : Int64), .int (4 : Int32)] V5 (aa_rI (fun x6 V6 =>
                            (x6 = 0 →
                              K (some (.int (-1 : Int32))) V6) ∧
                            (¬ x6 = 0 →
                              K (some (.int (7 : Int32))) V6)))) ∧
                        (¬ x5 = 0 →
                          K (some (.int (6 : Int32))) V5)))) ∧
                    (¬ x4 = 0 →
                      K (some (.int (5 : Int32))) V4)))) ∧
                (¬ x3 = 0 →
                  K (some (.int (4 : Int32))) V3)))) ∧
            (¬ x2 = 0 →
              K (some (.int (3 : Int32))) V2)))) ∧
        (¬ (0 : Int32) < 0 →
          K (some (.int (2 : Int32))) (aa_up V1 105 28 (0 : Int32))))))) :
    ab_E G (ac_ST L xs) l (d + 1) ac_SK 218 [.ref 105] V K := ab_wm cd_218_ok [] 398 _ _ _ _ h

set_option maxRecDepth 20000 in
/-- FrameCountyModel waits(I)V, from 0 -/
theorem vc_219_0 {G : ab_G} {L : Nat} {xs : Nat → Int32} {l : Launch} {d : Nat} {i1 : Int32} {V : aa_V} {K : aa_K} (h :
    vp_in (V 105 24) 200 ∧
    K none (aa_up (aa_up V 121 (((V 105 24)).toNatClampNeg) i1) 105 24 ((V 105 24) + (1 : Int32)))) :
    ab_E G (ac_ST L xs) l (d + 1) ac_SK 219 [.ref 105, .int i1] V K := ab_wm cd_219_ok [] 18 _ _ _ _ h

set_option maxRecDepth 20000 in
/-- FrameCountyModel works(I)V, from 0 -/
theorem vc_220_0 {G : ab_G} {L : Nat} {xs : Nat → Int32} {l : Launch} {d : Nat} {i1 : Int32} {V : aa_V} {K : aa_K} (h :
    (0 < (V 105 24) →
      vp_in ((V 105 24) - (1 : Int32)) 200 ∧
      ((V 121 ((((V 105 24) - (1 : Int32))).toNatClampNeg)) < i1 →
        K none V) ∧
      (¬ (V 121 ((((V 105 24) - (1 : Int32))).toNatClampNeg)) < i1 →
        vp_in ((V 105 24) - (1 : Int32)) 200 ∧
        ab_E G (ac_ST L xs) l d ac_SK 211 [.ref 105, .int (V 121 ((((V 105 24) - (1 : Int32))).toNatClampNeg)), .int (0 : Int32)] (aa_up V 105 24 ((V 105 24) - (1 : Int32))) (aa_rV (fun V1 =>
          vp_in (V1 105 24) 200 ∧
          ((V1 121 (((V1 105 24)).toNatClampNeg)) = (4 : Int32) →
            ab_J G (ac_ST L xs) l (d + 1) 220 0 [some (.ref 105), some (.int i1)] [] ac_SK (aa_up V1 105 23 ((V1 105 23) - (1 : Int32))) ac_SK K) ∧
          (¬ (V1 121 (((V1 105 24)).toNatClampNeg)) = (4 : Int32) →
            vp_in (V1 105 24) 200 ∧
            ((V1 121 (((V1 105 24)).toNatClampNeg)) = (10 : Int32) →
              ab_J G (ac_ST L xs) l (d + 1) 220 0 [some (.ref 105), some (.int i1)] [] ac_SK (aa_up V1 105 23 ((V1 105 23) - (1 : Int32))) ac_SK K) ∧
            (¬ (V1 121 (((V1 105 24)).toNatClampNeg)) = (10 : Int32) →
              ab_J G (ac_ST L xs) l (d + 1) 220 0 [some (.ref 105), some (.int i1)] [] ac_SK V1 ac_SK K)))))) ∧
    (¬ 0 < (V 105 24) →
      K none V)) :
    ab_E G (ac_ST L xs) l (d + 1) ac_SK 220 [.ref 105, .int i1] V K := ab_wm cd_220_ok [(0, [true, true])] 64 _ _ _ _ h

set_option maxRecDepth 20000 in
/-- FrameCountyModel parses()Z, from 0 -/
theorem vc_221_0 {G : ab_G} {L : Nat} {xs : Nat → Int32} {l : Launch} {d : Nat} {V : aa_V} {K : aa_K} (h :
    ab_J G (ac_ST L xs) l (d + 1) 221 12 [some (.ref 105), some (.int (1 : Int32)), none] [] ac_SK (aa_up (aa_up V 105 24 (0 : Int32)) 105 23 (0 : Int32)) ac_SK K) :
    ab_E G (ac_ST L xs) l (d + 1) ac_SK 221 [.ref 105] V K := ab_wm cd_221_ok [(12, [true, true, false]), (14, [true, true, true]), (38, [true, true, false]), (87, [true, false, true]), (157, [false, false, false]), (169, [true, false, false]), (315, [true, false, false]), (331, [true, false, false]), (379, [true, true, false]), (426, [true, true, false]), (470, [false, false, false]), (472, [true, true, false]), (528, [true, true, false])] 14 _ _ _ _ h

set_option maxRecDepth 20000 in
/-- FrameCountyModel parses()Z, from 12 -/
theorem vc_221_12 {G : ab_G} {L : Nat} {xs : Nat → Int32} {l : Launch} {d : Nat} {i1 : Int32} {V : aa_V} {K : aa_K} (h :
    ab_J G (ac_ST L xs) l (d + 1) 221 14 [some (.ref 105), some (.int i1), some (.int (0 : Int32))] [] ac_SK V ac_SK K) :
    ab_J G (ac_ST L xs) l (d + 1) 221 12 [some (.ref 105), some (.int i1), none] [] ac_SK V ac_SK K := ab_wm cd_221_ok [(12, [true, true, false]), (14, [true, true, true]), (38, [true, true, false]), (87, [true, false, true]), (157, [false, false, false]), (169, [true, false, false]), (315, [true, false, false]), (331, [true, false, false]), (379, [true, true, false]), (426, [true, true, false]), (470, [false, false, false]), (472, [true, true, false]), (528, [true, true, false])] 8 _ _ _ _ h

set_option maxRecDepth 20000 in
/-- FrameCountyModel parses()Z, from 14 -/
theorem vc_221_14 {G : ab_G} {L : Nat} {xs : Nat → Int32} {l : Launch} {d : Nat} {i1 : Int32} {i2 : Int32} {V : aa_V} {K : aa_K} (h :
    (i2 = 0 →
      ab_E G (ac_ST L xs) l d ac_SK 217 [.ref 105] V (aa_rV (fun V1 =>
        ((V1 105 26) = (1 : Int32) →
          ab_J G (ac_ST L xs) l (d + 1) 221 38 [some (.ref 105), some (.int i1), none] [] ac_SK V1 ac_SK K) ∧
        (¬ (V1 105 26) = (1 : Int32) →
          ((V1 105 26) = (2 : Int32) →
            ab_J G (ac_ST L xs) l (d + 1) 221 38 [some (.ref 105), some (.int i1), none] [] ac_SK V1 ac_SK K) ∧
          (¬ (V1 105 26) = (2 : Int32) →
            ((V1 105 26) = (40 : Int32) →
              ab_J G (ac_ST L xs) l (d + 1) 221 87 [some (.ref 105), none, some (.int i2)] [] ac_SK V1 ac_SK K) ∧
            (¬ (V1 105 26) = (40 : Int32) →
              ((V1 105 26) = (45 : Int32) →
                ab_J G (ac_ST L xs) l (d + 1) 221 87 [some (.ref 105), none, some (.int i2)] [] ac_SK V1 ac_SK K) ∧
              (¬ (V1 105 26) = (45 : Int32) →
                ((V1 105 26) = (5 : Int32) →
                  (i1 = 0 →
                    ab_J G (ac_ST L xs) l (d + 1) 221 157 [none, none, none] [] ac_SK V1 ac_SK K) ∧
                  (¬ i1 = 0 →
                    ab_J G (ac_ST L xs) l (d + 1) 221 87 [some (.ref 105), none, some (.int i2)] [] ac_SK V1 ac_SK K)) ∧
                (¬ (V1 105 26) = (5 : Int32) →
                  ab_J G (ac_ST L xs) l (d + 1) 221 157 [none, none, none] [] ac_SK V1 ac_SK K)))))))) ∧
    (¬ i2 = 0 →
      ab_E G (ac_ST L xs) l d ac_SK 220 [.ref 105, .int (10 : Int32)] V (aa_rV (fun V1 =>
        ab_E G (ac_ST L xs) l d ac_SK 217 [.ref 105] V1 (aa_rV (fun V2 =>
          ab_J G (ac_ST L xs) l (d + 1) 221 169 [some (.ref 105), none, none] [] ac_SK V2 ac_SK K)))))) :
    ab_J G (ac_ST L xs) l (d + 1) 221 14 [some (.ref 105), some (.int i1), some (.int i2)] [] ac_SK V ac_SK K := ab_wm cd_221_ok [(12, [true, true, false]), (14, [true, true, true]), (38, [true, true, false]), (87, [true, false, true]), (157, [false, false, false]), (169, [true, false, false]), (315, [true, false, false]), (331, [true, false, false]), (379, [true, true, false]), (426, [true, true, false]), (470, [false, false, false]), (472, [true, true, false]), (528, [true, true, false])] 44 _ _ _ _ h

set_option maxRecDepth 20000 in
/-- FrameCountyModel parses()Z, from 38 -/
theorem vc_221_38 {G : ab_G} {L : Nat} {xs : Nat → Int32} {l : Launch} {d : Nat} {i1 : Int32} {V : aa_V} {K : aa_K} (h :
    ab_E G (ac_ST L xs) l d ac_SK 211 [.ref 105, .int ((V 105 26) - (1 : Int32)), .int (V 105 28)] V (aa_rV (fun V1 =>
      ab_J G (ac_ST L xs) l (d + 1) 221 14 [some (.ref 105), some (.int i1), some (.int (1 : Int32))] [] ac_SK V1 ac_SK K))) :
    ab_J G (ac_ST L xs) l (d + 1) 221 38 [some (.ref 105), some (.int i1), none] [] ac_SK V ac_SK K := ab_wm cd_221_ok [(12, [true, true, false]), (14, [true, true, true]), (38, [true, true, false]), (87, [true, false, true]), (157, [false, false, false]), (169, [true, false, false]), (315, [true, false, false]), (331, [true, false, false]), (379, [true, true, false]), (426, [true, true, false]), (470, [false, false, false]), (472, [true, true, false]), (528, [true, true, false])] 17 _ _ _ _ h

set_option maxRecDepth 20000 in
/-- FrameCountyModel parses()Z, from 87 -/
theorem vc_221_87 {G : ab_G} {L : Nat} {xs : Nat → Int32} {l : Launch} {d : Nat} {i2 : Int32} {V : aa_V} {K : aa_K} (h :
    ((V 105 23) = (5 : Int32) →
      aa_bit (0 : Int32) ∧ K (some (.int (0 : Int32))) V) ∧
    (¬ (V 105 23) = (5 : Int32) →
      ((V 105 26) = (40 : Int32) →
        ab_E G (ac_ST L xs) l d ac_SK 219 [.ref 105, .int (1 : Int32)] (aa_up V 105 23 ((V 105 23) + (1 : Int32))) (aa_rV (fun V1 =>
          ((V1 105 26) = (45 : Int32) →
            ab_J G (ac_ST L xs) l (d + 1) 221 14 [some (.ref 105), some (.int (0 : Int32)), some (.int i2)] [] ac_SK V1 ac_SK K) ∧
          (¬ (V1 105 26) = (45 : Int32) →
            ab_J G (ac_ST L xs) l (d + 1) 221 14 [some (.ref 105), some (.int (1 : Int32)), some (.int i2)] [] ac_SK V1 ac_SK K)))) ∧
      (¬ (V 105 26) = (40 : Int32) →
        ((V 105 26) = (45 : Int32) →
          ab_E G (ac_ST L xs) l d ac_SK 219 [.ref 105, .int (10 : Int32)] (aa_up V 105 23 ((V 105 23) + (1 : Int32))) (aa_rV (fun V1 =>
            ((V1 105 26) = (45 : Int32) →
              ab_J G (ac_ST L xs) l (d + 1) 221 14 [some (.ref 105), some (.int (0 : Int32)), some (.int i2)] [] ac_SK V1 ac_SK K) ∧
            (¬ (V1 105 26) = (45 : Int32) →
              ab_J G (ac_ST L xs) l (d + 1) 221 14 [some (.ref 105), some (.int (1 : Int32)), some (.int i2)] [] ac_SK V1 ac_SK K)))) ∧
        (¬ (V 105 26) = (45 : Int32) →
          ab_E G (ac_ST L xs) l d ac_SK 219 [.ref 105, .int (4 : Int32)] (aa_up V 105 23 ((V 105 23) + (1 : Int32))) (aa_rV (fun V1 =>
            ((V1 105 26) = (45 : Int32) →
              ab_J G (ac_ST L xs) l (d + 1) 221 14 [some (.ref 105), some (.int (0 : Int32)), some (.int i2)] [] ac_SK V1 ac_SK K) ∧
            (¬ (V1 105 26) = (45 : Int32) →
              ab_J G (ac_ST L xs) l (d + 1) 221 14 [some (.ref 105), some (.int (1 : Int32)), some (.int i2)] [] ac_SK V1 ac_SK K))))))) :
    ab_J G (ac_ST L xs) l (d + 1) 221 87 [some (.ref 105), none, some (.int i2)] [] ac_SK V ac_SK K := ab_wm cd_221_ok [(12, [true, true, false]), (14, [true, true, true]), (38, [true, true, false]), (87, [true, false, true]), (157, [false, false, false]), (169, [true, false, false]), (315, [true, false, false]), (331, [true, false, false]), (379, [true, true, false]), (426, [true, true, false]), (470, [false, false, false]), (472, [true, true, false]), (528, [true, true, false])] 73 _ _ _ _ h

set_option maxRecDepth 20000 in
/-- FrameCountyModel parses()Z, from 157 -/
theorem vc_221_157 {G : ab_G} {L : Nat} {xs : Nat → Int32} {l : Launch} {d : Nat} {V : aa_V} {K : aa_K} (h :
    aa_bit (0 : Int32) ∧ K (some (.int (0 : Int32))) V) :
    ab_J G (ac_ST L xs) l (d + 1) 221 157 [none, none, none] [] ac_SK V ac_SK K := ab_wm cd_221_ok [(12, [true, true, false]), (14, [true, true, true]), (38, [true, true, false]), (87, [true, false, true]), (157, [false, false, false]), (169, [true, false, false]), (315, [true, false, false]), (331, [true, false, false]), (379, [true, true, false]), (426, [true, true, false]), (470, [false, false, false]), (472, [true, true, false]), (528, [true, true, false])] 7 _ _ _ _ h

set_option maxRecDepth 20000 in
/-- FrameCountyModel parses()Z, from 169 -/
theorem vc_221_169 {G : ab_G} {L : Nat} {xs : Nat → Int32} {l : Launch} {d : Nat} {V : aa_V} {K : aa_K} (h :
    ((V 105 26) = (41 : Int32) →
      ab_E G (ac_ST L xs) l d ac_SK 220 [.ref 105, .int (2 : Int32)] V (aa_rV (fun V1 =>
        ((V1 105 24) = 0 →
          aa_bit (0 : Int32) ∧ K (some (.int (0 : Int32))) V1) ∧
        (¬ (V1 105 24) = 0 →
          ab_E G (ac_ST L xs) l d ac_SK 220 [.ref 105, .int (10 : Int32)] (aa_up (aa_up V1 105 24 ((V1 105 24) - (1 : Int32))) 105 23 ((V1 105 23) - (1 : Int32))) (aa_rV (fun V2 =>
            ab_E G (ac_ST L xs) l d ac_SK 217 [.ref 105] V2 (aa_rV (fun V3 =>
              ab_J G (ac_ST L xs) l (d + 1) 221 169 [some (.ref 105), none, none] [] ac_SK V3 ac_SK K)))))))) ∧
    (¬ (V 105 26) = (41 : Int32) →
      ((V 105 26) = (59 : Int32) →
        ab_E G (ac_ST L xs) l d ac_SK 220 [.ref 105, .int (2 : Int32)] V (aa_rV (fun V1 =>
          ((V1 105 24) = 0 →
            aa_bit (1 : Int32) ∧ K (some (.int (1 : Int32))) V1) ∧
          (¬ (V1 105 24) = 0 →
            aa_bit (0 : Int32) ∧ K (some (.int (0 : Int32))) V1)))) ∧
      (¬ (V 105 26) = (59 : Int32) →
        ((V 105 26) = (42 : Int32) →
          ab_J G (ac_ST L xs) l (d + 1) 221 315 [some (.ref 105), none, none] [] ac_SK V ac_SK K) ∧
        (¬ (V 105 26) = (42 : Int32) →
          ((V 105 26) = (43 : Int32) →
            ab_J G (ac_ST L xs) l (d + 1) 221 315 [some (.ref 105), none, none] [] ac_SK V ac_SK K) ∧
          (¬ (V 105 26) = (43 : Int32) →
            ((V 105 26) = (45 : Int32) →
              ab_J G (ac_ST L xs) l (d + 1) 221 315 [some (.ref 105), none, none] [] ac_SK V ac_SK K) ∧
            (¬ (V 105 26) = (45 : Int32) →
              ((V 105 26) = (60 : Int32) →
                ab_J G (ac_ST L xs) l (d + 1) 221 315 [some (.ref 105), none, none] [] ac_SK V ac_SK K) ∧
              (¬ (V 105 26) = (60 : Int32) →
                ((V 105 26) = (61 : Int32) →
                  ab_J G (ac_ST L xs) l (d + 1) 221 315 [some (.ref 105), none, none] [] ac_SK V ac_SK K) ∧
                (¬ (V 105 26) = (61 : Int32) →
                  ((V 105 26) = (3 : Int32) →
                    ab_J G (ac_ST L xs) l (d + 1) 221 315 [some (.ref 105), none, none] [] ac_SK V ac_SK K) ∧
                  (¬ (V 105 26) = (3 : Int32) →
                    ((V 105 26) = (4 : Int32) →
                      ab_J G (ac_ST L xs) l (d + 1) 221 315 [some (.ref 105), none, none] [] ac_SK V ac_SK K) ∧
                    (¬ (V 105 26) = (4 : Int32) →
                      aa_bit (0 : Int32) ∧ K (some (.int (0 : Int32))) V)))))))))) :
    ab_J G (ac_ST L xs) l (d + 1) 221 169 [some (.ref 105), none, none] [] ac_SK V ac_SK K := ab_wm cd_221_ok [(12, [true, true, false]), (14, [true, true, true]), (38, [true, true, false]), (87, [true, false, true]), (157, [false, false, false]), (169, [true, false, false]), (315, [true, false, false]), (331, [true, false, false]), (379, [true, true, false]), (426, [true, true, false]), (470, [false, false, false]), (472, [true, true, false]), (528, [true, true, false])] 88 _ _ _ _ h

set_option maxRecDepth 20000 in
/-- FrameCountyModel parses()Z, from 315 -/
theorem vc_221_315 {G : ab_G} {L : Nat} {xs : Nat → Int32} {l : Launch} {d : Nat} {V : aa_V} {K : aa_K} (h :
    ((V 105 26) = (3 : Int32) →
      ab_J G (ac_ST L xs) l (d + 1) 221 331 [some (.ref 105), none, none] [] ac_SK V ac_SK K) ∧
    (¬ (V 105 26) = (3 : Int32) →
      ((V 105 26) = (4 : Int32) →
        ab_J G (ac_ST L xs) l (d + 1) 221 331 [some (.ref 105), none, none] [] ac_SK V ac_SK K) ∧
      (¬ (V 105 26) = (4 : Int32) →
        ((V 105 26) = (42 : Int32) →
          ab_E G (ac_ST L xs) l d ac_SK 220 [.ref 105, .int (9 : Int32)] V (aa_rV (fun V1 =>
            ab_E G (ac_ST L xs) l d ac_SK 219 [.ref 105, .int (9 : Int32)] V1 (aa_rV (fun V2 =>
              ab_J G (ac_ST L xs) l (d + 1) 221 528 [some (.ref 105), some (.int (0 : Int32)), none] [] ac_SK V2 ac_SK K))))) ∧
        (¬ (V 105 26) = (42 : Int32) →
          ((V 105 26) = (43 : Int32) →
            ab_J G (ac_ST L xs) l (d + 1) 221 379 [some (.ref 105), some (.int (0 : Int32)), none] [] ac_SK V ac_SK K) ∧
          (¬ (V 105 26) = (43 : Int32) →
            ((V 105 26) = (45 : Int32) →
              ab_J G (ac_ST L xs) l (d + 1) 221 379 [some (.ref 105), some (.int (0 : Int32)), none] [] ac_SK V ac_SK K) ∧
            (¬ (V 105 26) = (45 : Int32) →
              ((V 105 26) = (60 : Int32) →
                ab_J G (ac_ST L xs) l (d + 1) 221 426 [some (.ref 105), some (.int (0 : Int32)), none] [] ac_SK V ac_SK K) ∧
              (¬ (V 105 26) = (60 : Int32) →
                ((V 105 26) = (61 : Int32) →
                  ab_J G (ac_ST L xs) l (d + 1) 221 426 [some (.ref 105), some (.int (0 : Int32)), none] [] ac_SK V ac_SK K) ∧
                (¬ (V 105 26) = (61 : Int32) →
                  ((V 105 26) = (4 : Int32) →
                    ab_E G (ac_ST L xs) l d ac_SK 220 [.ref 105, .int (3 : Int32)] V (aa_rV (fun V1 =>
                      ((V1 105 26) = (4 : Int32) →
                        ab_E G (ac_ST L xs) l d ac_SK 219 [.ref 105, .int (3 : Int32)] V1 (aa_rV (fun V2 =>
                          ab_J G (ac_ST L xs) l (d + 1) 221 528 [some (.ref 105), some (.int (0 : Int32)), none] [] ac_SK V2 ac_SK K))) ∧
                      (¬ (V1 105 26) = (4 : Int32) →
                        ab_E G (ac_ST L xs) l d ac_SK 219 [.ref 105, .int (2 : Int32)] V1 (aa_rV (fun V2 =>
                          ab_J G (ac_ST L xs) l (d + 1) 221 528 [some (.ref 105), some (.int (0 : Int32)), none] [] ac_SK V2 ac_SK K)))))) ∧
                  (¬ (V 105 26) = (4 : Int32) →
                    ab_E G (ac_ST L xs) l d ac_SK 220 [.ref 105, .int (2 : Int32)] V (aa_rV (fun V1 =>
                      ((V1 105 26) = (4 : Int32) →
                        ab_E G (ac_ST L xs) l d ac_SK 219 [.ref 105, .int (3 : Int32)] V1 (aa_rV (fun V2 =>
                          ab_J G (ac_ST L xs) l (d + 1) 221 528 [some (.ref 105), some (.int (0 : Int32)), none] [] ac_SK V2 ac_SK K))) ∧
                      (¬ (V1 105 26) = (4 : Int32) →
                        ab_E G (ac_ST L xs) l d ac_SK 219 [.ref 105, .int (2 : Int32)] V1 (aa_rV (fun V2 =>
                          ab_J G (ac_ST L xs) l (d + 1) 221 528 [some (.ref 105), some (.int (0 : Int32)), none] [] ac_SK V2 ac_SK K)))))))))))))) :
    ab_J G (ac_ST L xs) l (d + 1) 221 315 [some (.ref 105), none, none] [] ac_SK V ac_SK K := ab_wm cd_221_ok [(12, [true, true, false]), (14, [true, true, true]), (38, [true, true, false]), (87, [true, false, true]), (157, [false, false, false]), (169, [true, false, false]), (315, [true, false, false]), (331, [true, false, false]), (379, [true, true, false]), (426, [true, true, false]), (470, [false, false, false]), (472, [true, true, false]), (528, [true, true, false])] 83 _ _ _ _ h

set_option maxRecDepth 20000 in
/-- FrameCountyModel parses()Z, from 331 -/
theorem vc_221_331 {G : ab_G} {L : Nat} {xs : Nat → Int32} {l : Launch} {d : Nat} {V : aa_V} {K : aa_K} (h :
    ((V 105 26) = (42 : Int32) →
      ab_E G (ac_ST L xs) l d ac_SK 220 [.ref 105, .int (9 : Int32)] V (aa_rV (fun V1 =>
        ab_E G (ac_ST L xs) l d ac_SK 219 [.ref 105, .int (9 : Int32)] V1 (aa_rV (fun V2 =>
          ab_J G (ac_ST L xs) l (d + 1) 221 528 [some (.ref 105), some (.int (1 : Int32)), none] [] ac_SK V2 ac_SK K))))) ∧
    (¬ (V 105 26) = (42 : Int32) →
      ((V 105 26) = (43 : Int32) →
        ab_J G (ac_ST L xs) l (d + 1) 221 379 [some (.ref 105), some (.int (1 : Int32)), none] [] ac_SK V ac_SK K) ∧
      (¬ (V 105 26) = (43 : Int32) →
        ((V 105 26) = (45 : Int32) →
          ab_J G (ac_ST L xs) l (d + 1) 221 379 [some (.ref 105), some (.int (1 : Int32)), none] [] ac_SK V ac_SK K) ∧
        (¬ (V 105 26) = (45 : Int32) →
          ((V 105 26) = (60 : Int32) →
            ab_J G (ac_ST L xs) l (d + 1) 221 426 [some (.ref 105), some (.int (1 : Int32)), none] [] ac_SK V ac_SK K) ∧
          (¬ (V 105 26) = (60 : Int32) →
            ((V 105 26) = (61 : Int32) →
              ab_J G (ac_ST L xs) l (d + 1) 221 426 [some (.ref 105), some (.int (1 : Int32)), none] [] ac_SK V ac_SK K) ∧
            (¬ (V 105 26) = (61 : Int32) →
              ((V 105 26) = (4 : Int32) →
                ab_E G (ac_ST L xs) l d ac_SK 220 [.ref 105, .int (3 : Int32)] V (aa_rV (fun V1 =>
                  ((V1 105 26) = (4 : Int32) →
                    ab_E G (ac_ST L xs) l d ac_SK 219 [.ref 105, .int (3 : Int32)] V1 (aa_rV (fun V2 =>
                      ab_J G (ac_ST L xs) l (d + 1) 221 528 [some (.ref 105), some (.int (1 : Int32)), none] [] ac_SK V2 ac_SK K))) ∧
                  (¬ (V1 105 26) = (4 : Int32) →
                    ab_E G (ac_ST L xs) l d ac_SK 219 [.ref 105, .int (2 : Int32)] V1 (aa_rV (fun V2 =>
                      ab_J G (ac_ST L xs) l (d + 1) 221 528 [some (.ref 105), some (.int (1 : Int32)), none] [] ac_SK V2 ac_SK K)))))) ∧
              (¬ (V 105 26) = (4 : Int32) →
                ab_E G (ac_ST L xs) l d ac_SK 220 [.ref 105, .int (2 : Int32)] V (aa_rV (fun V1 =>
                  ((V1 105 26) = (4 : Int32) →
                    ab_E G (ac_ST L xs) l d ac_SK 219 [.ref 105, .int (3 : Int32)] V1 (aa_rV (fun V2 =>
                      ab_J G (ac_ST L xs) l (d + 1) 221 528 [some (.ref 105), some (.int (1 : Int32)), none] [] ac_SK V2 ac_SK K))) ∧
                  (¬ (V1 105 26) = (4 : Int32) →
                    ab_E G (ac_ST L xs) l d ac_SK 219 [.ref 105, .int (2 : Int32)] V1 (aa_rV (fun V2 =>
                      ab_J G (ac_ST L xs) l (d + 1) 221 528 [some (.ref 105), some (.int (1 : Int32)), none] [] ac_SK V2 ac_SK K)))))))))))) :
    ab_J G (ac_ST L xs) l (d + 1) 221 331 [some (.ref 105), none, none] [] ac_SK V ac_SK K := ab_wm cd_221_ok [(12, [true, true, false]), (14, [true, true, true]), (38, [true, true, false]), (87, [true, false, true]), (157, [false, false, false]), (169, [true, false, false]), (315, [true, false, false]), (331, [true, false, false]), (379, [true, true, false]), (426, [true, true, false]), (470, [false, false, false]), (472, [true, true, false]), (528, [true, true, false])] 74 _ _ _ _ h

set_option maxRecDepth 20000 in
/-- FrameCountyModel parses()Z, from 379 -/
theorem vc_221_379 {G : ab_G} {L : Nat} {xs : Nat → Int32} {l : Launch} {d : Nat} {i1 : Int32} {V : aa_V} {K : aa_K} (h :
    ab_E G (ac_ST L xs) l d ac_SK 220 [.ref 105, .int (7 : Int32)] V (aa_rV (fun V1 =>
      ((V1 105 26) = (43 : Int32) →
        ab_E G (ac_ST L xs) l d ac_SK 219 [.ref 105, .int (7 : Int32)] V1 (aa_rV (fun V2 =>
          ab_J G (ac_ST L xs) l (d + 1) 221 528 [some (.ref 105), some (.int i1), none] [] ac_SK V2 ac_SK K))) ∧
      (¬ (V1 105 26) = (43 : Int32) →
        ab_E G (ac_ST L xs) l d ac_SK 219 [.ref 105, .int (8 : Int32)] V1 (aa_rV (fun V2 =>
          ab_J G (ac_ST L xs) l (d + 1) 221 528 [some (.ref 105), some (.int i1), none] [] ac_SK V2 ac_SK K)))))) :
    ab_J G (ac_ST L xs) l (d + 1) 221 379 [some (.ref 105), some (.int i1), none] [] ac_SK V ac_SK K := ab_wm cd_221_ok [(12, [true, true, false]), (14, [true, true, true]), (38, [true, true, false]), (87, [true, false, true]), (157, [false, false, false]), (169, [true, false, false]), (315, [true, false, false]), (331, [true, false, false]), (379, [true, true, false]), (426, [true, true, false]), (470, [false, false, false]), (472, [true, true, false]), (528, [true, true, false])] 22 _ _ _ _ h

set_option maxRecDepth 20000 in
/-- FrameCountyModel parses()Z, from 426 -/
theorem vc_221_426 {G : ab_G} {L : Nat} {xs : Nat → Int32} {l : Launch} {d : Nat} {i1 : Int32} {V : aa_V} {K : aa_K} (h :
    ab_E G (ac_ST L xs) l d ac_SK 220 [.ref 105, .int (7 : Int32)] V (aa_rV (fun V1 =>
      (0 < (V1 105 24) →
        vp_in ((V1 105 24) - (1 : Int32)) 200 ∧
        ((V1 121 ((((V1 105 24) - (1 : Int32))).toNatClampNeg)) = (5 : Int32) →
          ab_J G (ac_ST L xs) l (d + 1) 221 470 [none, none, none] [] ac_SK V1 ac_SK K) ∧
        (¬ (V1 121 ((((V1 105 24) - (1 : Int32))).toNatClampNeg)) = (5 : Int32) →
          vp_in ((V1 105 24) - (1 : Int32)) 200 ∧
          ((V1 121 ((((V1 105 24) - (1 : Int32))).toNatClampNeg)) = (6 : Int32) →
            ab_J G (ac_ST L xs) l (d + 1) 221 470 [none, none, none] [] ac_SK V1 ac_SK K) ∧
          (¬ (V1 121 ((((V1 105 24) - (1 : Int32))).toNatClampNeg)) = (6 : Int32) →
            ab_J G (ac_ST L xs) l (d + 1) 221 472 [some (.ref 105), some (.int i1), none] [] ac_SK V1 ac_SK K))) ∧
      (¬ 0 < (V1 105 24) →
        ab_J G (ac_ST L xs) l (d + 1) 221 472 [some (.ref 105), some (.int i1), none] [] ac_SK V1 ac_SK K)))) :
    ab_J G (ac_ST L xs) l (d + 1) 221 426 [some (.ref 105), some (.int i1), none] [] ac_SK V ac_SK K := ab_wm cd_221_ok [(12, [true, true, false]), (14, [true, true, true]), (38, [true, true, false]), (87, [true, false, true]), (157, [false, false, false]), (169, [true, false, false]), (315, [true, false, false]), (331, [true, false, false]), (379, [true, true, false]), (426, [true, true, false]), (470, [false, false, false]), (472, [true, true, false]), (528, [true, true, false])] 33 _ _ _ _ h

set_option maxRecDepth 20000 in
/-- FrameCountyModel parses()Z, from 470 -/
theorem vc_221_470 {G : ab_G} {L : Nat} {xs : Nat → Int32} {l : Launch} {d : Nat} {V : aa_V} {K : aa_K} (h :
    aa_bit (0 : Int32) ∧ K (some (.int (0 : Int32))) V) :
    ab_J G (ac_ST L xs) l (d + 1) 221 470 [none, none, none] [] ac_SK V ac_SK K := ab_wm cd_221_ok [(12, [true, true, false]), (14, [true, true, true]), (38, [true, true, false]), (87, [true, false, true]), (157, [false, false, false]), (169, [true, false, false]), (315, [true, false, false]), (331, [true, false, false]), (379, [true, true, false]), (426, [true, true, false]), (470, [false, false, false]), (472, [true, true, false]), (528, [true, true, false])] 7 _ _ _ _ h

set_option maxRecDepth 20000 in
/-- FrameCountyModel parses()Z, from 472 -/
theorem vc_221_472 {G : ab_G} {L : Nat} {xs : Nat → Int32} {l : Launch} {d : Nat} {i1 : Int32} {V : aa_V} {K : aa_K} (h :
    ((V 105 26) = (60 : Int32) →
      ab_E G (ac_ST L xs) l d ac_SK 219 [.ref 105, .int (5 : Int32)] V (aa_rV (fun V1 =>
        ab_J G (ac_ST L xs) l (d + 1) 221 528 [some (.ref 105), some (.int i1), none] [] ac_SK V1 ac_SK K))) ∧
    (¬ (V 105 26) = (60 : Int32) →
      ab_E G (ac_ST L xs) l d ac_SK 219 [.ref 105, .int (6 : Int32)] V (aa_rV (fun V1 =>
        ab_J G (ac_ST L xs) l (d + 1) 221 528 [some (.ref 105), some (.int i1), none] [] ac_SK V1 ac_SK K)))) :
    ab_J G (ac_ST L xs) l (d + 1) 221 472 [some (.ref 105), some (.int i1), none] [] ac_SK V ac_SK K := ab_wm cd_221_ok [(12, [true, true, false]), (14, [true, true, true]), (38, [true, true, false]), (87, [true, false, true]), (157, [false, false, false]), (169, [true, false, false]), (315, [true, false, false]), (331, [true, false, false]), (379, [true, true, false]), (426, [true, true, false]), (470, [false, false, false]), (472, [true, true, false]), (528, [true, true, false])] 19 _ _ _ _ h

set_option maxRecDepth 20000 in
/-- FrameCountyModel parses()Z, from 528 -/
theorem vc_221_528 {G : ab_G} {L : Nat} {xs : Nat → Int32} {l : Launch} {d : Nat} {i1 : Int32} {V : aa_V} {K : aa_K} (h :
    ab_J G (ac_ST L xs) l (d + 1) 221 12 [some (.ref 105), some (.int i1), none] [] ac_SK V ac_SK K) :
    ab_J G (ac_ST L xs) l (d + 1) 221 528 [some (.ref 105), some (.int i1), none] [] ac_SK V ac_SK K := ab_wm cd_221_ok [(12, [true, true, false]), (14, [true, true, true]), (38, [true, true, false]), (87, [true, false, true]), (157, [false, false, false]), (169, [true, false, false]), (315, [true, false, false]), (331, [true, false, false]), (379, [true, true, false]), (426, [true, true, false]), (470, [false, false, false]), (472, [true, true, false]), (528, [true, true, false])] 7 _ _ _ _ h

set_option maxRecDepth 20000 in
/-- FrameCountyModel isText()Z, from 0 -/
theorem vc_222_0 {G : ab_G} {L : Nat} {xs : Nat → Int32} {l : Launch} {d : Nat} {V : aa_V} {K : aa_K} (h :
    ab_J G (ac_ST L xs) l (d + 1) 222 7 [some (.ref 105), some (.int (0 : Int32))] [] ac_SK (aa_up V 105 22 (0 : Int32)) ac_SK K) :
    ab_E G (ac_ST L xs) l (d + 1) ac_SK 222 [.ref 105] V K := ab_wm cd_222_ok [(7, [true, true])] 11 _ _ _ _ h

set_option maxRecDepth 20000 in
/-- FrameCountyModel isText()Z, from 7 -/
theorem vc_222_7 {G : ab_G} {L : Nat} {xs : Nat → Int32} {l : Launch} {d : Nat} {i1 : Int32} {V : aa_V} {K : aa_K} (h :
    (i1 < (2 : Int32) →
      ab_E G (ac_ST L xs) l d ac_SK 217 [.ref 105] V (aa_rV (fun V1 =>
        ((V1 105 26) = ((6 : Int32) + i1) →
          vp_in (((2 : Int32) * (V1 105 20)) + i1) 12 ∧
          ab_E G (ac_ST L xs) l d ac_SK 221 [.ref 105] (aa_up V1 119 (((((2 : Int32) * (V1 105 20)) + i1)).toNatClampNeg) (V1 105 25)) (aa_rI (fun x2 V2 =>
            (x2 = 0 →
              aa_bit (0 : Int32) ∧ K (some (.int (0 : Int32))) V2) ∧
            (¬ x2 = 0 →
              vp_in (((2 : Int32) * (V2 105 20)) + i1) 12 ∧
              ab_J G (ac_ST L xs) l (d + 1) 222 7 [some (.ref 105), some (.int (i1 + 1))] [] ac_SK (aa_up V2 120 (((((2 : Int32) * (V2 105 20)) + i1)).toNatClampNeg) (V2 105 25)) ac_SK K)))) ∧
        (¬ (V1 105 26) = ((6 : Int32) + i1) →
          aa_bit (0 : Int32) ∧ K (some (.int (0 : Int32))) V1)))) ∧
    (¬ i1 < (2 : Int32) →
      ab_E G (ac_ST L xs) l d ac_SK 217 [.ref 105] V (aa_rV (fun V1 =>
        ((V1 105 26) = 0 →
          aa_bit (1 : Int32) ∧ K (some (.int (1 : Int32))) V1) ∧
        (¬ (V1 105 26) = 0 →
          aa_bit (0 : Int32) ∧ K (some (.int (0 : Int32))) V1))))) :
    ab_J G (ac_ST L xs) l (d + 1) 222 7 [some (.ref 105), some (.int i1)] [] ac_SK V ac_SK K := ab_wm cd_222_ok [(7, [true, true])] 58 _ _ _ _ h

set_option maxRecDepth 20000 in
/-- FrameCountyModel text()I, from 0 -/
theorem vc_223_0 {G : ab_G} {L : Nat} {xs : Nat → Int32} {l : Launch} {d : Nat} {V : aa_V} {K : aa_K} (h :
    ((V 105 20) = (6 : Int32) →
      K (some (.int (-4 : Int32))) V) ∧
    (¬ (V 105 20) = (6 : Int32) →
      ab_E G (ac_ST L xs) l d ac_SK 222 [.ref 105] V (aa_rI (fun x1 V1 =>
        (x1 = 0 →
          K (some (.int ((-100 : Int32) - (V1 105 27)))) (aa_up (aa_up V1 105 19 (0 : Int32)) 105 25 (V 105 25))) ∧
        (¬ x1 = 0 →
          K (some (.int (((V1 105 20) + (1 : Int32)) - (1 : Int32)))) (aa_up (aa_up V1 105 19 (0 : Int32)) 105 20 ((V1 105 20) + (1 : Int32)))))))) :
    ab_E G (ac_ST L xs) l (d + 1) ac_SK 223 [.ref 105] V K := ab_wm cd_223_ok [] 41 _ _ _ _ h

set_option maxRecDepth 20000 in
/-- FrameCountyModel force(I)I, from 0 -/
theorem vc_224_0 {G : ab_G} {L : Nat} {xs : Nat → Int32} {l : Launch} {d : Nat} {i1 : Int32} {V : aa_V} {K : aa_K} (h :
    ab_E G (ac_ST L xs) l d ac_SK 192 [.long (i1.toInt64), .long (0 : Int64), .long (((V 105 20) - (1 : Int32)).toInt64)] V (aa_rI (fun x1 V1 =>
      (x1 = 0 →
        K (some (.int (-2 : Int32))) V1) ∧
      (¬ x1 = 0 →
        K (some (.int (V1 105 21))) (aa_up V1 105 21 i1))))) :
    ab_E G (ac_ST L xs) l (d + 1) ac_SK 224 [.ref 105, .int i1] V K := ab_wm cd_224_ok [] 25 _ _ _ _ h

set_option maxRecDepth 20000 in
/-- FrameCountyModel comesTo(I)I, from 0 -/
theorem vc_225_0 {G : ab_G} {L : Nat} {xs : Nat → Int32} {l : Launch} {d : Nat} {i1 : Int32} {V : aa_V} {K : aa_K} (h :
    ¬ (7 : Int32) = 0 ∧
    vp_in (2 : Int32) 6 ∧
    vp_in (((2 : Int32) * (V 105 21)) + i1) 12 ∧
    ab_J G (ac_ST L xs) l (d + 1) 225 29 [some (.ref 105), some (.int i1), some (.int (0 : Int32)), some (.int (V 119 (((((2 : Int32) * (V 105 21)) + i1)).toNatClampNeg)))] [] ac_SK (aa_up V 122 (((2 : Int32)).toNatClampNeg) ((V 105 2) / (7 : Int32))) ac_SK K) :
    ab_E G (ac_ST L xs) l (d + 1) ac_SK 225 [.ref 105, .int i1] V K := ab_wm cd_225_ok [(29, [true, true, true, true])] 26 _ _ _ _ h

set_option maxRecDepth 20000 in
/-- FrameCountyModel comesTo(I)I, from 29 -/
theorem vc_225_29 {G : ab_G} {L : Nat} {xs : Nat → Int32} {l : Launch} {d : Nat} {i1 : Int32} {i2 : Int32} {i3 : Int32} {V : aa_V} {K : aa_K} (h :
    vp_in (((2 : Int32) * (V 105 21)) + i1) 12 ∧
    (i3 < (V 120 (((((2 : Int32) * (V 105 21)) + i1)).toNatClampNeg)) →
      vp_in i3 2000 ∧
      ((V 117 ((i3).toNatClampNeg)) < (2 : Int32) →
        vp_in i3 2000 ∧
        ((V 117 ((i3).toNatClampNeg)) = 0 →
          vp_in i3 2000 ∧
          vp_in i2 200 ∧
          ab_J G (ac_ST L xs) l (d + 1) 225 29 [some (.ref 105), some (.int i1), some (.int (i2 + 1)), some (.int (i3 + 1))] [] ac_SK (aa_up V 123 ((i2).toNatClampNeg) (V 118 ((i3).toNatClampNeg))) ac_SK K) ∧
        (¬ (V 117 ((i3).toNatClampNeg)) = 0 →
          vp_in i3 2000 ∧
          vp_in (V 118 ((i3).toNatClampNeg)) 6 ∧
          vp_in i2 200 ∧
          ab_J G (ac_ST L xs) l (d + 1) 225 29 [some (.ref 105), some (.int i1), some (.int (i2 + 1)), some (.int (i3 + 1))] [] ac_SK (aa_up V 123 ((i2).toNatClampNeg) (V 122 (((V 118 ((i3).toNatClampNeg))).toNatClampNeg))) ac_SK K)) ∧
      (¬ (V 117 ((i3).toNatClampNeg)) < (2 : Int32) →
        vp_in i3 2000 ∧
        ((V 117 ((i3).toNatClampNeg)) = (4 : Int32) →
          vp_in i3 2000 ∧
          ((V 117 ((i3).toNatClampNeg)) = (10 : Int32) →
            vp_in (i2 - (1 : Int32)) 200 ∧
            vp_in (i2 - (1 : Int32)) 200 ∧
            ab_J G (ac_ST L xs) l (d + 1) 225 29 [some (.ref 105), some (.int i1), some (.int i2), some (.int (i3 + 1))] [] ac_SK (aa_up V 123 (((i2 - (1 : Int32))).toNatClampNeg) (-(V 123 (((i2 - (1 : Int32))).toNatClampNeg)))) ac_SK K) ∧
          (¬ (V 117 ((i3).toNatClampNeg)) = (10 : Int32) →
            vp_in (i2 - (1 : Int32)) 200 ∧
            ((V 123 (((i2 - (1 : Int32))).toNatClampNeg)) = 0 →
              vp_in (i2 - (1 : Int32)) 200 ∧
              ab_J G (ac_ST L xs) l (d + 1) 225 29 [some (.ref 105), some (.int i1), some (.int i2), some (.int (i3 + 1))] [] ac_SK (aa_up V 123 (((i2 - (1 : Int32))).toNatClampNeg) (1 : Int32)) ac_SK K) ∧
            (¬ (V 123 (((i2 - (1 : Int32))).toNatClampNeg)) = 0 →
              vp_in (i2 - (1 : Int32)) 200 ∧
              ab_J G (ac_ST L xs) l (d + 1) 225 29 [some (.ref 105), some (.int i1), some (.int i2), some (.int (i3 + 1))] [] ac_SK (aa_up V 123 (((i2 - (1 : Int32))).toNatClampNeg) (0 : Int32)) ac_SK K))) ∧
        (¬ (V 117 ((i3).toNatClampNeg)) = (4 : Int32) →
          vp_in i3 2000 ∧
          ((V 117 ((i3).toNatClampNeg)) = (10 : Int32) →
            vp_in i3 2000 ∧
            ((V 117 ((i3).toNatClampNeg)) = (10 : Int32) →
              vp_in (i2 - (1 : Int32)) 200 ∧
              vp_in (i2 - (1 : Int32)) 200 ∧
              ab_J G (ac_ST L xs) l (d + 1) 225 29 [some (.ref 105), some (.int i1), some (.int i2), some (.int (i3 + 1))] [] ac_SK (aa_up V 123 (((i2 - (1 : Int32))).toNatClampNeg) (-(V 123 (((i2 - (1 : Int32))).toNatClampNeg)))) ac_SK K) ∧
            (¬ (V 117 ((i3).toNatClampNeg)) = (10 : Int32) →
              vp_in (i2 - (1 : Int32)) 200 ∧
              ((V 123 (((i2 - (1 : Int32))).toNatClampNeg)) = 0 →
                vp_in (i2 - (1 : Int32)) 200 ∧
                ab_J G (ac_ST L xs) l (d + 1) 225 29 [some (.ref 105), some (.int i1), some (.int i2), some (.int (i3 + 1))] [] ac_SK (aa_up V 123 (((i2 - (1 : Int32))).toNatClampNeg) (1 : Int32)) ac_SK K) ∧
              (¬ (V 123 (((i2 - (1 : Int32))).toNatClampNeg)) = 0 →
                vp_in (i2 - (1 : Int32)) 200 ∧
                ab_J G (ac_ST L xs) l (d + 1) 225 29 [some (.ref 105), some (.int i1), some (.int i2), some (.int (i3 + 1))] [] ac_SK (aa_up V 123 (((i2 - (1 : Int32))).toNatClampNeg) (0 : Int32)) ac_SK K))) ∧
          (¬ (V 117 ((i3).toNatClampNeg)) = (10 : Int32) →
            vp_in i3 2000 ∧
            vp_in ((i2 + (-1)) - (1 : Int32)) 200 ∧
            vp_in (i2 + (-1)) 200 ∧
            ab_E G (ac_ST L xs) l d ac_SK 226 [.int (V 117 ((i3).toNatClampNeg)), .int (V 123 ((((i2 + (-1)) - (1 : Int32))).toNatClampNeg)), .int (V 123 (((i2 + (-1))).toNatClampNeg))] V (aa_rI (fun x1 V1 =>
              vp_in ((i2 + (-1)) - (1 : Int32)) 200 ∧
              ab_J G (ac_ST L xs) l (d + 1) 225 29 [some (.ref 105), some (.int i1), some (.int (i2 + (-1))), some (.int (i3 + 1))] [] ac_SK (aa_up V1 123 ((((i2 + (-1)) - (1 : Int32))).toNatClampNeg) x1) ac_SK K)))))) ∧
    (¬ i3 < (V 120 (((((2 : Int32) * (V 105 21)) + i1)).toNatClampNeg)) →
      vp_in (0 : Int32) 200 ∧
      K (some (.int (V 123 (((0 : Int32)).toNatClampNeg)))) V)) :
    ab_J G (ac_ST L xs) l (d + 1) 225 29 [some (.ref 105), some (.int i1), some (.int i2), some (.int i3)] [] ac_SK V ac_SK K := ab_wm cd_225_ok [(29, [true, true, true, true])] 184 _ _ _ _ h

set_option maxRecDepth 20000 in
/-- FrameCountyModel worked(III)I, from 0 -/
theorem vc_226_0 {G : ab_G} {L : Nat} {xs : Nat → Int32} {l : Launch} {d : Nat} {i0 : Int32} {i1 : Int32} {i2 : Int32} {V : aa_V} {K : aa_K} (h :
    (i0 = 2 →
      (i1 = 0 →
        (i2 = 0 →
          K (some (.int (0 : Int32))) V) ∧
        (¬ i2 = 0 →
          K (some (.int (1 : Int32))) V)) ∧
      (¬ i1 = 0 →
        K (some (.int (1 : Int32))) V)) ∧
    (¬ i0 = 2 →
    (i0 = 3 →
      (i1 = 0 →
        K (some (.int (0 : Int32))) V) ∧
      (¬ i1 = 0 →
        (i2 = 0 →
          K (some (.int (0 : Int32))) V) ∧
        (¬ i2 = 0 →
          K (some (.int (1 : Int32))) V))) ∧
    (¬ i0 = 3 →
    (i0 = 5 →
      (i1 < i2 →
        K (some (.int (1 : Int32))) V) ∧
      (¬ i1 < i2 →
        K (some (.int (0 : Int32))) V)) ∧
    (¬ i0 = 5 →
    (i0 = 6 →
      (i1 = i2 →
        K (some (.int (1 : Int32))) V) ∧
      (¬ i1 = i2 →
        K (some (.int (0 : Int32))) V)) ∧
    (¬ i0 = 6 →
    (i0 = 7 →
      K (some (.int (i1 + i2))) V) ∧
    (¬ i0 = 7 →
    (i0 = 8 →
      K (some (.int (i1 - i2))) V) ∧
    (¬ i0 = 8 →
    K (some (.int (i1 * i2))) V))))))) :
    ab_E G (ac_ST L xs) l (d + 1) ac_SK 226 [.int i0, .int i1, .int i2] V K := ab_wm cd_226_ok [] 58 _ _ _ _ h

set_option maxRecDepth 20000 in
/-- FrameCountyModel price(I)I, from 0 -/
theorem vc_227_0 {G : ab_G} {L : Nat} {xs : Nat → Int32} {l : Launch} {d : Nat} {i1 : Int32} {V : aa_V} {K : aa_K} (h :
    vp_in i1 20 ∧
    vp_in (0 : Int32) 6 ∧
    vp_in i1 20 ∧
    vp_in (1 : Int32) 6 ∧
    ab_E G (ac_ST L xs) l d ac_SK 205 [.ref 105, .int i1] (aa_up (aa_up V 122 (((0 : Int32)).toNatClampNeg) (V 110 ((i1).toNatClampNeg))) 122 (((1 : Int32)).toNatClampNeg) (V 112 ((i1).toNatClampNeg))) (aa_rI (fun x1 V1 =>
      vp_in (3 : Int32) 6 ∧
      vp_in (4 : Int32) 6 ∧
      vp_in (5 : Int32) 6 ∧
      ab_E G (ac_ST L xs) l d ac_SK 225 [.ref 105, .int (0 : Int32)] (aa_up (aa_up (aa_up V1 122 (((3 : Int32)).toNatClampNeg) x1) 122 (((4 : Int32)).toNatClampNeg) (0 : Int32)) 122 (((5 : Int32)).toNatClampNeg) (0 : Int32)) (aa_rI (fun x2 V2 =>
        K (some (.int x2)) V2))))) :
    ab_E G (ac_ST L xs) l (d + 1) ac_SK 227 [.ref 105, .int i1] V K := ab_wm cd_227_ok [] 42 _ _ _ _ h

set_option maxRecDepth 20000 in
/-- FrameCountyModel says(II)J, from 0 -/
theorem vc_228_0 {G : ab_G} {L : Nat} {xs : Nat → Int32} {l : Launch} {d : Nat} {i1 : Int32} {i2 : Int32} {V : aa_V} {K : aa_K} (h :
    (i1 = 0 →
      ab_E G (ac_ST L xs) l d ac_SK 200 [.ref 105, .int i2] V (aa_rI (fun x1 V1 =>
        (x1 = 0 →
          (i1 = (1 : Int32) →
            ab_E G (ac_ST L xs) l d ac_SK 240 [.ref 105, .int i2] V1 (aa_rI (fun x2 V2 =>
              (x2 = 0 →
                K (some (.long (-4611686018427387904 : Int64))) V2) ∧
              (¬ x2 = 0 →
                ab_E G (ac_ST L xs) l d ac_SK 253 [.ref 105, .int i2, .int (V2 105 2), .int (-1 : Int32)] V2 (aa_rI (fun x3 V3 =>
                  K (some (.long (x3.toInt64))) V3)))))) ∧
          (¬ i1 = (1 : Int32) →
            K (some (.long (-4611686018427387904 : Int64))) V1)) ∧
        (¬ x1 = 0 →
          ab_E G (ac_ST L xs) l d ac_SK 227 [.ref 105, .int i2] V1 (aa_rI (fun x2 V2 =>
            K (some (.long (x2.toInt64))) V2)))))) ∧
    (¬ i1 = 0 →
      (i1 = (1 : Int32) →
        ab_E G (ac_ST L xs) l d ac_SK 240 [.ref 105, .int i2] V (aa_rI (fun x1 V1 =>
          (x1 = 0 →
            K (some (.long (-4611686018427387904 : Int64))) V1) ∧
          (¬ x1 = 0 →
            ab_E G (ac_ST L xs) l d ac_SK 253 [.ref 105, .int i2, .int (V1 105 2), .int (-1 : Int32)] V1 (aa_rI (fun x2 V2 =>
              K (some (.long (x2.toInt64))) V2)))))) ∧
      (¬ i1 = (1 : Int32) →
        K (some (.long (-4611686018427387904 : Int64))) V))) :
    ab_E G (ac_ST L xs) l (d + 1) ac_SK 228 [.ref 105, .int i1, .int i2] V K := ab_wm cd_228_ok [] 54 _ _ _ _ h

set_option maxRecDepth 20000 in
/-- FrameCountyModel raid(II)I, from 0 -/
theorem vc_229_0 {G : ab_G} {L : Nat} {xs : Nat → Int32} {l : Launch} {d : Nat} {i1 : Int32} {i2 : Int32} {V : aa_V} {K : aa_K} (h :
    ab_E G (ac_ST L xs) l d ac_SK 200 [.ref 105, .int i1] V (aa_rI (fun x1 V1 =>
      (x1 = 0 →
        K (some (.int (-2 : Int32))) V1) ∧
      (¬ x1 = 0 →
        ab_E G (ac_ST L xs) l d ac_SK 192 [.long (i2.toInt64), .long (0 : Int64), .long (11 : Int64)] V1 (aa_rI (fun x2 V2 =>
          (x2 = 0 →
            K (some (.int (-2 : Int32))) V2) ∧
          (¬ x2 = 0 →
            vp_in i1 20 ∧
            ((V2 114 ((i1).toNatClampNeg)) = 0 →
              ((V2 105 34) = (30 : Int32) →
                K (some (.int (-4 : Int32))) V2) ∧
              (¬ (V2 105 34) = (30 : Int32) →
                vp_in i1 20 ∧
                vp_in i1 20 ∧
                vp_in (V2 105 34) 30 ∧
                vp_in (V2 105 34) 30 ∧
                vp_in (V2 105 34) 30 ∧
                K (some (.int (((V2 105 34) + (1 : Int32)) - (1 : Int32)))) (aa_up (aa_up (aa_up (aa_up (aa_up (aa_up V2 114 ((i1).toNatClampNeg) (1 : Int32)) 115 ((i1).toNatClampNeg) (V2 105 2)) 124 (((V2 105 34)).toNatClampNeg) i1) 125 (((V2 105 34)).toNatClampNeg) (V2 105 2)) 126 (((V2 105 34)).toNatClampNeg) i2) 105 34 ((V2 105 34) + (1 : Int32))))) ∧
            (¬ (V2 114 ((i1).toNatClampNeg)) = 0 →
              K (some (.int (-3 : Int32))) V2)))))))) :
    ab_E G (ac_ST L xs) l (d + 1) ac_SK 229 [.ref 105, .int i1, .int i2] V K := ab_wm cd_229_ok [] 73 _ _ _ _ h
