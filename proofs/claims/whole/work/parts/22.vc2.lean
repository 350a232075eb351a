/-! stretches: what is wanted ahead of each -/
set_option maxRecDepth 20000 in
/-- FrameCounty pass(I)I, from 0 -/
theorem vc_138_0 {G : ab_G} {L : Nat} {xs : Nat → Int32} {l : Launch} {d : Nat} {i1 : Int32} {V : aa_V} {K : aa_K} (h :
    ab_E G (ac_ST L xs) l d ac_SK 182 [.int i1, .int (1 : Int32), .int (60 : Int32)] V (aa_rI (fun x1 V1 =>
      (x1 = 0 →
        K (some (.int (-2 : Int32))) V1) ∧
      (¬ x1 = 0 →
        (((V1 0 13) + i1) < (400 : Int32) →
          K (some (.int ((V1 0 13) + i1))) (aa_up V1 0 13 ((V1 0 13) + i1))) ∧
        (¬ ((V1 0 13) + i1) < (400 : Int32) →
          K (some (.int (-4 : Int32))) V1))))) :
    ab_E G (ac_ST L xs) l (d + 1) ac_SK 138 [.ref 0, .int i1] V K := ab_wm cd_138_ok [] 29 _ _ _ _ h

set_option maxRecDepth 20000 in
/-- FrameCounty road(III)I, from 0 -/
theorem vc_139_0 {G : ab_G} {L : Nat} {xs : Nat → Int32} {l : Launch} {d : Nat} {i1 : Int32} {i2 : Int32} {i3 : Int32} {V : aa_V} {K : aa_K} (h :
    ab_E G (ac_ST L xs) l d ac_SK 48 [.int i1] V (aa_rI (fun x1 V1 =>
      (x1 = 0 →
        K (some (.int (-2 : Int32))) V1) ∧
      (¬ x1 = 0 →
        ab_E G (ac_ST L xs) l d ac_SK 48 [.int i2] V1 (aa_rI (fun x2 V2 =>
          (x2 = 0 →
            K (some (.int (-2 : Int32))) V2) ∧
          (¬ x2 = 0 →
            (i1 = i2 →
              K (some (.int (-2 : Int32))) V2) ∧
            (¬ i1 = i2 →
              ab_E G (ac_ST L xs) l d ac_SK 49 [.int i3] V2 (aa_rI (fun x3 V3 =>
                (x3 = 0 →
                  K (some (.int (-2 : Int32))) V3) ∧
                (¬ x3 = 0 →
                  ab_E G (ac_ST L xs) l d ac_SK 50 [.ref 1, .int i1, .int i2, .int i3] V3 (aa_rI (fun x4 V4 =>
                    K (some (.int x4)) V4))))))))))))) :
    ab_E G (ac_ST L xs) l (d + 1) ac_SK 139 [.ref 0, .int i1, .int i2, .int i3] V K := ab_wm cd_139_ok [] 32 _ _ _ _ h

set_option maxRecDepth 20000 in
/-- FrameCounty far(III)I, from 0 -/
theorem vc_140_0 {G : ab_G} {L : Nat} {xs : Nat → Int32} {l : Launch} {d : Nat} {i1 : Int32} {i2 : Int32} {i3 : Int32} {V : aa_V} {K : aa_K} (h :
    ab_E G (ac_ST L xs) l d ac_SK 48 [.int i1] V (aa_rI (fun x1 V1 =>
      (x1 = 0 →
        K (some (.int (-2 : Int32))) V1) ∧
      (¬ x1 = 0 →
        ab_E G (ac_ST L xs) l d ac_SK 48 [.int i2] V1 (aa_rI (fun x2 V2 =>
          (x2 = 0 →
            K (some (.int (-2 : Int32))) V2) ∧
          (¬ x2 = 0 →
            ab_E G (ac_ST L xs) l d ac_SK 183 [.int i3] V2 (aa_rI (fun x3 V3 =>
              (x3 = 0 →
                K (some (.int (-2 : Int32))) V3) ∧
              (¬ x3 = 0 →
                ab_E G (ac_ST L xs) l d ac_SK 51 [.ref 1, .int i1, .int i2, .int i3] V3 (aa_rI (fun x4 V4 =>
                  K (some (.int x4)) V4)))))))))))) :
    ab_E G (ac_ST L xs) l (d + 1) ac_SK 140 [.ref 0, .int i1, .int i2, .int i3] V K := ab_wm cd_140_ok [] 27 _ _ _ _ h

set_option maxRecDepth 20000 in
/-- FrameCounty shop(II)I, from 0 -/
theorem vc_141_0 {G : ab_G} {L : Nat} {xs : Nat → Int32} {l : Launch} {d : Nat} {i1 : Int32} {i2 : Int32} {V : aa_V} {K : aa_K} (h :
    ab_E G (ac_ST L xs) l d ac_SK 48 [.int i1] V (aa_rI (fun x1 V1 =>
      (x1 = 0 →
        K (some (.int (-2 : Int32))) V1) ∧
      (¬ x1 = 0 →
        ab_E G (ac_ST L xs) l d ac_SK 104 [.int i2] V1 (aa_rI (fun x2 V2 =>
          (x2 = 0 →
            K (some (.int (-2 : Int32))) V2) ∧
          (¬ x2 = 0 →
            ab_E G (ac_ST L xs) l d ac_SK 117 [.ref 29, .int i1, .int i2] V2 (aa_rI (fun x3 V3 =>
              K (some (.int x3)) V3))))))))) :
    ab_E G (ac_ST L xs) l (d + 1) ac_SK 141 [.ref 0, .int i1, .int i2] V K := ab_wm cd_141_ok [] 21 _ _ _ _ h

set_option maxRecDepth 20000 in
/-- FrameCounty pays(II)I, from 0 -/
theorem vc_142_0 {G : ab_G} {L : Nat} {xs : Nat → Int32} {l : Launch} {d : Nat} {i1 : Int32} {i2 : Int32} {V : aa_V} {K : aa_K} (h :
    ab_E G (ac_ST L xs) l d ac_SK 107 [.ref 29, .int i1] V (aa_rI (fun x1 V1 =>
      (x1 = 0 →
        K (some (.int (-2 : Int32))) V1) ∧
      (¬ x1 = 0 →
        ab_E G (ac_ST L xs) l d ac_SK 104 [.int i2] V1 (aa_rI (fun x2 V2 =>
          (x2 = 0 →
            K (some (.int (-2 : Int32))) V2) ∧
          (¬ x2 = 0 →
            ab_E G (ac_ST L xs) l d ac_SK 118 [.ref 29, .int i1, .int i2] V2 (aa_rI (fun x3 V3 =>
              K (some (.int x3)) V3))))))))) :
    ab_E G (ac_ST L xs) l (d + 1) ac_SK 142 [.ref 0, .int i1, .int i2] V K := ab_wm cd_142_ok [] 23 _ _ _ _ h

set_option maxRecDepth 20000 in
/-- FrameCounty frame(IIII)I, from 0 -/
theorem vc_143_0 {G : ab_G} {L : Nat} {xs : Nat → Int32} {l : Launch} {d : Nat} {i1 : Int32} {i2 : Int32} {i3 : Int32} {i4 : Int32} {V : aa_V} {K : aa_K} (h :
    ab_E G (ac_ST L xs) l d ac_SK 105 [.int i1] V (aa_rI (fun x1 V1 =>
      (x1 = 0 →
        K (some (.int (-2 : Int32))) V1) ∧
      (¬ x1 = 0 →
        ab_E G (ac_ST L xs) l d ac_SK 107 [.ref 29, .int i2] V1 (aa_rI (fun x2 V2 =>
          (x2 = 0 →
            K (some (.int (-2 : Int32))) V2) ∧
          (¬ x2 = 0 →
            ab_E G (ac_ST L xs) l d ac_SK 106 [.int i3] V2 (aa_rI (fun x3 V3 =>
              (x3 = 0 →
                K (some (.int (-2 : Int32))) V3) ∧
              (¬ x3 = 0 →
                ab_E G (ac_ST L xs) l d ac_SK 182 [.int i4, .int (0 : Int32), .int (99 : Int32)] V3 (aa_rI (fun x4 V4 =>
                  (x4 = 0 →
                    K (some (.int (-2 : Int32))) V4) ∧
                  (¬ x4 = 0 →
                    ab_E G (ac_ST L xs) l d ac_SK 119 [.ref 29, .int i1, .int i2, .int i3, .int i4] V4 (aa_rI (fun x5 V5 =>
                      K (some (.int x5)) V5))))))))))))))) :
    ab_E G (ac_ST L xs) l (d + 1) ac_SK 143 [.ref 0, .int i1, .int i2, .int i3, .int i4] V K := ab_wm cd_143_ok [] 37 _ _ _ _ h

set_option maxRecDepth 20000 in
/-- FrameCounty frameTold(II)J, from 0 -/
theorem vc_144_0 {G : ab_G} {L : Nat} {xs : Nat → Int32} {l : Launch} {d : Nat} {i1 : Int32} {i2 : Int32} {V : aa_V} {K : aa_K} (h :
    ab_E G (ac_ST L xs) l d ac_SK 108 [.ref 29, .int i1] V (aa_rI (fun x1 V1 =>
      (x1 = 0 →
        K (some (.long (-4611686018427387904 : Int64))) V1) ∧
      (¬ x1 = 0 →
        ab_E G (ac_ST L xs) l d ac_SK 120 [.ref 29, .int i1, .int i2] V1 (aa_rL (fun x2 V2 =>
          K (some (.long x2)) V2)))))) :
    ab_E G (ac_ST L xs) l (d + 1) ac_SK 144 [.ref 0, .int i1, .int i2] V K := ab_wm cd_144_ok [] 19 _ _ _ _ h

set_option maxRecDepth 20000 in
/-- FrameCounty mend(II)I, from 0 -/
theorem vc_145_0 {G : ab_G} {L : Nat} {xs : Nat → Int32} {l : Launch} {d : Nat} {i1 : Int32} {i2 : Int32} {V : aa_V} {K : aa_K} (h :
    ab_E G (ac_ST L xs) l d ac_SK 108 [.ref 29, .int i1] V (aa_rI (fun x1 V1 =>
      (x1 = 0 →
        K (some (.int (-2 : Int32))) V1) ∧
      (¬ x1 = 0 →
        ab_E G (ac_ST L xs) l d ac_SK 182 [.int i2, .int (0 : Int32), .int (2 : Int32)] V1 (aa_rI (fun x2 V2 =>
          (x2 = 0 →
            K (some (.int (-2 : Int32))) V2) ∧
          (¬ x2 = 0 →
            ab_E G (ac_ST L xs) l d ac_SK 121 [.ref 29, .int i1, .int i2] V2 (aa_rI (fun x3 V3 =>
              (x3 = 0 →
                K (some (.int (-3 : Int32))) V3) ∧
              (¬ x3 = 0 →
                K (some (.int (1 : Int32))) V3)))))))))) :
    ab_E G (ac_ST L xs) l (d + 1) ac_SK 145 [.ref 0, .int i1, .int i2] V K := ab_wm cd_145_ok [] 30 _ _ _ _ h

set_option maxRecDepth 20000 in
/-- FrameCounty keeps(I)I, from 0 -/
theorem vc_146_0 {G : ab_G} {L : Nat} {xs : Nat → Int32} {l : Launch} {d : Nat} {i1 : Int32} {V : aa_V} {K : aa_K} (h :
    ab_E G (ac_ST L xs) l d ac_SK 107 [.ref 29, .int i1] V (aa_rI (fun x1 V1 =>
      (x1 = 0 →
        K (some (.int (-2 : Int32))) V1) ∧
      (¬ x1 = 0 →
        ab_J G (ac_ST L xs) l (d + 1) 146 16 [some (.ref 0), some (.int i1), some (.int (0 : Int32))] [] ac_SK V1 ac_SK K)))) :
    ab_E G (ac_ST L xs) l (d + 1) ac_SK 146 [.ref 0, .int i1] V K := ab_wm cd_146_ok [(16, [true, true, true])] 15 _ _ _ _ h

set_option maxRecDepth 20000 in
/-- FrameCounty keeps(I)I, from 16 -/
theorem vc_146_16 {G : ab_G} {L : Nat} {xs : Nat → Int32} {l : Launch} {d : Nat} {i1 : Int32} {i2 : Int32} {V : aa_V} {K : aa_K} (h :
    ab_E G (ac_ST L xs) l d ac_SK 110 [.ref 29] V (aa_rI (fun x1 V1 =>
      (i2 < x1 →
        ab_E G (ac_ST L xs) l d ac_SK 114 [.ref 29, .int i2] V1 (aa_rI (fun x2 V2 =>
          (x2 = i1 →
            ab_E G (ac_ST L xs) l d ac_SK 116 [.ref 29, .int i2] V2 (aa_rI (fun x3 V3 =>
              (x3 = 0 →
                ab_J G (ac_ST L xs) l (d + 1) 146 16 [some (.ref 0), some (.int i1), some (.int (i2 + 1))] [] ac_SK V3 ac_SK K) ∧
              (¬ x3 = 0 →
                ab_E G (ac_ST L xs) l d ac_SK 112 [.ref 29, .int i1] V3 (aa_rI (fun x4 V4 =>
                  ab_E G (ac_ST L xs) l d ac_SK 187 [.ref 0, .int i2] V4 (aa_rI (fun x5 V5 =>
                    (x4 < x5 →
                      K (some (.int (0 : Int32))) V5) ∧
                    (¬ x4 < x5 →
                      ab_J G (ac_ST L xs) l (d + 1) 146 16 [some (.ref 0), some (.int i1), some (.int (i2 + 1))] [] ac_SK V5 ac_SK K))))))))) ∧
          (¬ x2 = i1 →
            ab_J G (ac_ST L xs) l (d + 1) 146 16 [some (.ref 0), some (.int i1), some (.int (i2 + 1))] [] ac_SK V2 ac_SK K)))) ∧
      (¬ i2 < x1 →
        K (some (.int (1 : Int32))) V1)))) :
    ab_J G (ac_ST L xs) l (d + 1) 146 16 [some (.ref 0), some (.int i1), some (.int i2)] [] ac_SK V ac_SK K := ab_wm cd_146_ok [(16, [true, true, true])] 42 _ _ _ _ h

set_option maxRecDepth 20000 in
/-- FrameCounty earns(I)J, from 0 -/
theorem vc_147_0 {G : ab_G} {L : Nat} {xs : Nat → Int32} {l : Launch} {d : Nat} {i1 : Int32} {V : aa_V} {K : aa_K} (h :
    ab_E G (ac_ST L xs) l d ac_SK 107 [.ref 29, .int i1] V (aa_rI (fun x1 V1 =>
      (x1 = 0 →
        K (some (.long (-4611686018427387904 : Int64))) V1) ∧
      (¬ x1 = 0 →
        ab_E G (ac_ST L xs) l d ac_SK 128 [.ref 29, .int i1] V1 (aa_rI (fun x2 V2 =>
          K (some (.long (x2.toInt64))) V2)))))) :
    ab_E G (ac_ST L xs) l (d + 1) ac_SK 147 [.ref 0, .int i1] V K := ab_wm cd_147_ok [] 19 _ _ _ _ h

set_option maxRecDepth 20000 in
/-- FrameCounty feed(IJ)I, from 0 -/
theorem vc_148_0 {G : ab_G} {L : Nat} {xs : Nat → Int32} {l : Launch} {d : Nat} {i1 : Int32} {l2 : Int64} {V : aa_V} {K : aa_K} (h :
    ab_E G (ac_ST L xs) l d ac_SK 182 [.int i1, .int (1 : Int32), .int (8 : Int32)] V (aa_rI (fun x1 V1 =>
      (x1 = 0 →
        K (some (.int (-2 : Int32))) V1) ∧
      (¬ x1 = 0 →
        ab_E G (ac_ST L xs) l d ac_SK 27 [.ref 80, .int i1, .long l2] V1 (aa_rI (fun x2 V2 =>
          K (some (.int x2)) V2)))))) :
    ab_E G (ac_ST L xs) l (d + 1) ac_SK 148 [.ref 0, .int i1, .long l2] V K := ab_wm cd_148_ok [] 19 _ _ _ _ h

set_option maxRecDepth 20000 in
/-- FrameCounty text()I, from 0 -/
theorem vc_149_0 {G : ab_G} {L : Nat} {xs : Nat → Int32} {l : Launch} {d : Nat} {V : aa_V} {K : aa_K} (h :
    ((V 0 11) < (6 : Int32) →
      ∃ (n1 : Nat) (rs1 : List Nat) (q1 : Nat), aa_sh ac_SK 85 = some (102, n1, rs1) ∧ vp_in (V 0 11) n1 ∧ aa_nth rs1 ((V 0 11)).toNatClampNeg = q1 + 1 ∧
      ab_E G (ac_ST L xs) l d ac_SK 28 [.ref 80, .ref q1] V (aa_rI (fun x2 V2 =>
        (x2 < 0 →
          K (some (.int (((V2 0 11) + (1 : Int32)) - (1 : Int32)))) (aa_up V2 0 11 ((V2 0 11) + (1 : Int32)))) ∧
        (¬ x2 < 0 →
          K (some (.int ((-100 : Int32) - x2))) V2)))) ∧
    (¬ (V 0 11) < (6 : Int32) →
      K (some (.int (-4 : Int32))) V)) :
    ab_E G (ac_ST L xs) l (d + 1) ac_SK 149 [.ref 0] V K := ab_wm cd_149_ok [] 37 _ _ _ _ h

set_option maxRecDepth 20000 in
/-- FrameCounty force(I)I, from 0 -/
theorem vc_150_0 {G : ab_G} {L : Nat} {xs : Nat → Int32} {l : Launch} {d : Nat} {i1 : Int32} {V : aa_V} {K : aa_K} (h :
    ab_E G (ac_ST L xs) l d ac_SK 182 [.int i1, .int (0 : Int32), .int ((V 0 11) - (1 : Int32))] V (aa_rI (fun x1 V1 =>
      (x1 = 0 →
        K (some (.int (-2 : Int32))) V1) ∧
      (¬ x1 = 0 →
        K (some (.int (V1 0 12))) (aa_up V1 0 12 i1))))) :
    ab_E G (ac_ST L xs) l (d + 1) ac_SK 150 [.ref 0, .int i1] V K := ab_wm cd_150_ok [] 23 _ _ _ _ h

set_option maxRecDepth 20000 in
/-- FrameCounty says(II)J, from 0 -/
theorem vc_151_0 {G : ab_G} {L : Nat} {xs : Nat → Int32} {l : Launch} {d : Nat} {i1 : Int32} {i2 : Int32} {V : aa_V} {K : aa_K} (h :
    (i1 = 0 →
      ab_E G (ac_ST L xs) l d ac_SK 108 [.ref 29, .int i2] V (aa_rI (fun x1 V1 =>
        (x1 = 0 →
          (i1 = (1 : Int32) →
            ab_E G (ac_ST L xs) l d ac_SK 80 [.ref 42, .int i2] V1 (aa_rI (fun x2 V2 =>
              (x2 = 0 →
                K (some (.long (-4611686018427387904 : Int64))) V2) ∧
              (¬ x2 = 0 →
                ab_E G (ac_ST L xs) l d ac_SK 90 [.ref 42, .int (V2 0 13)] V2 (aa_rI (fun x3 V3 =>
                  ab_E G (ac_ST L xs) l d ac_SK 188 [.ref 0, .int i2, .int (V2 0 13), .int x3, .int (-1 : Int32)] V3 (aa_rI (fun x4 V4 =>
                    K (some (.long (x4.toInt64))) V4)))))))) ∧
          (¬ i1 = (1 : Int32) →
            K (some (.long (-4611686018427387904 : Int64))) V1)) ∧
        (¬ x1 = 0 →
          ab_E G (ac_ST L xs) l d ac_SK 187 [.ref 0, .int i2] V1 (aa_rI (fun x2 V2 =>
            K (some (.long (x2.toInt64))) V2)))))) ∧
    (¬ i1 = 0 →
      (i1 = (1 : Int32) →
        ab_E G (ac_ST L xs) l d ac_SK 80 [.ref 42, .int i2] V (aa_rI (fun x1 V1 =>
          (x1 = 0 →
            K (some (.long (-4611686018427387904 : Int64))) V1) ∧
          (¬ x1 = 0 →
            ab_E G (ac_ST L xs) l d ac_SK 90 [.ref 42, .int (V1 0 13)] V1 (aa_rI (fun x2 V2 =>
              ab_E G (ac_ST L xs) l d ac_SK 188 [.ref 0, .int i2, .int (V1 0 13), .int x2, .int (-1 : Int32)] V2 (aa_rI (fun x3 V3 =>
                K (some (.long (x3.toInt64))) V3)))))))) ∧
      (¬ i1 = (1 : Int32) →
        K (some (.long (-4611686018427387904 : Int64))) V))) :
    ab_E G (ac_ST L xs) l (d + 1) ac_SK 151 [.ref 0, .int i1, .int i2] V K := ab_wm cd_151_ok [] 67 _ _ _ _ h

set_option maxRecDepth 20000 in
/-- FrameCounty raid(II)I, from 0 -/
theorem vc_152_0 {G : ab_G} {L : Nat} {xs : Nat → Int32} {l : Launch} {d : Nat} {i1 : Int32} {i2 : Int32} {V : aa_V} {K : aa_K} (h :
    ab_E G (ac_ST L xs) l d ac_SK 108 [.ref 29, .int i1] V (aa_rI (fun x1 V1 =>
      (x1 = 0 →
        K (some (.int (-2 : Int32))) V1) ∧
      (¬ x1 = 0 →
        ab_E G (ac_ST L xs) l d ac_SK 184 [.int i2] V1 (aa_rI (fun x2 V2 =>
          (x2 = 0 →
            K (some (.int (-2 : Int32))) V2) ∧
          (¬ x2 = 0 →
            ab_E G (ac_ST L xs) l d ac_SK 116 [.ref 29, .int i1] V2 (aa_rI (fun x3 V3 =>
              (x3 = 0 →
                K (some (.int (-3 : Int32))) V3) ∧
              (¬ x3 = 0 →
                ab_E G (ac_ST L xs) l d ac_SK 20 [.ref 38, .int i1, .int (V3 0 13), .int i2] V3 (aa_rI (fun x4 V4 =>
                  K (some (.int x4)) V4)))))))))))) :
    ab_E G (ac_ST L xs) l (d + 1) ac_SK 152 [.ref 0, .int i1, .int i2] V K := ab_wm cd_152_ok [] 32 _ _ _ _ h

set_option maxRecDepth 20000 in
/-- FrameCounty pattern(I)I, from 0 -/
theorem vc_153_0 {G : ab_G} {L : Nat} {xs : Nat → Int32} {l : Launch} {d : Nat} {i1 : Int32} {V : aa_V} {K : aa_K} (h :
    ab_E G (ac_ST L xs) l d ac_SK 182 [.int i1, .int (0 : Int32), .int (1 : Int32)] V (aa_rI (fun x1 V1 =>
      (x1 = 0 →
        K (some (.int (-2 : Int32))) V1) ∧
      (¬ x1 = 0 →
        ab_E G (ac_ST L xs) l d ac_SK 129 [.ref 29, .int (V1 0 13)] V1 (aa_rI (fun x2 V2 =>
          (i1 = 0 →
            K (some (.int x2)) V2) ∧
          (¬ i1 = 0 →
            ab_E G (ac_ST L xs) l d ac_SK 130 [.ref 29, .int x2] V2 (aa_rI (fun x3 V3 =>
              K (some (.int x3)) V3))))))))) :
    ab_E G (ac_ST L xs) l (d + 1) ac_SK 153 [.ref 0, .int i1] V K := ab_wm cd_153_ok [] 28 _ _ _ _ h

set_option maxRecDepth 20000 in
/-- FrameCounty left()I, from 0 -/
theorem vc_154_0 {G : ab_G} {L : Nat} {xs : Nat → Int32} {l : Launch} {d : Nat} {V : aa_V} {K : aa_K} (h :
    ab_E G (ac_ST L xs) l d ac_SK 129 [.ref 29, .int (V 0 13)] V (aa_rI (fun x1 V1 =>
      ab_E G (ac_ST L xs) l d ac_SK 130 [.ref 29, .int x1] V1 (aa_rI (fun x2 V2 =>
        ab_J G (ac_ST L xs) l (d + 1) 154 26 [some (.ref 0), some (.int (0 : Int32)), some (.int x1), some (.int x2), some (.int (0 : Int32))] [] ac_SK V2 ac_SK K))))) :
    ab_E G (ac_ST L xs) l (d + 1) ac_SK 154 [.ref 0] V K := ab_wm cd_154_ok [(26, [true, true, true, true, true])] 21 _ _ _ _ h

set_option maxRecDepth 20000 in
/-- FrameCounty left()I, from 26 -/
theorem vc_154_26 {G : ab_G} {L : Nat} {xs : Nat → Int32} {l : Launch} {d : Nat} {i1 : Int32} {i2 : Int32} {i3 : Int32} {i4 : Int32} {V : aa_V} {K : aa_K} (h :
    (i4 < (1500 : Int32) →
      ab_E G (ac_ST L xs) l d ac_SK 134 [.ref 29, .int i4, .int i2, .int i3] V (aa_rI (fun x1 V1 =>
        (x1 = 0 →
          ab_J G (ac_ST L xs) l (d + 1) 154 26 [some (.ref 0), some (.int i1), some (.int i2), some (.int i3), some (.int (i4 + 1))] [] ac_SK V1 ac_SK K) ∧
        (¬ x1 = 0 →
          ab_J G (ac_ST L xs) l (d + 1) 154 26 [some (.ref 0), some (.int (i1 + 1)), some (.int i2), some (.int i3), some (.int (i4 + 1))] [] ac_SK V1 ac_SK K)))) ∧
    (¬ i4 < (1500 : Int32) →
      K (some (.int i1)) V)) :
    ab_J G (ac_ST L xs) l (d + 1) 154 26 [some (.ref 0), some (.int i1), some (.int i2), some (.int i3), some (.int i4)] [] ac_SK V ac_SK K := ab_wm cd_154_ok [(26, [true, true, true, true, true])] 24 _ _ _ _ h

set_option maxRecDepth 20000 in
/-- FrameCounty form(I)I, from 0 -/
theorem vc_155_0 {G : ab_G} {L : Nat} {xs : Nat → Int32} {l : Launch} {d : Nat} {i1 : Int32} {V : aa_V} {K : aa_K} (h :
    (i1 < 0 →
      K (some (.int (-1 : Int32))) V) ∧
    (¬ i1 < 0 →
      ab_E G (ac_ST L xs) l d ac_SK 129 [.ref 29, .int (V 0 13)] V (aa_rI (fun x1 V1 =>
        ab_E G (ac_ST L xs) l d ac_SK 130 [.ref 29, .int x1] V1 (aa_rI (fun x2 V2 =>
          ab_J G (ac_ST L xs) l (d + 1) 155 33 [some (.ref 0), none, some (.int i1), some (.int x1), some (.int x2), some (.int (0 : Int32))] [] ac_SK V2 ac_SK K)))))) :
    ab_E G (ac_ST L xs) l (d + 1) ac_SK 155 [.ref 0, .int i1] V K := ab_wm cd_155_ok [(33, [true, false, true, true, true, true])] 25 _ _ _ _ h

set_option maxRecDepth 20000 in
/-- FrameCounty form(I)I, from 33 -/
theorem vc_155_33 {G : ab_G} {L : Nat} {xs : Nat → Int32} {l : Launch} {d : Nat} {i2 : Int32} {i3 : Int32} {i4 : Int32} {i5 : Int32} {V : aa_V} {K : aa_K} (h :
    (i5 < (1500 : Int32) →
      ab_E G (ac_ST L xs) l d ac_SK 134 [.ref 29, .int i5, .int i3, .int i4] V (aa_rI (fun x1 V1 =>
        (x1 = 0 →
          ab_J G (ac_ST L xs) l (d + 1) 155 33 [some (.ref 0), none, some (.int i2), some (.int i3), some (.int i4), some (.int (i5 + 1))] [] ac_SK V1 ac_SK K) ∧
        (¬ x1 = 0 →
          (i2 = 0 →
            K (some (.int i5)) V1) ∧
          (¬ i2 = 0 →
            ab_J G (ac_ST L xs) l (d + 1) 155 33 [some (.ref 0), none, some (.int (i2 + (-1))), some (.int i3), some (.int i4), some (.int (i5 + 1))] [] ac_SK V1 ac_SK K))))) ∧
    (¬ i5 < (1500 : Int32) →
      K (some (.int (-1 : Int32))) V)) :
    ab_J G (ac_ST L xs) l (d + 1) 155 33 [some (.ref 0), none, some (.int i2), some (.int i3), some (.int i4), some (.int i5)] [] ac_SK V ac_SK K := ab_wm cd_155_ok [(33, [true, false, true, true, true, true])] 28 _ _ _ _ h

set_option maxRecDepth 20000 in
/-- FrameCounty sends(I)I, from 0 -/
theorem vc_156_0 {G : ab_G} {L : Nat} {xs : Nat → Int32} {l : Launch} {d : Nat} {i1 : Int32} {V : aa_V} {K : aa_K} (h :
    ab_E G (ac_ST L xs) l d ac_SK 182 [.int i1, .int (0 : Int32), .int (1499 : Int32)] V (aa_rI (fun x1 V1 =>
      (x1 = 0 →
        K (some (.int (-2 : Int32))) V1) ∧
      (¬ x1 = 0 →
        ab_E G (ac_ST L xs) l d ac_SK 129 [.ref 29, .int (V1 0 13)] V1 (aa_rI (fun x2 V2 =>
          ab_E G (ac_ST L xs) l d ac_SK 135 [.ref 29, .int i1, .int x2] V2 (aa_rI (fun x3 V3 =>
            K (some (.int x3)) V3)))))))) :
    ab_E G (ac_ST L xs) l (d + 1) ac_SK 156 [.ref 0, .int i1] V K := ab_wm cd_156_ok [] 22 _ _ _ _ h

set_option maxRecDepth 20000 in
/-- FrameCounty person(I)I, from 0 -/
theorem vc_157_0 {G : ab_G} {L : Nat} {xs : Nat → Int32} {l : Launch} {d : Nat} {i1 : Int32} {V : aa_V} {K : aa_K} (h :
    ab_E G (ac_ST L xs) l d ac_SK 48 [.int i1] V (aa_rI (fun x1 V1 =>
      (x1 = 0 →
        K (some (.int (-2 : Int32))) V1) ∧
      (¬ x1 = 0 →
        ab_E G (ac_ST L xs) l d ac_SK 84 [.ref 42, .int i1] V1 (aa_rI (fun x2 V2 =>
          K (some (.int x2)) V2)))))) :
    ab_E G (ac_ST L xs) l (d + 1) ac_SK 157 [.ref 0, .int i1] V K := ab_wm cd_157_ok [] 16 _ _ _ _ h

set_option maxRecDepth 20000 in
/-- FrameCounty seen(IIII)I, from 0 -/
theorem vc_158_0 {G : ab_G} {L : Nat} {xs : Nat → Int32} {l : Launch} {d : Nat} {i1 : Int32} {i2 : Int32} {i3 : Int32} {i4 : Int32} {V : aa_V} {K : aa_K} (h :
    ab_E G (ac_ST L xs) l d ac_SK 80 [.ref 42, .int i1] V (aa_rI (fun x1 V1 =>
      (x1 = 0 →
        K (some (.int (-2 : Int32))) V1) ∧
      (¬ x1 = 0 →
        ab_E G (ac_ST L xs) l d ac_SK 48 [.int i2] V1 (aa_rI (fun x2 V2 =>
          (x2 = 0 →
            K (some (.int (-2 : Int32))) V2) ∧
          (¬ x2 = 0 →
            ab_E G (ac_ST L xs) l d ac_SK 186 [.ref 0, .int i3] V2 (aa_rI (fun x3 V3 =>
              (x3 = 0 →
                K (some (.int (-2 : Int32))) V3) ∧
              (¬ x3 = 0 →
                ab_E G (ac_ST L xs) l d ac_SK 184 [.int i4] V3 (aa_rI (fun x4 V4 =>
                  (x4 = 0 →
                    K (some (.int (-2 : Int32))) V4) ∧
                  (¬ x4 = 0 →
                    ab_E G (ac_ST L xs) l d ac_SK 85 [.ref 42, .int i1, .int i2, .int i3, .int i4, .int (V4 0 13)] V4 (aa_rI (fun x5 V5 =>
                      K (some (.int x5)) V5))))))))))))))) :
    ab_E G (ac_ST L xs) l (d + 1) ac_SK 158 [.ref 0, .int i1, .int i2, .int i3, .int i4] V K := ab_wm cd_158_ok [] 38 _ _ _ _ h

set_option maxRecDepth 20000 in
/-- FrameCounty canBe(IIII)I, from 0 -/
theorem vc_159_0 {G : ab_G} {L : Nat} {xs : Nat → Int32} {l : Launch} {d : Nat} {i1 : Int32} {i2 : Int32} {i3 : Int32} {i4 : Int32} {V : aa_V} {K : aa_K} (h :
    ab_E G (ac_ST L xs) l d ac_SK 80 [.ref 42, .int i1] V (aa_rI (fun x1 V1 =>
      (x1 = 0 →
        K (some (.int (-2 : Int32))) V1) ∧
      (¬ x1 = 0 →
        ab_E G (ac_ST L xs) l d ac_SK 48 [.int i2] V1 (aa_rI (fun x2 V2 =>
          (x2 = 0 →
            K (some (.int (-2 : Int32))) V2) ∧
          (¬ x2 = 0 →
            ab_E G (ac_ST L xs) l d ac_SK 186 [.ref 0, .int i4] V2 (aa_rI (fun x3 V3 =>
              (x3 = 0 →
                K (some (.int (-2 : Int32))) V3) ∧
              (¬ x3 = 0 →
                (i3 < 0 →
                  K (some (.int (-2 : Int32))) V3) ∧
                (¬ i3 < 0 →
                  ¬ (100 : Int32) = 0 ∧
                  ¬ (100 : Int32) = 0 ∧
                  ab_E G (ac_ST L xs) l d ac_SK 183 [.int (i3 / (100 : Int32))] V3 (aa_rI (fun x4 V4 =>
                    (x4 = 0 →
                      K (some (.int (-2 : Int32))) V4) ∧
                    (¬ x4 = 0 →
                      ab_E G (ac_ST L xs) l d ac_SK 184 [.int (i3 - i3 / (100 : Int32) * (100 : Int32))] V4 (aa_rI (fun x5 V5 =>
                        (x5 = 0 →
                          K (some (.int (-2 : Int32))) V5) ∧
                        (¬ x5 = 0 →
                          ab_E G (ac_ST L xs) l d ac_SK 87 [.ref 42, .int i1, .int i2, .int (i3 / (100 : Int32)), .int (i3 - i3 / (100 : Int32) * (100 : Int32)), .int i4] V5 (aa_rI (fun x6 V6 =>
                            (x6 = 0 →
                              K (some (.int (0 : Int32))) V6) ∧
                            (¬ x6 = 0 →
                              K (some (.int (1 : Int32))) V6)))))))))))))))))))) :
    ab_E G (ac_ST L xs) l (d + 1) ac_SK 159 [.ref 0, .int i1, .int i2, .int i3, .int i4] V K := ab_wm cd_159_ok [] 59 _ _ _ _ h

set_option maxRecDepth 20000 in
/-- FrameCounty suspects(II)I, from 0 -/
theorem vc_160_0 {G : ab_G} {L : Nat} {xs : Nat → Int32} {l : Launch} {d : Nat} {i1 : Int32} {i2 : Int32} {V : aa_V} {K : aa_K} (h :
    ab_E G (ac_ST L xs) l d ac_SK 18 [.ref 38, .int i1] V (aa_rI (fun x1 V1 =>
      (x1 = 0 →
        K (some (.int (-2 : Int32))) V1) ∧
      (¬ x1 = 0 →
        ab_E G (ac_ST L xs) l d ac_SK 186 [.ref 0, .int i2] V1 (aa_rI (fun x2 V2 =>
          (x2 = 0 →
            K (some (.int (-2 : Int32))) V2) ∧
          (¬ x2 = 0 →
            ab_E G (ac_ST L xs) l d ac_SK 89 [.ref 42, .int i1, .int i2] V2 (aa_rI (fun x3 V3 =>
              K (some (.int x3)) V3))))))))) :
    ab_E G (ac_ST L xs) l (d + 1) ac_SK 160 [.ref 0, .int i1, .int i2] V K := ab_wm cd_160_ok [] 25 _ _ _ _ h

set_option maxRecDepth 20000 in
/-- FrameCounty word(IIII)I, from 0 -/
theorem vc_161_0 {G : ab_G} {L : Nat} {xs : Nat → Int32} {l : Launch} {d : Nat} {i1 : Int32} {i2 : Int32} {i3 : Int32} {i4 : Int32} {V : aa_V} {K : aa_K} (h :
    ab_E G (ac_ST L xs) l d ac_SK 185 [.int i1] V (aa_rI (fun x1 V1 =>
      (x1 = 0 →
        K (some (.int (-2 : Int32))) V1) ∧
      (¬ x1 = 0 →
        ab_E G (ac_ST L xs) l d ac_SK 80 [.ref 42, .int i2] V1 (aa_rI (fun x2 V2 =>
          (x2 = 0 →
            K (some (.int (-2 : Int32))) V2) ∧
          (¬ x2 = 0 →
            ab_E G (ac_ST L xs) l d ac_SK 18 [.ref 38, .int i3] V2 (aa_rI (fun x3 V3 =>
              (x3 = 0 →
                K (some (.int (-2 : Int32))) V3) ∧
              (¬ x3 = 0 →
                ab_E G (ac_ST L xs) l d ac_SK 182 [.int i4, .int (0 : Int32), .int (999 : Int32)] V3 (aa_rI (fun x4 V4 =>
                  (x4 = 0 →
                    K (some (.int (-2 : Int32))) V4) ∧
                  (¬ x4 = 0 →
                    ab_E G (ac_ST L xs) l d ac_SK 86 [.ref 42, .int i1, .int i2, .int i3, .int i4, .int (V4 0 13)] V4 (aa_rI (fun x5 V5 =>
                      K (some (.int x5)) V5))))))))))))))) :
    ab_E G (ac_ST L xs) l (d + 1) ac_SK 161 [.ref 0, .int i1, .int i2, .int i3, .int i4] V K := ab_wm cd_161_ok [] 41 _ _ _ _ h

set_option maxRecDepth 20000 in
/-- FrameCounty falseWords(I)I, from 0 -/
theorem vc_162_0 {G : ab_G} {L : Nat} {xs : Nat → Int32} {l : Launch} {d : Nat} {i1 : Int32} {V : aa_V} {K : aa_K} (h :
    ab_E G (ac_ST L xs) l d ac_SK 186 [.ref 0, .int i1] V (aa_rI (fun x1 V1 =>
      (x1 = 0 →
        K (some (.int (-2 : Int32))) V1) ∧
      (¬ x1 = 0 →
        ab_E G (ac_ST L xs) l d ac_SK 90 [.ref 42, .int i1] V1 (aa_rI (fun x2 V2 =>
          K (some (.int x2)) V2)))))) :
    ab_E G (ac_ST L xs) l (d + 1) ac_SK 162 [.ref 0, .int i1] V K := ab_wm cd_162_ok [] 17 _ _ _ _ h

set_option maxRecDepth 20000 in
/-- FrameCounty paid(III)J, from 0 -/
theorem vc_163_0 {G : ab_G} {L : Nat} {xs : Nat → Int32} {l : Launch} {d : Nat} {i1 : Int32} {i2 : Int32} {i3 : Int32} {V : aa_V} {K : aa_K} (h :
    ab_E G (ac_ST L xs) l d ac_SK 185 [.int i1] V (aa_rI (fun x1 V1 =>
      (x1 = 0 →
        K (some (.long (-4611686018427387904 : Int64))) V1) ∧
      (¬ x1 = 0 →
        ab_E G (ac_ST L xs) l d ac_SK 182 [.int i2, .int (0 : Int32), .int (1 : Int32)] V1 (aa_rI (fun x2 V2 =>
          (x2 = 0 →
            K (some (.long (-4611686018427387904 : Int64))) V2) ∧
          (¬ x2 = 0 →
            ab_E G (ac_ST L xs) l d ac_SK 186 [.ref 0, .int i3] V2 (aa_rI (fun x3 V3 =>
              (x3 = 0 →
                K (some (.long (-4611686018427387904 : Int64))) V3) ∧
              (¬ x3 = 0 →
                ab_E G (ac_ST L xs) l d ac_SK 91 [.ref 42, .int i1, .int i3] V3 (aa_rI (fun x4 V4 =>
                  (i2 = 0 →
                    ab_E G (ac_ST L xs) l d ac_SK 93 [.ref 42, .int x4] V4 (aa_rI (fun x5 V5 =>
                      K (some (.long (x5.toInt64))) V5))) ∧
                  (¬ i2 = 0 →
                    ab_E G (ac_ST L xs) l d ac_SK 90 [.ref 42, .int i3] V4 (aa_rI (fun x5 V5 =>
                      ab_E G (ac_ST L xs) l d ac_SK 93 [.ref 42, .int (x4 &&& x5)] V5 (aa_rI (fun x6 V6 =>
                        K (some (.long (x6.toInt64))) V6))))))))))))))))) :
    ab_E G (ac_ST L xs) l (d + 1) ac_SK 163 [.ref 0, .int i1, .int i2, .int i3] V K := ab_wm cd_163_ok [] 47 _ _ _ _ h

set_option maxRecDepth 20000 in
/-- FrameCounty held(I)I, from 0 -/
theorem vc_164_0 {G : ab_G} {L : Nat} {xs : Nat → Int32} {l : Launch} {d : Nat} {i1 : Int32} {V : aa_V} {K : aa_K} (h :
    ab_E G (ac_ST L xs) l d ac_SK 186 [.ref 0, .int i1] V (aa_rI (fun x1 V1 =>
      (x1 = 0 →
        K (some (.int (-2 : Int32))) V1) ∧
      (¬ x1 = 0 →
        ab_E G (ac_ST L xs) l d ac_SK 189 [.ref 0, .int (-1 : Int32), .int i1] V1 (aa_rI (fun x2 V2 =>
          K (some (.int x2)) V2)))))) :
    ab_E G (ac_ST L xs) l (d + 1) ac_SK 164 [.ref 0, .int i1] V K := ab_wm cd_164_ok [] 17 _ _ _ _ h

set_option maxRecDepth 20000 in
/-- FrameCounty hangs(II)I, from 0 -/
theorem vc_165_0 {G : ab_G} {L : Nat} {xs : Nat → Int32} {l : Launch} {d : Nat} {i1 : Int32} {i2 : Int32} {V : aa_V} {K : aa_K} (h :
    ab_E G (ac_ST L xs) l d ac_SK 185 [.int i1] V (aa_rI (fun x1 V1 =>
      (x1 = 0 →
        K (some (.int (-2 : Int32))) V1) ∧
      (¬ x1 = 0 →
        ab_E G (ac_ST L xs) l d ac_SK 186 [.ref 0, .int i2] V1 (aa_rI (fun x2 V2 =>
          (x2 = 0 →
            K (some (.int (-2 : Int32))) V2) ∧
          (¬ x2 = 0 →
            ab_E G (ac_ST L xs) l d ac_SK 189 [.ref 0, .int (-1 : Int32), .int i2] V2 (aa_rI (fun x3 V3 =>
              ab_E G (ac_ST L xs) l d ac_SK 189 [.ref 0, .int i1, .int i2] V3 (aa_rI (fun x4 V4 =>
                K (some (.int (x3 &&& (x4 ^^^ (-1 : Int32))))) V4))))))))))) :
    ab_E G (ac_ST L xs) l (d + 1) ac_SK 165 [.ref 0, .int i1, .int i2] V K := ab_wm cd_165_ok [] 28 _ _ _ _ h

set_option maxRecDepth 20000 in
/-- FrameCounty meeting(III)I, from 0 -/
theorem vc_166_0 {G : ab_G} {L : Nat} {xs : Nat → Int32} {l : Launch} {d : Nat} {i1 : Int32} {i2 : Int32} {i3 : Int32} {V : aa_V} {K : aa_K} (h :
    ab_E G (ac_ST L xs) l d ac_SK 80 [.ref 42, .int i1] V (aa_rI (fun x1 V1 =>
      (x1 = 0 →
        K (some (.int (-2 : Int32))) V1) ∧
      (¬ x1 = 0 →
        ab_E G (ac_ST L xs) l d ac_SK 80 [.ref 42, .int i2] V1 (aa_rI (fun x2 V2 =>
          (x2 = 0 →
            K (some (.int (-2 : Int32))) V2) ∧
          (¬ x2 = 0 →
            (i1 = i2 →
              K (some (.int (-2 : Int32))) V2) ∧
            (¬ i1 = i2 →
              ab_E G (ac_ST L xs) l d ac_SK 186 [.ref 0, .int i3] V2 (aa_rI (fun x3 V3 =>
                (x3 = 0 →
                  K (some (.int (-2 : Int32))) V3) ∧
                (¬ x3 = 0 →
                  ab_E G (ac_ST L xs) l d ac_SK 11 [.ref 54, .int i1, .int i2, .int i3] V3 (aa_rI (fun x4 V4 =>
                    K (some (.int x4)) V4))))))))))))) :
    ab_E G (ac_ST L xs) l (d + 1) ac_SK 166 [.ref 0, .int i1, .int i2, .int i3] V K := ab_wm cd_166_ok [] 37 _ _ _ _ h

set_option maxRecDepth 20000 in
/-- FrameCounty taker(II)I, from 0 -/
theorem vc_167_0 {G : ab_G} {L : Nat} {xs : Nat → Int32} {l : Launch} {d : Nat} {i1 : Int32} {i2 : Int32} {V : aa_V} {K : aa_K} (h :
    ab_E G (ac_ST L xs) l d ac_SK 80 [.ref 42, .int i1] V (aa_rI (fun x1 V1 =>
      (x1 = 0 →
        K (some (.int (-5 : Int32))) V1) ∧
      (¬ x1 = 0 →
        ab_E G (ac_ST L xs) l d ac_SK 182 [.int i2, .int (-1 : Int32), .int (399 : Int32)] V1 (aa_rI (fun x2 V2 =>
          (x2 = 0 →
            K (some (.int (-5 : Int32))) V2) ∧
          (¬ x2 = 0 →
            ab_E G (ac_ST L xs) l d ac_SK 12 [.ref 54, .int i1, .int i2] V2 (aa_rI (fun x3 V3 =>
              K (some (.int x3)) V3))))))))) :
    ab_E G (ac_ST L xs) l (d + 1) ac_SK 167 [.ref 0, .int i1, .int i2] V K := ab_wm cd_167_ok [] 25 _ _ _ _ h

set_option maxRecDepth 20000 in
/-- FrameCounty sworn(II)I, from 0 -/
theorem vc_168_0 {G : ab_G} {L : Nat} {xs : Nat → Int32} {l : Launch} {d : Nat} {i1 : Int32} {i2 : Int32} {V : aa_V} {K : aa_K} (h :
    (i1 < 0 →
      K (some (.int (-2 : Int32))) V) ∧
    (¬ i1 < 0 →
      ab_E G (ac_ST L xs) l d ac_SK 81 [.ref 42] V (aa_rI (fun x1 V1 =>
        (i1 < ((1 : Int32) <<< (x1 &&& 31)) →
          ab_E G (ac_ST L xs) l d ac_SK 183 [.int i2] V1 (aa_rI (fun x2 V2 =>
            (x2 = 0 →
              K (some (.int (-2 : Int32))) V2) ∧
            (¬ x2 = 0 →
              ab_E G (ac_ST L xs) l d ac_SK 13 [.ref 54, .int i1, .int i2] V2 (aa_rI (fun x3 V3 =>
                K (some (.int x3)) V3)))))) ∧
        (¬ i1 < ((1 : Int32) <<< (x1 &&& 31)) →
          K (some (.int (-2 : Int32))) V1))))) :
    ab_E G (ac_ST L xs) l (d + 1) ac_SK 168 [.ref 0, .int i1, .int i2] V K := ab_wm cd_168_ok [] 29 _ _ _ _ h

set_option maxRecDepth 20000 in
/-- FrameCounty began()I, from 0 -/
theorem vc_169_0 {G : ab_G} {L : Nat} {xs : Nat → Int32} {l : Launch} {d : Nat} {V : aa_V} {K : aa_K} (h :
    ab_E G (ac_ST L xs) l d ac_SK 81 [.ref 42] V (aa_rI (fun x1 V1 =>
      ab_E G (ac_ST L xs) l d ac_SK 14 [.ref 54, .int x1] V1 (aa_rI (fun x2 V2 =>
        K (some (.int x2)) V2))))) :
    ab_E G (ac_ST L xs) l (d + 1) ac_SK 169 [.ref 0] V K := ab_wm cd_169_ok [] 12 _ _ _ _ h

set_option maxRecDepth 20000 in
/-- FrameCounty parties(IIII)I, from 0 -/
theorem vc_170_0 {G : ab_G} {L : Nat} {xs : Nat → Int32} {l : Launch} {d : Nat} {i1 : Int32} {i2 : Int32} {i3 : Int32} {i4 : Int32} {V : aa_V} {K : aa_K} (h :
    ab_E G (ac_ST L xs) l d ac_SK 182 [.int i1, .int (0 : Int32), .int (8 : Int32)] V (aa_rI (fun x1 V1 =>
      (x1 = 0 →
        K (some (.int (-2 : Int32))) V1) ∧
      (¬ x1 = 0 →
        ab_E G (ac_ST L xs) l d ac_SK 182 [.int i2, .int (0 : Int32), .int (99 : Int32)] V1 (aa_rI (fun x2 V2 =>
          (x2 = 0 →
            K (some (.int (-2 : Int32))) V2) ∧
          (¬ x2 = 0 →
            ab_E G (ac_ST L xs) l d ac_SK 183 [.int i3] V2 (aa_rI (fun x3 V3 =>
              (x3 = 0 →
                K (some (.int (-2 : Int32))) V3) ∧
              (¬ x3 = 0 →
                ab_E G (ac_ST L xs) l d ac_SK 182 [.int i4, .int (0 : Int32), .int (1 : Int32)] V3 (aa_rI (fun x4 V4 =>
                  (x4 = 0 →
                    K (some (.int (-2 : Int32))) V4) ∧
                  (¬ x4 = 0 →
                    ab_J G (ac_ST L xs) l (d + 1) 170 49 [some (.ref 0), some (.int i1), some (.int i2), some (.int i3), some (.int i4), some (.int (-1 : Int32)), some (.int (-1 : Int32)), some (.int (0 : Int32)), none] [] ac_SK V4 ac_SK K))))))))))))) :
    ab_E G (ac_ST L xs) l (d + 1) ac_SK 170 [.ref 0, .int i1, .int i2, .int i3, .int i4] V K := ab_wm cd_170_ok [(49, [true, true, true, true, true, true, true, true, false])] 38 _ _ _ _ h

set_option maxRecDepth 20000 in
/-- FrameCounty parties(IIII)I, from 49 -/
theorem vc_170_49 {G : ab_G} {L : Nat} {xs : Nat → Int32} {l : Launch} {d : Nat} {i1 : Int32} {i2 : Int32} {i3 : Int32} {i4 : Int32} {i5 : Int32} {i6 : Int32} {i7 : Int32} {V : aa_V} {K : aa_K} (h :
    (i7 < (256 : Int32) →
      ab_E G (ac_ST L xs) l d ac_SK 285 [.int i7] V (aa_rI (fun x1 V1 =>
        (x1 = i1 →
          ab_E G (ac_ST L xs) l d ac_SK 190 [.ref 0, .int i7, .int i2, .int i3] V1 (aa_rI (fun x2 V2 =>
            (i6 < x2 →
              ab_J G (ac_ST L xs) l (d + 1) 170 49 [some (.ref 0), some (.int i1), some (.int i2), some (.int i3), some (.int i4), some (.int i7), some (.int x2), some (.int (i7 + 1)), none] [] ac_SK V2 ac_SK K) ∧
            (¬ i6 < x2 →
              ab_J G (ac_ST L xs) l (d + 1) 170 49 [some (.ref 0), some (.int i1), some (.int i2), some (.int i3), some (.int i4), some (.int i5), some (.int i6), some (.int (i7 + 1)), none] [] ac_SK V2 ac_SK K)))) ∧
        (¬ x1 = i1 →
          ab_J G (ac_ST L xs) l (d + 1) 170 49 [some (.ref 0), some (.int i1), some (.int i2), some (.int i3), some (.int i4), some (.int i5), some (.int i6), some (.int (i7 + 1)), none] [] ac_SK V1 ac_SK K)))) ∧
    (¬ i7 < (256 : Int32) →
      (i4 = 0 →
        K (some (.int i5)) V) ∧
      (¬ i4 = 0 →
        K (some (.int i6)) V))) :
    ab_J G (ac_ST L xs) l (d + 1) 170 49 [some (.ref 0), some (.int i1), some (.int i2), some (.int i3), some (.int i4), some (.int i5), some (.int i6), some (.int i7), none] [] ac_SK V ac_SK K := ab_wm cd_170_ok [(49, [true, true, true, true, true, true, true, true, false])] 41 _ _ _ _ h

set_option maxRecDepth 20000 in
/-- FrameCounty clause(II)I, from 0 -/
theorem vc_171_0 {G : ab_G} {L : Nat} {xs : Nat → Int32} {l : Launch} {d : Nat} {i1 : Int32} {i2 : Int32} {V : aa_V} {K : aa_K} (h :
    ab_E G (ac_ST L xs) l d ac_SK 182 [.int i1, .int (-99 : Int32), .int (99 : Int32)] V (aa_rI (fun x1 V1 =>
      (x1 = 0 →
        K (some (.int (-2 : Int32))) V1) ∧
      (¬ x1 = 0 →
        ab_E G (ac_ST L xs) l d ac_SK 182 [.int i2, .int (-99 : Int32), .int (99 : Int32)] V1 (aa_rI (fun x2 V2 =>
          (x2 = 0 →
            K (some (.int (-2 : Int32))) V2) ∧
          (¬ x2 = 0 →
            ab_E G (ac_ST L xs) l d ac_SK 3 [.ref 60, .int i1, .int i2] V2 (aa_rI (fun x3 V3 =>
              K (some (.int x3)) V3))))))))) :
    ab_E G (ac_ST L xs) l (d + 1) ac_SK 171 [.ref 0, .int i1, .int i2] V K := ab_wm cd_171_ok [] 25 _ _ _ _ h

set_option maxRecDepth 20000 in
/-- FrameCounty against(II)I, from 0 -/
theorem vc_172_0 {G : ab_G} {L : Nat} {xs : Nat → Int32} {l : Launch} {d : Nat} {i1 : Int32} {i2 : Int32} {V : aa_V} {K : aa_K} (h :
    ab_E G (ac_ST L xs) l d ac_SK 1 [.ref 60, .int i1] V (aa_rI (fun x1 V1 =>
      (x1 = 0 →
        K (some (.int (-2 : Int32))) V1) ∧
      (¬ x1 = 0 →
        ab_E G (ac_ST L xs) l d ac_SK 1 [.ref 60, .int i2] V1 (aa_rI (fun x2 V2 =>
          (x2 = 0 →
            K (some (.int (-2 : Int32))) V2) ∧
          (¬ x2 = 0 →
            (i1 = i2 →
              K (some (.int (-2 : Int32))) V2) ∧
            (¬ i1 = i2 →
              ab_E G (ac_ST L xs) l d ac_SK 4 [.ref 60, .int i1, .int i2] V2 (aa_rI (fun x3 V3 =>
                (x3 = 0 →
                  K (some (.int (0 : Int32))) V3) ∧
                (¬ x3 = 0 →
                  K (some (.int (1 : Int32))) V3))))))))))) :
    ab_E G (ac_ST L xs) l (d + 1) ac_SK 172 [.ref 0, .int i1, .int i2] V K := ab_wm cd_172_ok [] 35 _ _ _ _ h

set_option maxRecDepth 20000 in
/-- FrameCounty offer(II)I, from 0 -/
theorem vc_173_0 {G : ab_G} {L : Nat} {xs : Nat → Int32} {l : Launch} {d : Nat} {i1 : Int32} {i2 : Int32} {V : aa_V} {K : aa_K} (h :
    ab_E G (ac_ST L xs) l d ac_SK 182 [.int i1, .int (-999 : Int32), .int (999 : Int32)] V (aa_rI (fun x1 V1 =>
      (x1 = 0 →
        K (some (.int (-2 : Int32))) V1) ∧
      (¬ x1 = 0 →
        ab_E G (ac_ST L xs) l d ac_SK 182 [.int i2, .int (-999 : Int32), .int (999 : Int32)] V1 (aa_rI (fun x2 V2 =>
          (x2 = 0 →
            K (some (.int (-2 : Int32))) V2) ∧
          (¬ x2 = 0 →
            ab_E G (ac_ST L xs) l d ac_SK 5 [.ref 60, .int i1, .int i2] V2 (aa_rI (fun x3 V3 =>
              K (some (.int x3)) V3))))))))) :
    ab_E G (ac_ST L xs) l (d + 1) ac_SK 173 [.ref 0, .int i1, .int i2] V K := ab_wm cd_173_ok [] 25 _ _ _ _ h

set_option maxRecDepth 20000 in
/-- FrameCounty row(J)I, from 0 -/
theorem vc_174_0 {G : ab_G} {L : Nat} {xs : Nat → Int32} {l : Launch} {d : Nat} {l1 : Int64} {V : aa_V} {K : aa_K} (h :
    ab_E G (ac_ST L xs) l d ac_SK 95 [.long l1] V (aa_rI (fun x1 V1 =>
      (x1 = 0 →
        K (some (.int (-2 : Int32))) V1) ∧
      (¬ x1 = 0 →
        ab_E G (ac_ST L xs) l d ac_SK 97 [.ref 64, .long l1] V1 (aa_rI (fun x2 V2 =>
          K (some (.int x2)) V2)))))) :
    ab_E G (ac_ST L xs) l (d + 1) ac_SK 174 [.ref 0, .long l1] V K := ab_wm cd_174_ok [] 16 _ _ _ _ h

set_option maxRecDepth 20000 in
/-- FrameCounty plan(II)I, from 0 -/
theorem vc_175_0 {G : ab_G} {L : Nat} {xs : Nat → Int32} {l : Launch} {d : Nat} {i1 : Int32} {i2 : Int32} {V : aa_V} {K : aa_K} (h :
    ab_E G (ac_ST L xs) l d ac_SK 182 [.int i1, .int (1 : Int32), .int (5 : Int32)] V (aa_rI (fun x1 V1 =>
      (x1 = 0 →
        K (some (.int (-2 : Int32))) V1) ∧
      (¬ x1 = 0 →
        ab_E G (ac_ST L xs) l d ac_SK 182 [.int i2, .int (-1 : Int32), .int (i1 - (1 : Int32))] V1 (aa_rI (fun x2 V2 =>
          (x2 = 0 →
            K (some (.int (-1 : Int32))) V2) ∧
          (¬ x2 = 0 →
            ab_E G (ac_ST L xs) l d ac_SK 99 [.ref 64, .int i1] V2 (aa_rI (fun x3 V3 =>
              (i2 = (-1 : Int32) →
                ab_E G (ac_ST L xs) l d ac_SK 100 [.ref 64, .int x3, .int i1] V3 (aa_rI (fun x4 V4 =>
                  K (some (.int x4)) V4))) ∧
              (¬ i2 = (-1 : Int32) →
                ab_E G (ac_ST L xs) l d ac_SK 98 [.int i2, .int x3, .int i1] V3 (aa_rI (fun x4 V4 =>
                  K (some (.int x4)) V4)))))))))))) :
    ab_E G (ac_ST L xs) l (d + 1) ac_SK 175 [.ref 0, .int i1, .int i2] V K := ab_wm cd_175_ok [] 41 _ _ _ _ h

set_option maxRecDepth 20000 in
/-- FrameCounty count(I)I, from 0 -/
theorem vc_176_0 {G : ab_G} {L : Nat} {xs : Nat → Int32} {l : Launch} {d : Nat} {i1 : Int32} {V : aa_V} {K : aa_K} (h :
    (i1 = 0 →
      K (some (.int (V 0 13))) V) ∧
    (¬ i1 = 0 →
    (i1 = 1 →
      ab_E G (ac_ST L xs) l d ac_SK 109 [.ref 29] V (aa_rI (fun x1 V1 =>
        K (some (.int x1)) V1))) ∧
    (¬ i1 = 1 →
    (i1 = 2 →
      ab_E G (ac_ST L xs) l d ac_SK 110 [.ref 29] V (aa_rI (fun x1 V1 =>
        K (some (.int x1)) V1))) ∧
    (¬ i1 = 2 →
    (i1 = 3 →
      ab_E G (ac_ST L xs) l d ac_SK 19 [.ref 38] V (aa_rI (fun x1 V1 =>
        K (some (.int x1)) V1))) ∧
    (¬ i1 = 3 →
    (i1 = 4 →
      ab_E G (ac_ST L xs) l d ac_SK 81 [.ref 42] V (aa_rI (fun x1 V1 =>
        K (some (.int x1)) V1))) ∧
    (¬ i1 = 4 →
    (i1 = 5 →
      ab_E G (ac_ST L xs) l d ac_SK 82 [.ref 42] V (aa_rI (fun x1 V1 =>
        K (some (.int x1)) V1))) ∧
    (¬ i1 = 5 →
    (i1 = 6 →
      ab_E G (ac_ST L xs) l d ac_SK 83 [.ref 42] V (aa_rI (fun x1 V1 =>
        K (some (.int x1)) V1))) ∧
    (¬ i1 = 6 →
    (i1 = 7 →
      ab_E G (ac_ST L xs) l d ac_SK 10 [.ref 54] V (aa_rI (fun x1 V1 =>
        K (some (.int x1)) V1))) ∧
    (¬ i1 = 7 →
    (i1 = 8 →
      ab_E G (ac_ST L xs) l d ac_SK 2 [.ref 60] V (aa_rI (fun x1 V1 =>
        K (some (.int x1)) V1))) ∧
    (¬ i1 = 8 →
    (i1 = 9 →
      ab_E G (ac_ST L xs) l d ac_SK 96 [.ref 64] V (aa_rI (fun x1 V1 =>
        K (some (.int x1)) V1))) ∧
    (¬ i1 = 9 →
    (i1 = 10 →
      K (some (.int (V 0 11))) V) ∧
    (¬ i1 = 10 →
    (i1 = 11 →
      ab_E G (ac_ST L xs) l d ac_SK 25 [.ref 80] V (aa_rI (fun x1 V1 =>
        K (some (.int x1)) V1))) ∧
    (¬ i1 = 11 →
    (i1 = 12 →
      K (some (.int (V 0 12))) V) ∧
    (¬ i1 = 12 →
    (i1 = 13 →
      ab_E G (ac_ST L xs) l d ac_SK 123 [.ref 29, .int (0 : Int32)] V (aa_rI (fun x1 V1 =>
        K (some (.int x1)) V1))) ∧
    (¬ i1 = 13 →
    (i1 = 14 →
      ab_E G (ac_ST L xs) l d ac_SK 123 [.ref 29, .int (1 : Int32)] V (aa_rI (fun x1 V1 =>
        K (some (.int x1)) V1))) ∧
    (¬ i1 = 14 →
    (i1 = 15 →
      ab_E G (ac_ST L xs) l d ac_SK 123 [.ref 29, .int (2 : Int32)] V (aa_rI (fun x1 V1 =>
        K (some (.int x1)) V1))) ∧
    (¬ i1 = 15 →
    K (some (.int (-2 : Int32))) V))))))))))))))))) :
    ab_E G (ac_ST L xs) l (d + 1) ac_SK 176 [.ref 0, .int i1] V K := ab_wm cd_176_ok [] 73 _ _ _ _ h

set_option maxRecDepth 20000 in
/-- FrameCounty sheet(III)I, from 0 -/
theorem vc_177_0 {G : ab_G} {L : Nat} {xs : Nat → Int32} {l : Launch} {d : Nat} {i1 : Int32} {i2 : Int32} {i3 : Int32} {V : aa_V} {K : aa_K} (h :
    ab_E G (ac_ST L xs) l d ac_SK 56 [.int i1] V (aa_rI (fun x1 V1 =>
      (x1 = 0 →
        K (some (.int (-2 : Int32))) V1) ∧
      (¬ x1 = 0 →
        (i2 = (-1 : Int32) →
          (i2 = (-1 : Int32) →
            ab_E G (ac_ST L xs) l d ac_SK 62 [.ref 72, .int i1] V1 (aa_rV (fun V2 =>
              K (some (.int (1 : Int32))) V2))) ∧
          (¬ i2 = (-1 : Int32) →
            ((40 : Int32) < i3 →
              K (some (.int (-2 : Int32))) V1) ∧
            (¬ (40 : Int32) < i3 →
              (i3 < 0 →
                K (some (.int (-14 : Int32))) V1) ∧
              (¬ i3 < 0 →
                ab_E G (ac_ST L xs) l d ac_SK 63 [.ref 72, .int i1, .int i2, .int i3] V1 (aa_rV (fun V2 =>
                  K (some (.int (1 : Int32))) V2)))))) ∧
        (¬ i2 = (-1 : Int32) →
          ab_E G (ac_ST L xs) l d ac_SK 57 [.int i2] V1 (aa_rI (fun x2 V2 =>
            (x2 = 0 →
              K (some (.int (-2 : Int32))) V2) ∧
            (¬ x2 = 0 →
              (i2 = (-1 : Int32) →
                ab_E G (ac_ST L xs) l d ac_SK 62 [.ref 72, .int i1] V2 (aa_rV (fun V3 =>
                  K (some (.int (1 : Int32))) V3))) ∧
              (¬ i2 = (-1 : Int32) →
                ((40 : Int32) < i3 →
                  K (some (.int (-2 : Int32))) V2) ∧
                (¬ (40 : Int32) < i3 →
                  (i3 < 0 →
                    K (some (.int (-14 : Int32))) V2) ∧
                  (¬ i3 < 0 →
                    ab_E G (ac_ST L xs) l d ac_SK 63 [.ref 72, .int i1, .int i2, .int i3] V2 (aa_rV (fun V3 =>
                      K (some (.int (1 : Int32))) V3))))))))))))) :
    ab_E G (ac_ST L xs) l (d + 1) ac_SK 177 [.ref 0, .int i1, .int i2, .int i3] V K := ab_wm cd_177_ok [] 70 _ _ _ _ h

set_option maxRecDepth 20000 in
/-- FrameCounty cell(III)I, from 0 -/
theorem vc_178_0 {G : ab_G} {L : Nat} {xs : Nat → Int32} {l : Launch} {d : Nat} {i1 : Int32} {i2 : Int32} {i3 : Int32} {V : aa_V} {K : aa_K} (h :
    ab_E G (ac_ST L xs) l d ac_SK 56 [.int i1] V (aa_rI (fun x1 V1 =>
      (x1 = 0 →
        K (some (.int (-2 : Int32))) V1) ∧
      (¬ x1 = 0 →
        ab_E G (ac_ST L xs) l d ac_SK 58 [.ref 72, .int i1] V1 (aa_rI (fun x2 V2 =>
          (x2 = 0 →
            ab_E G (ac_ST L xs) l d ac_SK 60 [.ref 72, .int i1, .int i2] V2 (aa_rI (fun x3 V3 =>
              (x3 = 0 →
                K (some (.int (-12 : Int32))) V3) ∧
              (¬ x3 = 0 →
                ab_E G (ac_ST L xs) l d ac_SK 64 [.ref 72, .int i1, .int i2, .int i3] V3 (aa_rV (fun V4 =>
                  K (some (.int (1 : Int32))) V4)))))) ∧
          (¬ x2 = 0 →
            K (some (.int (-11 : Int32))) V2))))))) :
    ab_E G (ac_ST L xs) l (d + 1) ac_SK 178 [.ref 0, .int i1, .int i2, .int i3] V K := ab_wm cd_178_ok [] 33 _ _ _ _ h

set_option maxRecDepth 20000 in
/-- FrameCounty copy(IIIII)I, from 0 -/
theorem vc_179_0 {G : ab_G} {L : Nat} {xs : Nat → Int32} {l : Launch} {d : Nat} {i1 : Int32} {i2 : Int32} {i3 : Int32} {i4 : Int32} {i5 : Int32} {V : aa_V} {K : aa_K} (h :
    ab_E G (ac_ST L xs) l d ac_SK 56 [.int i1] V (aa_rI (fun x1 V1 =>
      (x1 = 0 →
        K (some (.int (-2 : Int32))) V1) ∧
      (¬ x1 = 0 →
        ab_E G (ac_ST L xs) l d ac_SK 56 [.int i3] V1 (aa_rI (fun x2 V2 =>
          (x2 = 0 →
            K (some (.int (-2 : Int32))) V2) ∧
          (¬ x2 = 0 →
            ab_E G (ac_ST L xs) l d ac_SK 58 [.ref 72, .int i1] V2 (aa_rI (fun x3 V3 =>
              (x3 = 0 →
                ab_E G (ac_ST L xs) l d ac_SK 58 [.ref 72, .int i3] V3 (aa_rI (fun x4 V4 =>
                  (x4 = 0 →
                    ab_E G (ac_ST L xs) l d ac_SK 59 [.ref 72, .int i1] V4 (aa_rI (fun x5 V5 =>
                      ab_E G (ac_ST L xs) l d ac_SK 59 [.ref 72, .int i3] V5 (aa_rI (fun x6 V6 =>
                        (x5 = x6 →
                          ab_E G (ac_ST L xs) l d ac_SK 61 [.ref 72, .int i1, .int i2, .int i5] V6 (aa_rI (fun x7 V7 =>
                            (x7 = 0 →
                              K (some (.int (-12 : Int32))) V7) ∧
                            (¬ x7 = 0 →
                              ab_E G (ac_ST L xs) l d ac_SK 61 [.ref 72, .int i3, .int i4, .int i5] V7 (aa_rI (fun x8 V8 =>
                                (x8 = 0 →
                                  K (some (.int (-12 : Int32))) V8) ∧
                                (¬ x8 = 0 →
                                  ab_E G (ac_ST L xs) l d ac_SK 66 [.ref 72, .int i1, .int i2, .int i3, .int i4, .int i5] V8 (aa_rV (fun V9 =>
                                    K (some (.int i5)) V9))))))))) ∧
                        (¬ x5 = x6 →
                          K (some (.int (-13 : Int32))) V6)))))) ∧
                  (¬ x4 = 0 →
                    K (some (.int (-11 : Int32))) V4)))) ∧
              (¬ x3 = 0 →
                K (some (.int (-11 : Int32))) V3)))))))))) :
    ab_E G (ac_ST L xs) l (d + 1) ac_SK 179 [.ref 0, .int i1, .int i2, .int i3, .int i4, .int i5] V K := ab_wm cd_179_ok [] 68 _ _ _ _ h

set_option maxRecDepth 20000 in
/-- FrameCounty paysRow(IIII)I, from 0 -/
theorem vc_180_0 {G : ab_G} {L : Nat} {xs : Nat → Int32} {l : Launch} {d : Nat} {i1 : Int32} {i2 : Int32} {i3 : Int32} {i4 : Int32} {V : aa_V} {K : aa_K} (h :
    ab_E G (ac_ST L xs) l d ac_SK 56 [.int i1] V (aa_rI (fun x1 V1 =>
      (x1 = 0 →
        K (some (.int (-2 : Int32))) V1) ∧
      (¬ x1 = 0 →
        ab_E G (ac_ST L xs) l d ac_SK 57 [.int i2] V1 (aa_rI (fun x2 V2 =>
          (x2 = 0 →
            K (some (.int (-2 : Int32))) V2) ∧
          (¬ x2 = 0 →
            ab_E G (ac_ST L xs) l d ac_SK 182 [.int i4, .int (0 : Int32), .int (8 : Int32)] V2 (aa_rI (fun x3 V3 =>
              (x3 = 0 →
                K (some (.int (-2 : Int32))) V3) ∧
              (¬ x3 = 0 →
                ab_E G (ac_ST L xs) l d ac_SK 58 [.ref 72, .int i1] V3 (aa_rI (fun x4 V4 =>
                  (x4 = 0 →
                    ab_E G (ac_ST L xs) l d ac_SK 59 [.ref 72, .int i1] V4 (aa_rI (fun x5 V5 =>
                      (x5 = i2 →
                        ab_J G (ac_ST L xs) l (d + 1) 180 63 [some (.ref 0), some (.int i1), none, some (.int i3), some (.int i4), some (.int (0 : Int32)), some (.int (0 : Int32)), none, none] [] ac_SK V5 ac_SK K) ∧
                      (¬ x5 = i2 →
                        K (some (.int (-13 : Int32))) V5)))) ∧
                  (¬ x4 = 0 →
                    K (some (.int (-11 : Int32))) V4))))))))))))) :
    ab_E G (ac_ST L xs) l (d + 1) ac_SK 180 [.ref 0, .int i1, .int i2, .int i3, .int i4] V K := ab_wm cd_180_ok [(63, [true, true, false, true, true, true, true, false, false])] 42 _ _ _ _ h

set_option maxRecDepth 20000 in
/-- FrameCounty paysRow(IIII)I, from 63 -/
theorem vc_180_63 {G : ab_G} {L : Nat} {xs : Nat → Int32} {l : Launch} {d : Nat} {i1 : Int32} {i3 : Int32} {i4 : Int32} {i5 : Int32} {i6 : Int32} {V : aa_V} {K : aa_K} (h :
    (i6 < i4 →
      ab_E G (ac_ST L xs) l d ac_SK 60 [.ref 72, .int i1, .int (i3 + i6)] V (aa_rI (fun x1 V1 =>
        (x1 = 0 →
          K (some (.int (-12 : Int32))) V1) ∧
        (¬ x1 = 0 →
          ab_E G (ac_ST L xs) l d ac_SK 65 [.ref 72, .int i1, .int (i3 + i6)] V1 (aa_rI (fun x2 V2 =>
            ab_E G (ac_ST L xs) l d ac_SK 107 [.ref 29, .int i6] V2 (aa_rI (fun x3 V3 =>
              (x3 = 0 →
                ab_J G (ac_ST L xs) l (d + 1) 180 63 [some (.ref 0), some (.int i1), none, some (.int i3), some (.int i4), some (.int i5), some (.int (i6 + 1)), none, none] [] ac_SK V3 ac_SK K) ∧
              (¬ x3 = 0 →
                ab_E G (ac_ST L xs) l d ac_SK 104 [.int x2] V3 (aa_rI (fun x4 V4 =>
                  (x4 = 0 →
                    ab_J G (ac_ST L xs) l (d + 1) 180 63 [some (.ref 0), some (.int i1), none, some (.int i3), some (.int i4), some (.int i5), some (.int (i6 + 1)), none, none] [] ac_SK V4 ac_SK K) ∧
                  (¬ x4 = 0 →
                    ab_E G (ac_ST L xs) l d ac_SK 118 [.ref 29, .int i6, .int x2] V4 (aa_rI (fun x5 V5 =>
                      ab_J G (ac_ST L xs) l (d + 1) 180 63 [some (.ref 0), some (.int i1), none, some (.int i3), some (.int i4), some (.int (i5 + 1)), some (.int (i6 + 1)), none, none] [] ac_SK V5 ac_SK K)))))))))))))) ∧
    (¬ i6 < i4 →
      K (some (.int i5)) V)) :
    ab_J G (ac_ST L xs) l (d + 1) 180 63 [some (.ref 0), some (.int i1), none, some (.int i3), some (.int i4), some (.int i5), some (.int i6), none, none] [] ac_SK V ac_SK K := ab_wm cd_180_ok [(63, [true, true, false, true, true, true, true, false, false])] 52 _ _ _ _ h

set_option maxRecDepth 20000 in
/-- FrameCounty taken(II)I, from 0 -/
theorem vc_181_0 {G : ab_G} {L : Nat} {xs : Nat → Int32} {l : Launch} {d : Nat} {i1 : Int32} {i2 : Int32} {V : aa_V} {K : aa_K} (h :
    ab_E G (ac_ST L xs) l d ac_SK 105 [.int i2] V (aa_rI (fun x1 V1 =>
      (x1 = 0 →
        K (some (.int (-2 : Int32))) V1) ∧
      (¬ x1 = 0 →
        ab_E G (ac_ST L xs) l d ac_SK 108 [.ref 29, .int i1] V1 (aa_rI (fun x2 V2 =>
          (x2 = 0 →
            K (some (.int (-11 : Int32))) V2) ∧
          (¬ x2 = 0 →
            ab_E G (ac_ST L xs) l d ac_SK 124 [.ref 29, .int i1, .int i2] V2 (aa_rI (fun x3 V3 =>
              (x3 = 0 →
                K (some (.int (-13 : Int32))) V3) ∧
              (¬ x3 = 0 →
                ab_E G (ac_ST L xs) l d ac_SK 115 [.ref 29, .int i1] V3 (aa_rI (fun x4 V4 =>
                  K (some (.int x4)) V4)))))))))))) :
    ab_E G (ac_ST L xs) l (d + 1) ac_SK 181 [.ref 0, .int i1, .int i2] V K := ab_wm cd_181_ok [] 31 _ _ _ _ h

set_option maxRecDepth 20000 in
/-- FrameCounty isWithin(III)Z, from 0 -/
theorem vc_182_0 {G : ab_G} {L : Nat} {xs : Nat → Int32} {l : Launch} {d : Nat} {i0 : Int32} {i1 : Int32} {i2 : Int32} {V : aa_V} {K : aa_K} (h :
    (i0 < i1 →
      aa_bit (0 : Int32) ∧ K (some (.int (0 : Int32))) V) ∧
    (¬ i0 < i1 →
      (i2 < i0 →
        aa_bit (0 : Int32) ∧ K (some (.int (0 : Int32))) V) ∧
      (¬ i2 < i0 →
        aa_bit (1 : Int32) ∧ K (some (.int (1 : Int32))) V))) :
    ab_E G (ac_ST L xs) l (d + 1) ac_SK 182 [.int i0, .int i1, .int i2] V K := ab_wm cd_182_ok [] 18 _ _ _ _ h

set_option maxRecDepth 20000 in
/-- FrameCounty isNight(I)Z, from 0 -/
theorem vc_183_0 {G : ab_G} {L : Nat} {xs : Nat → Int32} {l : Launch} {d : Nat} {i0 : Int32} {V : aa_V} {K : aa_K} (h :
    ab_E G (ac_ST L xs) l d ac_SK 182 [.int i0, .int (0 : Int32), .int (399 : Int32)] V (aa_rI (fun x1 V1 =>
      aa_bit x1 ∧ K (some (.int x1)) V1))) :
    ab_E G (ac_ST L xs) l (d + 1) ac_SK 183 [.int i0] V K := ab_wm cd_183_ok [] 10 _ _ _ _ h

set_option maxRecDepth 20000 in
/-- FrameCounty isHour(I)Z, from 0 -/
theorem vc_184_0 {G : ab_G} {L : Nat} {xs : Nat → Int32} {l : Launch} {d : Nat} {i0 : Int32} {V : aa_V} {K : aa_K} (h :
    ab_E G (ac_ST L xs) l d ac_SK 182 [.int i0, .int (0 : Int32), .int (11 : Int32)] V (aa_rI (fun x1 V1 =>
      aa_bit x1 ∧ K (some (.int x1)) V1))) :
    ab_E G (ac_ST L xs) l (d + 1) ac_SK 184 [.int i0] V K := ab_wm cd_184_ok [] 10 _ _ _ _ h

set_option maxRecDepth 20000 in
/-- FrameCounty isInformer(I)Z, from 0 -/
theorem vc_185_0 {G : ab_G} {L : Nat} {xs : Nat → Int32} {l : Launch} {d : Nat} {i0 : Int32} {V : aa_V} {K : aa_K} (h :
    ab_E G (ac_ST L xs) l d ac_SK 182 [.int i0, .int (0 : Int32), .int (5 : Int32)] V (aa_rI (fun x1 V1 =>
      aa_bit x1 ∧ K (some (.int x1)) V1))) :
    ab_E G (ac_ST L xs) l (d + 1) ac_SK 185 [.int i0] V K := ab_wm cd_185_ok [] 10 _ _ _ _ h

set_option maxRecDepth 20000 in
/-- FrameCounty isPast(I)Z, from 0 -/
theorem vc_186_0 {G : ab_G} {L : Nat} {xs : Nat → Int32} {l : Launch} {d : Nat} {i1 : Int32} {V : aa_V} {K : aa_K} (h :
    ab_E G (ac_ST L xs) l d ac_SK 182 [.int i1, .int (0 : Int32), .int (V 0 13)] V (aa_rI (fun x1 V1 =>
      aa_bit x1 ∧ K (some (.int x1)) V1))) :
    ab_E G (ac_ST L xs) l (d + 1) ac_SK 186 [.ref 0, .int i1] V K := ab_wm cd_186_ok [] 11 _ _ _ _ h

set_option maxRecDepth 20000 in
/-- FrameCounty priceOf(I)I, from 0 -/
theorem vc_187_0 {G : ab_G} {L : Nat} {xs : Nat → Int32} {l : Launch} {d : Nat} {i1 : Int32} {V : aa_V} {K : aa_K} (h :
    ab_E G (ac_ST L xs) l d ac_SK 299 [.ref 86, .int (0 : Int32)] V (aa_rV (fun V1 =>
      ab_E G (ac_ST L xs) l d ac_SK 113 [.ref 29, .int i1] V1 (aa_rI (fun x2 V2 =>
        vp_in (0 : Int32) 6 ∧
        ab_E G (ac_ST L xs) l d ac_SK 115 [.ref 29, .int i1] (aa_up V2 86 (((0 : Int32)).toNatClampNeg) x2) (aa_rI (fun x3 V3 =>
          vp_in (1 : Int32) 6 ∧
          ¬ (7 : Int32) = 0 ∧
          vp_in (2 : Int32) 6 ∧
          ab_E G (ac_ST L xs) l d ac_SK 125 [.ref 29, .int i1] (aa_up (aa_up V3 86 (((1 : Int32)).toNatClampNeg) x3) 86 (((2 : Int32)).toNatClampNeg) ((V3 0 13) / (7 : Int32))) (aa_rI (fun x4 V4 =>
            vp_in (3 : Int32) 6 ∧
            ∃ (n5 : Nat) (rs5 : List Nat) (q5 : Nat), aa_sh ac_SK 85 = some (102, n5, rs5) ∧ vp_in (V4 0 12) n5 ∧ aa_nth rs5 ((V4 0 12)).toNatClampNeg = q5 + 1 ∧
            aa_is ac_SK q5 6 ∧
            ab_E G (ac_ST L xs) l d ac_SK 72 [.ref q5, .ref 86] (aa_up V4 86 (((3 : Int32)).toNatClampNeg) x4) (aa_rI (fun x6 V6 =>
              K (some (.int x6)) V6))))))))))) :
    ab_E G (ac_ST L xs) l (d + 1) ac_SK 187 [.ref 0, .int i1] V K := ab_wm cd_187_ok [] 50 _ _ _ _ h

set_option maxRecDepth 20000 in
/-- FrameCounty holdOf(IIII)I, from 0 -/
theorem vc_188_0 {G : ab_G} {L : Nat} {xs : Nat → Int32} {l : Launch} {d : Nat} {i1 : Int32} {i2 : Int32} {i3 : Int32} {i4 : Int32} {V : aa_V} {K : aa_K} (h :
    ab_E G (ac_ST L xs) l d ac_SK 92 [.ref 42, .int i1, .int i2] V (aa_rI (fun x1 V1 =>
      (i4 = (-1 : Int32) →
        ab_E G (ac_ST L xs) l d ac_SK 299 [.ref 86, .int (0 : Int32)] V1 (aa_rV (fun V2 =>
          ¬ (7 : Int32) = 0 ∧
          vp_in (2 : Int32) 6 ∧
          ab_E G (ac_ST L xs) l d ac_SK 285 [.int (x1 &&& (i3 ^^^ (-1 : Int32)))] (aa_up V2 86 (((2 : Int32)).toNatClampNeg) ((V2 0 13) / (7 : Int32))) (aa_rI (fun x3 V3 =>
            vp_in (4 : Int32) 6 ∧
            ab_E G (ac_ST L xs) l d ac_SK 93 [.ref 42, .int (x1 &&& (i3 ^^^ (-1 : Int32)))] (aa_up V3 86 (((4 : Int32)).toNatClampNeg) x3) (aa_rI (fun x4 V4 =>
              vp_in (5 : Int32) 6 ∧
              ∃ (n5 : Nat) (rs5 : List Nat) (q5 : Nat), aa_sh ac_SK 85 = some (102, n5, rs5) ∧ vp_in (V4 0 12) n5 ∧ aa_nth rs5 ((V4 0 12)).toNatClampNeg = q5 + 1 ∧
              aa_is ac_SK q5 6 ∧
              ab_E G (ac_ST L xs) l d ac_SK 73 [.ref q5, .ref 86] (aa_up V4 86 (((5 : Int32)).toNatClampNeg) x4) (aa_rI (fun x6 V6 =>
                K (some (.int x6)) V6))))))))) ∧
      (¬ i4 = (-1 : Int32) →
        ab_E G (ac_ST L xs) l d ac_SK 91 [.ref 42, .int i4, .int i2] V1 (aa_rI (fun x2 V2 =>
          ab_E G (ac_ST L xs) l d ac_SK 299 [.ref 86, .int (0 : Int32)] V2 (aa_rV (fun V3 =>
            ¬ (7 : Int32) = 0 ∧
            vp_in (2 : Int32) 6 ∧
            ab_E G (ac_ST L xs) l d ac_SK 285 [.int ((x1 &&& (i3 ^^^ (-1 : Int32))) &&& (x2 ^^^ (-1 : Int32)))] (aa_up V3 86 (((2 : Int32)).toNatClampNeg) ((V3 0 13) / (7 : Int32))) (aa_rI (fun x4 V4 =>
              vp_in (4 : Int32) 6 ∧
              ab_E G (ac_ST L xs) l d ac_SK 93 [.ref 42, .int ((x1 &&& (i3 ^^^ (-1 : Int32))) &&& (x2 ^^^ (-1 : Int32)))] (aa_up V4 86 (((4 : Int32)).toNatClampNeg) x4) (aa_rI (fun x5 V5 =>
                vp_in (5 : Int32) 6 ∧
                ∃ (n6 : Nat) (rs6 : List Nat) (q6 : Nat), aa_sh ac_SK 85 = some (102, n6, rs6) ∧ vp_in (V5 0 12) n6 ∧ aa_nth rs6 ((V5 0 12)).toNatClampNeg = q6 + 1 ∧
                aa_is ac_SK q6 6 ∧
                ab_E G (ac_ST L xs) l d ac_SK 73 [.ref q6, .ref 86] (aa_up V5 86 (((5 : Int32)).toNatClampNeg) x5) (aa_rI (fun x7 V7 =>
                  K (some (.int x7)) V7)))))))))))))) :
    ab_E G (ac_ST L xs) l (d + 1) ac_SK 188 [.ref 0, .int i1, .int i2, .int i3, .int i4] V K := ab_wm cd_188_ok [] 98 _ _ _ _ h

set_option maxRecDepth 20000 in
/-- FrameCounty heldWithout(II)I, from 0 -/
theorem vc_189_0 {G : ab_G} {L : Nat} {xs : Nat → Int32} {l : Launch} {d : Nat} {i1 : Int32} {i2 : Int32} {V : aa_V} {K : aa_K} (h :
    ab_E G (ac_ST L xs) l d ac_SK 90 [.ref 42, .int i2] V (aa_rI (fun x1 V1 =>
      ab_J G (ac_ST L xs) l (d + 1) 189 15 [some (.ref 0), some (.int i1), some (.int i2), some (.int (0 : Int32)), some (.int x1), some (.int (0 : Int32))] [] ac_SK V1 ac_SK K))) :
    ab_E G (ac_ST L xs) l (d + 1) ac_SK 189 [.ref 0, .int i1, .int i2] V K := ab_wm cd_189_ok [(15, [true, true, true, true, true, true])] 15 _ _ _ _ h

set_option maxRecDepth 20000 in
/-- FrameCounty heldWithout(II)I, from 15 -/
theorem vc_189_15 {G : ab_G} {L : Nat} {xs : Nat → Int32} {l : Launch} {d : Nat} {i1 : Int32} {i2 : Int32} {i3 : Int32} {i4 : Int32} {i5 : Int32} {V : aa_V} {K : aa_K} (h :
    ab_E G (ac_ST L xs) l d ac_SK 81 [.ref 42] V (aa_rI (fun x1 V1 =>
      (i5 < x1 →
        ab_E G (ac_ST L xs) l d ac_SK 188 [.ref 0, .int i5, .int i2, .int i4, .int i1] V1 (aa_rI (fun x2 V2 =>
          (x2 = 0 →
            ab_J G (ac_ST L xs) l (d + 1) 189 15 [some (.ref 0), some (.int i1), some (.int i2), some (.int i3), some (.int i4), some (.int (i5 + 1))] [] ac_SK V2 ac_SK K) ∧
          (¬ x2 = 0 →
            ab_J G (ac_ST L xs) l (d + 1) 189 15 [some (.ref 0), some (.int i1), some (.int i2), some (.int (i3 ||| ((1 : Int32) <<< (i5 &&& 31)))), some (.int i4), some (.int (i5 + 1))] [] ac_SK V2 ac_SK K)))) ∧
      (¬ i5 < x1 →
        K (some (.int i3)) V1)))) :
    ab_J G (ac_ST L xs) l (d + 1) 189 15 [some (.ref 0), some (.int i1), some (.int i2), some (.int i3), some (.int i4), some (.int i5)] [] ac_SK V ac_SK K := ab_wm cd_189_ok [(15, [true, true, true, true, true, true])] 31 _ _ _ _ h

set_option maxRecDepth 20000 in
/-- FrameCounty shopsReached(III)I, from 0 -/
theorem vc_190_0 {G : ab_G} {L : Nat} {xs : Nat → Int32} {l : Launch} {d : Nat} {i1 : Int32} {i2 : Int32} {i3 : Int32} {V : aa_V} {K : aa_K} (h :
    ab_J G (ac_ST L xs) l (d + 1) 190 6 [some (.ref 0), some (.int i1), some (.int i2), some (.int i3), some (.int (0 : Int32)), some (.int (0 : Int32))] [] ac_SK V ac_SK K) :
    ab_E G (ac_ST L xs) l (d + 1) ac_SK 190 [.ref 0, .int i1, .int i2, .int i3] V K := ab_wm cd_190_ok [(6, [true, true, true, true, true, true])] 10 _ _ _ _ h

set_option maxRecDepth 20000 in
/-- FrameCounty shopsReached(III)I, from 6 -/
theorem vc_190_6 {G : ab_G} {L : Nat} {xs : Nat → Int32} {l : Launch} {d : Nat} {i1 : Int32} {i2 : Int32} {i3 : Int32} {i4 : Int32} {i5 : Int32} {V : aa_V} {K : aa_K} (h :
    ab_E G (ac_ST L xs) l d ac_SK 109 [.ref 29] V (aa_rI (fun x1 V1 =>
      (i5 < x1 →
        ab_E G (ac_ST L xs) l d ac_SK 111 [.ref 29, .int i5] V1 (aa_rI (fun x2 V2 =>
          ab_E G (ac_ST L xs) l d ac_SK 53 [.ref 1, .int i1, .int x2, .int i2, .int i3] V2 (aa_rI (fun x3 V3 =>
            (x3 = 0 →
              ab_J G (ac_ST L xs) l (d + 1) 190 6 [some (.ref 0), some (.int i1), some (.int i2), some (.int i3), some (.int i4), some (.int (i5 + 1))] [] ac_SK V3 ac_SK K) ∧
            (¬ x3 = 0 →
              ab_J G (ac_ST L xs) l (d + 1) 190 6 [some (.ref 0), some (.int i1), some (.int i2), some (.int i3), some (.int (i4 + 1)), some (.int (i5 + 1))] [] ac_SK V3 ac_SK K)))))) ∧
      (¬ i5 < x1 →
        K (some (.int i4)) V1)))) :
    ab_J G (ac_ST L xs) l (d + 1) 190 6 [some (.ref 0), some (.int i1), some (.int i2), some (.int i3), some (.int i4), some (.int i5)] [] ac_SK V ac_SK K := ab_wm cd_190_ok [(6, [true, true, true, true, true, true])] 30 _ _ _ _ h
