/-! the law: what is wanted ahead of each stretch (printed by law.py) -/
set_option maxRecDepth 100000 in
/-- FrameCountyLaw law([I)Z, from 18 -/
theorem vc_301_18 {G : ab_G} {L : Nat} {xs : Nat → Int32} {l : Launch} {d : Nat} {i3 : Int32} {V : aa_V} {K : aa_K} (h :
    ((1000002 - 1000000 < 3) ∨ 100 ≤ (1000002 - 1000000) ∧ (1000002 - 1000000) < 112) ∧
    (((nI (ac_ST L xs 2).2.1) - (6 : Int32)) < i3 →
      aa_bit (1 : Int32) ∧ K (some (.int (1 : Int32))) V) ∧
    (¬ ((nI (ac_ST L xs 2).2.1) - (6 : Int32)) < i3 →
      vp_in i3 (ac_ST L xs 2).2.1 ∧
      ((((ac_ST L xs 2).2.2 (i3).toNatClampNeg) &&& (63 : Int32)) = 0 →
        ab_J G (ac_ST L xs) l (d + 1) 301 224 [some (.ref 1000002), some (.ref 0), some (.ref 105), some (.int i3)] [] ac_SK V ac_SK K) ∧
      (¬ (((ac_ST L xs 2).2.2 (i3).toNatClampNeg) &&& (63 : Int32)) = 0 →
      ((((ac_ST L xs 2).2.2 (i3).toNatClampNeg) &&& (63 : Int32)) = 1 →
        ab_J G (ac_ST L xs) l (d + 1) 301 247 [some (.ref 1000002), some (.ref 0), some (.ref 105), some (.int i3)] [] ac_SK V ac_SK K) ∧
      (¬ (((ac_ST L xs 2).2.2 (i3).toNatClampNeg) &&& (63 : Int32)) = 1 →
      ((((ac_ST L xs 2).2.2 (i3).toNatClampNeg) &&& (63 : Int32)) = 2 →
        ab_J G (ac_ST L xs) l (d + 1) 301 290 [some (.ref 1000002), some (.ref 0), some (.ref 105), some (.int i3)] [] ac_SK V ac_SK K) ∧
      (¬ (((ac_ST L xs 2).2.2 (i3).toNatClampNeg) &&& (63 : Int32)) = 2 →
      ((((ac_ST L xs 2).2.2 (i3).toNatClampNeg) &&& (63 : Int32)) = 3 →
        ab_J G (ac_ST L xs) l (d + 1) 301 333 [some (.ref 1000002), some (.ref 0), some (.ref 105), some (.int i3)] [] ac_SK V ac_SK K) ∧
      (¬ (((ac_ST L xs 2).2.2 (i3).toNatClampNeg) &&& (63 : Int32)) = 3 →
      ((((ac_ST L xs 2).2.2 (i3).toNatClampNeg) &&& (63 : Int32)) = 4 →
        ab_J G (ac_ST L xs) l (d + 1) 301 366 [some (.ref 1000002), some (.ref 0), some (.ref 105), some (.int i3)] [] ac_SK V ac_SK K) ∧
      (¬ (((ac_ST L xs 2).2.2 (i3).toNatClampNeg) &&& (63 : Int32)) = 4 →
      ((((ac_ST L xs 2).2.2 (i3).toNatClampNeg) &&& (63 : Int32)) = 5 →
        ab_J G (ac_ST L xs) l (d + 1) 301 399 [some (.ref 1000002), some (.ref 0), some (.ref 105), some (.int i3)] [] ac_SK V ac_SK K) ∧
      (¬ (((ac_ST L xs 2).2.2 (i3).toNatClampNeg) &&& (63 : Int32)) = 5 →
      ((((ac_ST L xs 2).2.2 (i3).toNatClampNeg) &&& (63 : Int32)) = 6 →
        ab_J G (ac_ST L xs) l (d + 1) 301 452 [some (.ref 1000002), some (.ref 0), some (.ref 105), some (.int i3)] [] ac_SK V ac_SK K) ∧
      (¬ (((ac_ST L xs 2).2.2 (i3).toNatClampNeg) &&& (63 : Int32)) = 6 →
      ((((ac_ST L xs 2).2.2 (i3).toNatClampNeg) &&& (63 : Int32)) = 7 →
        ab_J G (ac_ST L xs) l (d + 1) 301 486 [some (.ref 1000002), some (.ref 0), some (.ref 105), some (.int i3)] [] ac_SK V ac_SK K) ∧
      (¬ (((ac_ST L xs 2).2.2 (i3).toNatClampNeg) &&& (63 : Int32)) = 7 →
      ((((ac_ST L xs 2).2.2 (i3).toNatClampNeg) &&& (63 : Int32)) = 8 →
        ab_J G (ac_ST L xs) l (d + 1) 301 519 [some (.ref 1000002), some (.ref 0), some (.ref 105), some (.int i3)] [] ac_SK V ac_SK K) ∧
      (¬ (((ac_ST L xs 2).2.2 (i3).toNatClampNeg) &&& (63 : Int32)) = 8 →
      ((((ac_ST L xs 2).2.2 (i3).toNatClampNeg) &&& (63 : Int32)) = 9 →
        ab_J G (ac_ST L xs) l (d + 1) 301 542 [some (.ref 1000002), some (.ref 0), some (.ref 105), some (.int i3)] [] ac_SK V ac_SK K) ∧
      (¬ (((ac_ST L xs 2).2.2 (i3).toNatClampNeg) &&& (63 : Int32)) = 9 →
      ((((ac_ST L xs 2).2.2 (i3).toNatClampNeg) &&& (63 : Int32)) = 10 →
        ab_J G (ac_ST L xs) l (d + 1) 301 566 [some (.ref 1000002), some (.ref 0), some (.ref 105), some (.int i3)] [] ac_SK V ac_SK K) ∧
      (¬ (((ac_ST L xs 2).2.2 (i3).toNatClampNeg) &&& (63 : Int32)) = 10 →
      ((((ac_ST L xs 2).2.2 (i3).toNatClampNeg) &&& (63 : Int32)) = 11 →
        ab_J G (ac_ST L xs) l (d + 1) 301 629 [some (.ref 1000002), some (.ref 0), some (.ref 105), some (.int i3)] [] ac_SK V ac_SK K) ∧
      (¬ (((ac_ST L xs 2).2.2 (i3).toNatClampNeg) &&& (63 : Int32)) = 11 →
      ((((ac_ST L xs 2).2.2 (i3).toNatClampNeg) &&& (63 : Int32)) = 12 →
        ab_J G (ac_ST L xs) l (d + 1) 301 642 [some (.ref 1000002), some (.ref 0), some (.ref 105), some (.int i3)] [] ac_SK V ac_SK K) ∧
      (¬ (((ac_ST L xs 2).2.2 (i3).toNatClampNeg) &&& (63 : Int32)) = 12 →
      ((((ac_ST L xs 2).2.2 (i3).toNatClampNeg) &&& (63 : Int32)) = 13 →
        ab_J G (ac_ST L xs) l (d + 1) 301 665 [some (.ref 1000002), some (.ref 0), some (.ref 105), some (.int i3)] [] ac_SK V ac_SK K) ∧
      (¬ (((ac_ST L xs 2).2.2 (i3).toNatClampNeg) &&& (63 : Int32)) = 13 →
      ((((ac_ST L xs 2).2.2 (i3).toNatClampNeg) &&& (63 : Int32)) = 14 →
        ab_J G (ac_ST L xs) l (d + 1) 301 699 [some (.ref 1000002), some (.ref 0), some (.ref 105), some (.int i3)] [] ac_SK V ac_SK K) ∧
      (¬ (((ac_ST L xs 2).2.2 (i3).toNatClampNeg) &&& (63 : Int32)) = 14 →
      ((((ac_ST L xs 2).2.2 (i3).toNatClampNeg) &&& (63 : Int32)) = 15 →
        ab_J G (ac_ST L xs) l (d + 1) 301 732 [some (.ref 1000002), some (.ref 0), some (.ref 105), some (.int i3)] [] ac_SK V ac_SK K) ∧
      (¬ (((ac_ST L xs 2).2.2 (i3).toNatClampNeg) &&& (63 : Int32)) = 15 →
      ((((ac_ST L xs 2).2.2 (i3).toNatClampNeg) &&& (63 : Int32)) = 16 →
        ab_J G (ac_ST L xs) l (d + 1) 301 755 [some (.ref 1000002), some (.ref 0), some (.ref 105), some (.int i3)] [] ac_SK V ac_SK K) ∧
      (¬ (((ac_ST L xs 2).2.2 (i3).toNatClampNeg) &&& (63 : Int32)) = 16 →
      ((((ac_ST L xs 2).2.2 (i3).toNatClampNeg) &&& (63 : Int32)) = 17 →
        ab_J G (ac_ST L xs) l (d + 1) 301 768 [some (.ref 1000002), some (.ref 0), some (.ref 105), some (.int i3)] [] ac_SK V ac_SK K) ∧
      (¬ (((ac_ST L xs 2).2.2 (i3).toNatClampNeg) &&& (63 : Int32)) = 17 →
      ((((ac_ST L xs 2).2.2 (i3).toNatClampNeg) &&& (63 : Int32)) = 18 →
        ab_J G (ac_ST L xs) l (d + 1) 301 791 [some (.ref 1000002), some (.ref 0), some (.ref 105), some (.int i3)] [] ac_SK V ac_SK K) ∧
      (¬ (((ac_ST L xs 2).2.2 (i3).toNatClampNeg) &&& (63 : Int32)) = 18 →
      ((((ac_ST L xs 2).2.2 (i3).toNatClampNeg) &&& (63 : Int32)) = 19 →
        ab_J G (ac_ST L xs) l (d + 1) 301 814 [some (.ref 1000002), some (.ref 0), some (.ref 105), some (.int i3)] [] ac_SK V ac_SK K) ∧
      (¬ (((ac_ST L xs 2).2.2 (i3).toNatClampNeg) &&& (63 : Int32)) = 19 →
      ((((ac_ST L xs 2).2.2 (i3).toNatClampNeg) &&& (63 : Int32)) = 20 →
        ab_J G (ac_ST L xs) l (d + 1) 301 837 [some (.ref 1000002), some (.ref 0), some (.ref 105), some (.int i3)] [] ac_SK V ac_SK K) ∧
      (¬ (((ac_ST L xs 2).2.2 (i3).toNatClampNeg) &&& (63 : Int32)) = 20 →
      ((((ac_ST L xs 2).2.2 (i3).toNatClampNeg) &&& (63 : Int32)) = 21 →
        ab_J G (ac_ST L xs) l (d + 1) 301 890 [some (.ref 1000002), some (.ref 0), some (.ref 105), some (.int i3)] [] ac_SK V ac_SK K) ∧
      (¬ (((ac_ST L xs 2).2.2 (i3).toNatClampNeg) &&& (63 : Int32)) = 21 →
      ((((ac_ST L xs 2).2.2 (i3).toNatClampNeg) &&& (63 : Int32)) = 22 →
        ab_J G (ac_ST L xs) l (d + 1) 301 943 [some (.ref 1000002), some (.ref 0), some (.ref 105), some (.int i3)] [] ac_SK V ac_SK K) ∧
      (¬ (((ac_ST L xs 2).2.2 (i3).toNatClampNeg) &&& (63 : Int32)) = 22 →
      ((((ac_ST L xs 2).2.2 (i3).toNatClampNeg) &&& (63 : Int32)) = 23 →
        ab_J G (ac_ST L xs) l (d + 1) 301 976 [some (.ref 1000002), some (.ref 0), some (.ref 105), some (.int i3)] [] ac_SK V ac_SK K) ∧
      (¬ (((ac_ST L xs 2).2.2 (i3).toNatClampNeg) &&& (63 : Int32)) = 23 →
      ((((ac_ST L xs 2).2.2 (i3).toNatClampNeg) &&& (63 : Int32)) = 24 →
        ab_J G (ac_ST L xs) l (d + 1) 301 1029 [some (.ref 1000002), some (.ref 0), some (.ref 105), some (.int i3)] [] ac_SK V ac_SK K) ∧
      (¬ (((ac_ST L xs 2).2.2 (i3).toNatClampNeg) &&& (63 : Int32)) = 24 →
      ((((ac_ST L xs 2).2.2 (i3).toNatClampNeg) &&& (63 : Int32)) = 25 →
        ab_J G (ac_ST L xs) l (d + 1) 301 1052 [some (.ref 1000002), some (.ref 0), some (.ref 105), some (.int i3)] [] ac_SK V ac_SK K) ∧
      (¬ (((ac_ST L xs 2).2.2 (i3).toNatClampNeg) &&& (63 : Int32)) = 25 →
      ((((ac_ST L xs 2).2.2 (i3).toNatClampNeg) &&& (63 : Int32)) = 26 →
        ab_J G (ac_ST L xs) l (d + 1) 301 1096 [some (.ref 1000002), some (.ref 0), some (.ref 105), some (.int i3)] [] ac_SK V ac_SK K) ∧
      (¬ (((ac_ST L xs 2).2.2 (i3).toNatClampNeg) &&& (63 : Int32)) = 26 →
      ((((ac_ST L xs 2).2.2 (i3).toNatClampNeg) &&& (63 : Int32)) = 27 →
        ab_J G (ac_ST L xs) l (d + 1) 301 1119 [some (.ref 1000002), some (.ref 0), some (.ref 105), some (.int i3)] [] ac_SK V ac_SK K) ∧
      (¬ (((ac_ST L xs 2).2.2 (i3).toNatClampNeg) &&& (63 : Int32)) = 27 →
      ((((ac_ST L xs 2).2.2 (i3).toNatClampNeg) &&& (63 : Int32)) = 28 →
        ab_J G (ac_ST L xs) l (d + 1) 301 1152 [some (.ref 1000002), some (.ref 0), some (.ref 105), some (.int i3)] [] ac_SK V ac_SK K) ∧
      (¬ (((ac_ST L xs 2).2.2 (i3).toNatClampNeg) &&& (63 : Int32)) = 28 →
      ((((ac_ST L xs 2).2.2 (i3).toNatClampNeg) &&& (63 : Int32)) = 29 →
        ab_J G (ac_ST L xs) l (d + 1) 301 1195 [some (.ref 1000002), some (.ref 0), some (.ref 105), some (.int i3)] [] ac_SK V ac_SK K) ∧
      (¬ (((ac_ST L xs 2).2.2 (i3).toNatClampNeg) &&& (63 : Int32)) = 29 →
      ((((ac_ST L xs 2).2.2 (i3).toNatClampNeg) &&& (63 : Int32)) = 30 →
        ab_J G (ac_ST L xs) l (d + 1) 301 1228 [some (.ref 1000002), some (.ref 0), some (.ref 105), some (.int i3)] [] ac_SK V ac_SK K) ∧
      (¬ (((ac_ST L xs 2).2.2 (i3).toNatClampNeg) &&& (63 : Int32)) = 30 →
      ((((ac_ST L xs 2).2.2 (i3).toNatClampNeg) &&& (63 : Int32)) = 31 →
        ab_J G (ac_ST L xs) l (d + 1) 301 1261 [some (.ref 1000002), some (.ref 0), some (.ref 105), some (.int i3)] [] ac_SK V ac_SK K) ∧
      (¬ (((ac_ST L xs 2).2.2 (i3).toNatClampNeg) &&& (63 : Int32)) = 31 →
      ((((ac_ST L xs 2).2.2 (i3).toNatClampNeg) &&& (63 : Int32)) = 32 →
        ab_J G (ac_ST L xs) l (d + 1) 301 1274 [some (.ref 1000002), some (.ref 0), some (.ref 105), some (.int i3)] [] ac_SK V ac_SK K) ∧
      (¬ (((ac_ST L xs 2).2.2 (i3).toNatClampNeg) &&& (63 : Int32)) = 32 →
      ((((ac_ST L xs 2).2.2 (i3).toNatClampNeg) &&& (63 : Int32)) = 33 →
        ab_J G (ac_ST L xs) l (d + 1) 301 1327 [some (.ref 1000002), some (.ref 0), some (.ref 105), some (.int i3)] [] ac_SK V ac_SK K) ∧
      (¬ (((ac_ST L xs 2).2.2 (i3).toNatClampNeg) &&& (63 : Int32)) = 33 →
      ((((ac_ST L xs 2).2.2 (i3).toNatClampNeg) &&& (63 : Int32)) = 34 →
        ab_J G (ac_ST L xs) l (d + 1) 301 1360 [some (.ref 1000002), some (.ref 0), some (.ref 105), some (.int i3)] [] ac_SK V ac_SK K) ∧
      (¬ (((ac_ST L xs 2).2.2 (i3).toNatClampNeg) &&& (63 : Int32)) = 34 →
      ((((ac_ST L xs 2).2.2 (i3).toNatClampNeg) &&& (63 : Int32)) = 35 →
        ab_J G (ac_ST L xs) l (d + 1) 301 1393 [some (.ref 1000002), some (.ref 0), some (.ref 105), some (.int i3)] [] ac_SK V ac_SK K) ∧
      (¬ (((ac_ST L xs 2).2.2 (i3).toNatClampNeg) &&& (63 : Int32)) = 35 →
      ((((ac_ST L xs 2).2.2 (i3).toNatClampNeg) &&& (63 : Int32)) = 36 →
        ab_J G (ac_ST L xs) l (d + 1) 301 1426 [some (.ref 1000002), some (.ref 0), some (.ref 105), some (.int i3)] [] ac_SK V ac_SK K) ∧
      (¬ (((ac_ST L xs 2).2.2 (i3).toNatClampNeg) &&& (63 : Int32)) = 36 →
      ((((ac_ST L xs 2).2.2 (i3).toNatClampNeg) &&& (63 : Int32)) = 37 →
        ab_J G (ac_ST L xs) l (d + 1) 301 1479 [some (.ref 1000002), some (.ref 0), some (.ref 105), some (.int i3)] [] ac_SK V ac_SK K) ∧
      (¬ (((ac_ST L xs 2).2.2 (i3).toNatClampNeg) &&& (63 : Int32)) = 37 →
      ((((ac_ST L xs 2).2.2 (i3).toNatClampNeg) &&& (63 : Int32)) = 38 →
        ab_J G (ac_ST L xs) l (d + 1) 301 1512 [some (.ref 1000002), some (.ref 0), some (.ref 105), some (.int i3)] [] ac_SK V ac_SK K) ∧
      (¬ (((ac_ST L xs 2).2.2 (i3).toNatClampNeg) &&& (63 : Int32)) = 38 →
      ((((ac_ST L xs 2).2.2 (i3).toNatClampNeg) &&& (63 : Int32)) = 39 →
        ab_J G (ac_ST L xs) l (d + 1) 301 1535 [some (.ref 1000002), some (.ref 0), some (.ref 105), some (.int i3)] [] ac_SK V ac_SK K) ∧
      (¬ (((ac_ST L xs 2).2.2 (i3).toNatClampNeg) &&& (63 : Int32)) = 39 →
      ((((ac_ST L xs 2).2.2 (i3).toNatClampNeg) &&& (63 : Int32)) = 40 →
        ab_J G (ac_ST L xs) l (d + 1) 301 1578 [some (.ref 1000002), some (.ref 0), some (.ref 105), some (.int i3)] [] ac_SK V ac_SK K) ∧
      (¬ (((ac_ST L xs 2).2.2 (i3).toNatClampNeg) &&& (63 : Int32)) = 40 →
      ((((ac_ST L xs 2).2.2 (i3).toNatClampNeg) &&& (63 : Int32)) = 41 →
        ab_J G (ac_ST L xs) l (d + 1) 301 1621 [some (.ref 1000002), some (.ref 0), some (.ref 105), some (.int i3)] [] ac_SK V ac_SK K) ∧
      (¬ (((ac_ST L xs 2).2.2 (i3).toNatClampNeg) &&& (63 : Int32)) = 41 →
      ((((ac_ST L xs 2).2.2 (i3).toNatClampNeg) &&& (63 : Int32)) = 42 →
        ab_J G (ac_ST L xs) l (d + 1) 301 1684 [some (.ref 1000002), some (.ref 0), some (.ref 105), some (.int i3)] [] ac_SK V ac_SK K) ∧
      (¬ (((ac_ST L xs 2).2.2 (i3).toNatClampNeg) &&& (63 : Int32)) = 42 →
      ((((ac_ST L xs 2).2.2 (i3).toNatClampNeg) &&& (63 : Int32)) = 43 →
        ab_J G (ac_ST L xs) l (d + 1) 301 1737 [some (.ref 1000002), some (.ref 0), some (.ref 105), some (.int i3)] [] ac_SK V ac_SK K) ∧
      (¬ (((ac_ST L xs 2).2.2 (i3).toNatClampNeg) &&& (63 : Int32)) = 43 →
      ab_J G (ac_ST L xs) l (d + 1) 301 1770 [some (.ref 1000002), some (.ref 0), some (.ref 105), some (.int i3)] [] ac_SK V ac_SK K)))))))))))))))))))))))))))))))))))))))))))))) :
    ab_J G (ac_ST L xs) l (d + 1) 301 18 [some (.ref 1000002), some (.ref 0), some (.ref 105), some (.int i3)] [] ac_SK V ac_SK K := ab_wm cd_301_ok [(18, [true, true, true, true]), (224, [true, true, true, true]), (247, [true, true, true, true]), (290, [true, true, true, true]), (333, [true, true, true, true]), (366, [true, true, true, true]), (399, [true, true, true, true]), (452, [true, true, true, true]), (486, [true, true, true, true]), (519, [true, true, true, true]), (542, [true, true, true, true]), (566, [true, true, true, true]), (629, [true, true, true, true]), (642, [true, true, true, true]), (665, [true, true, true, true]), (699, [true, true, true, true]), (732, [true, true, true, true]), (755, [true, true, true, true]), (768, [true, true, true, true]), (791, [true, true, true, true]), (814, [true, true, true, true]), (837, [true, true, true, true]), (890, [true, true, true, true]), (943, [true, true, true, true]), (976, [true, true, true, true]), (1029, [true, true, true, true]), (1052, [true, true, true, true]), (1096, [true, true, true, true]), (1119, [true, true, true, true]), (1152, [true, true, true, true]), (1195, [true, true, true, true]), (1228, [true, true, true, true]), (1261, [true, true, true, true]), (1274, [true, true, true, true]), (1327, [true, true, true, true]), (1360, [true, true, true, true]), (1393, [true, true, true, true]), (1426, [true, true, true, true]), (1479, [true, true, true, true]), (1512, [true, true, true, true]), (1535, [true, true, true, true]), (1578, [true, true, true, true]), (1621, [true, true, true, true]), (1684, [true, true, true, true]), (1737, [true, true, true, true]), (1770, [true, true, true, true])] 64 _ _ _ _ h

set_option maxRecDepth 20000 in
/-- FrameCountyLaw law([I)Z, from 224 -/
theorem vc_301_224 {G : ab_G} {L : Nat} {xs : Nat → Int32} {l : Launch} {d : Nat} {i3 : Int32} {V : aa_V} {K : aa_K} (h :
    vp_in (i3 + (1 : Int32)) (ac_ST L xs 2).2.1 ∧
    ab_E G (ac_ST L xs) l d ac_SK 138 [.ref 0, .int ((ac_ST L xs 2).2.2 ((i3 + (1 : Int32))).toNatClampNeg)] V (aa_rI (fun x1 V1 =>
      vp_in (i3 + (1 : Int32)) (ac_ST L xs 2).2.1 ∧
      ab_E G (ac_ST L xs) l d ac_SK 195 [.ref 105, .int ((ac_ST L xs 2).2.2 ((i3 + (1 : Int32))).toNatClampNeg)] V1 (aa_rI (fun x2 V2 =>
        (x1 = x2 →
          ab_J G (ac_ST L xs) l (d + 1) 301 1770 [some (.ref 1000002), some (.ref 0), some (.ref 105), some (.int i3)] [] ac_SK V2 ac_SK K) ∧
        (¬ x1 = x2 →
          aa_bit (0 : Int32) ∧ K (some (.int (0 : Int32))) V2)))))) :
    ab_J G (ac_ST L xs) l (d + 1) 301 224 [some (.ref 1000002), some (.ref 0), some (.ref 105), some (.int i3)] [] ac_SK V ac_SK K := ab_wm cd_301_ok [(18, [true, true, true, true]), (224, [true, true, true, true]), (247, [true, true, true, true]), (290, [true, true, true, true]), (333, [true, true, true, true]), (366, [true, true, true, true]), (399, [true, true, true, true]), (452, [true, true, true, true]), (486, [true, true, true, true]), (519, [true, true, true, true]), (542, [true, true, true, true]), (566, [true, true, true, true]), (629, [true, true, true, true]), (642, [true, true, true, true]), (665, [true, true, true, true]), (699, [true, true, true, true]), (732, [true, true, true, true]), (755, [true, true, true, true]), (768, [true, true, true, true]), (791, [true, true, true, true]), (814, [true, true, true, true]), (837, [true, true, true, true]), (890, [true, true, true, true]), (943, [true, true, true, true]), (976, [true, true, true, true]), (1029, [true, true, true, true]), (1052, [true, true, true, true]), (1096, [true, true, true, true]), (1119, [true, true, true, true]), (1152, [true, true, true, true]), (1195, [true, true, true, true]), (1228, [true, true, true, true]), (1261, [true, true, true, true]), (1274, [true, true, true, true]), (1327, [true, true, true, true]), (1360, [true, true, true, true]), (1393, [true, true, true, true]), (1426, [true, true, true, true]), (1479, [true, true, true, true]), (1512, [true, true, true, true]), (1535, [true, true, true, true]), (1578, [true, true, true, true]), (1621, [true, true, true, true]), (1684, [true, true, true, true]), (1737, [true, true, true, true]), (1770, [true, true, true, true])] 23 _ _ _ _ h

set_option maxRecDepth 20000 in
/-- FrameCountyLaw law([I)Z, from 247 -/
theorem vc_301_247 {G : ab_G} {L : Nat} {xs : Nat → Int32} {l : Launch} {d : Nat} {i3 : Int32} {V : aa_V} {K : aa_K} (h :
    vp_in (i3 + (1 : Int32)) (ac_ST L xs 2).2.1 ∧
    vp_in (i3 + (2 : Int32)) (ac_ST L xs 2).2.1 ∧
    vp_in (i3 + (3 : Int32)) (ac_ST L xs 2).2.1 ∧
    ab_E G (ac_ST L xs) l d ac_SK 139 [.ref 0, .int ((ac_ST L xs 2).2.2 ((i3 + (1 : Int32))).toNatClampNeg), .int ((ac_ST L xs 2).2.2 ((i3 + (2 : Int32))).toNatClampNeg), .int ((ac_ST L xs 2).2.2 ((i3 + (3 : Int32))).toNatClampNeg)] V (aa_rI (fun x1 V1 =>
      vp_in (i3 + (1 : Int32)) (ac_ST L xs 2).2.1 ∧
      vp_in (i3 + (2 : Int32)) (ac_ST L xs 2).2.1 ∧
      vp_in (i3 + (3 : Int32)) (ac_ST L xs 2).2.1 ∧
      ab_E G (ac_ST L xs) l d ac_SK 196 [.ref 105, .int ((ac_ST L xs 2).2.2 ((i3 + (1 : Int32))).toNatClampNeg), .int ((ac_ST L xs 2).2.2 ((i3 + (2 : Int32))).toNatClampNeg), .int ((ac_ST L xs 2).2.2 ((i3 + (3 : Int32))).toNatClampNeg)] V1 (aa_rI (fun x2 V2 =>
        (x1 = x2 →
          ab_J G (ac_ST L xs) l (d + 1) 301 1770 [some (.ref 1000002), some (.ref 0), some (.ref 105), some (.int i3)] [] ac_SK V2 ac_SK K) ∧
        (¬ x1 = x2 →
          aa_bit (0 : Int32) ∧ K (some (.int (0 : Int32))) V2)))))) :
    ab_J G (ac_ST L xs) l (d + 1) 301 247 [some (.ref 1000002), some (.ref 0), some (.ref 105), some (.int i3)] [] ac_SK V ac_SK K := ab_wm cd_301_ok [(18, [true, true, true, true]), (224, [true, true, true, true]), (247, [true, true, true, true]), (290, [true, true, true, true]), (333, [true, true, true, true]), (366, [true, true, true, true]), (399, [true, true, true, true]), (452, [true, true, true, true]), (486, [true, true, true, true]), (519, [true, true, true, true]), (542, [true, true, true, true]), (566, [true, true, true, true]), (629, [true, true, true, true]), (642, [true, true, true, true]), (665, [true, true, true, true]), (699, [true, true, true, true]), (732, [true, true, true, true]), (755, [true, true, true, true]), (768, [true, true, true, true]), (791, [true, true, true, true]), (814, [true, true, true, true]), (837, [true, true, true, true]), (890, [true, true, true, true]), (943, [true, true, true, true]), (976, [true, true, true, true]), (1029, [true, true, true, true]), (1052, [true, true, true, true]), (1096, [true, true, true, true]), (1119, [true, true, true, true]), (1152, [true, true, true, true]), (1195, [true, true, true, true]), (1228, [true, true, true, true]), (1261, [true, true, true, true]), (1274, [true, true, true, true]), (1327, [true, true, true, true]), (1360, [true, true, true, true]), (1393, [true, true, true, true]), (1426, [true, true, true, true]), (1479, [true, true, true, true]), (1512, [true, true, true, true]), (1535, [true, true, true, true]), (1578, [true, true, true, true]), (1621, [true, true, true, true]), (1684, [true, true, true, true]), (1737, [true, true, true, true]), (1770, [true, true, true, true])] 43 _ _ _ _ h

set_option maxRecDepth 20000 in
/-- FrameCountyLaw law([I)Z, from 290 -/
theorem vc_301_290 {G : ab_G} {L : Nat} {xs : Nat → Int32} {l : Launch} {d : Nat} {i3 : Int32} {V : aa_V} {K : aa_K} (h :
    vp_in (i3 + (1 : Int32)) (ac_ST L xs 2).2.1 ∧
    vp_in (i3 + (2 : Int32)) (ac_ST L xs 2).2.1 ∧
    vp_in (i3 + (3 : Int32)) (ac_ST L xs 2).2.1 ∧
    ab_E G (ac_ST L xs) l d ac_SK 140 [.ref 0, .int ((ac_ST L xs 2).2.2 ((i3 + (1 : Int32))).toNatClampNeg), .int ((ac_ST L xs 2).2.2 ((i3 + (2 : Int32))).toNatClampNeg), .int ((ac_ST L xs 2).2.2 ((i3 + (3 : Int32))).toNatClampNeg)] V (aa_rI (fun x1 V1 =>
      vp_in (i3 + (1 : Int32)) (ac_ST L xs 2).2.1 ∧
      vp_in (i3 + (2 : Int32)) (ac_ST L xs 2).2.1 ∧
      vp_in (i3 + (3 : Int32)) (ac_ST L xs 2).2.1 ∧
      ab_E G (ac_ST L xs) l d ac_SK 198 [.ref 105, .int ((ac_ST L xs 2).2.2 ((i3 + (1 : Int32))).toNatClampNeg), .int ((ac_ST L xs 2).2.2 ((i3 + (2 : Int32))).toNatClampNeg), .int ((ac_ST L xs 2).2.2 ((i3 + (3 : Int32))).toNatClampNeg)] V1 (aa_rI (fun x2 V2 =>
        (x1 = x2 →
          ab_J G (ac_ST L xs) l (d + 1) 301 1770 [some (.ref 1000002), some (.ref 0), some (.ref 105), some (.int i3)] [] ac_SK V2 ac_SK K) ∧
        (¬ x1 = x2 →
          aa_bit (0 : Int32) ∧ K (some (.int (0 : Int32))) V2)))))) :
    ab_J G (ac_ST L xs) l (d + 1) 301 290 [some (.ref 1000002), some (.ref 0), some (.ref 105), some (.int i3)] [] ac_SK V ac_SK K := ab_wm cd_301_ok [(18, [true, true, true, true]), (224, [true, true, true, true]), (247, [true, true, true, true]), (290, [true, true, true, true]), (333, [true, true, true, true]), (366, [true, true, true, true]), (399, [true, true, true, true]), (452, [true, true, true, true]), (486, [true, true, true, true]), (519, [true, true, true, true]), (542, [true, true, true, true]), (566, [true, true, true, true]), (629, [true, true, true, true]), (642, [true, true, true, true]), (665, [true, true, true, true]), (699, [true, true, true, true]), (732, [true, true, true, true]), (755, [true, true, true, true]), (768, [true, true, true, true]), (791, [true, true, true, true]), (814, [true, true, true, true]), (837, [true, true, true, true]), (890, [true, true, true, true]), (943, [true, true, true, true]), (976, [true, true, true, true]), (1029, [true, true, true, true]), (1052, [true, true, true, true]), (1096, [true, true, true, true]), (1119, [true, true, true, true]), (1152, [true, true, true, true]), (1195, [true, true, true, true]), (1228, [true, true, true, true]), (1261, [true, true, true, true]), (1274, [true, true, true, true]), (1327, [true, true, true, true]), (1360, [true, true, true, true]), (1393, [true, true, true, true]), (1426, [true, true, true, true]), (1479, [true, true, true, true]), (1512, [true, true, true, true]), (1535, [true, true, true, true]), (1578, [true, true, true, true]), (1621, [true, true, true, true]), (1684, [true, true, true, true]), (1737, [true, true, true, true]), (1770, [true, true, true, true])] 43 _ _ _ _ h

set_option maxRecDepth 20000 in
/-- FrameCountyLaw law([I)Z, from 333 -/
theorem vc_301_333 {G : ab_G} {L : Nat} {xs : Nat → Int32} {l : Launch} {d : Nat} {i3 : Int32} {V : aa_V} {K : aa_K} (h :
    vp_in (i3 + (1 : Int32)) (ac_ST L xs 2).2.1 ∧
    vp_in (i3 + (2 : Int32)) (ac_ST L xs 2).2.1 ∧
    ab_E G (ac_ST L xs) l d ac_SK 141 [.ref 0, .int ((ac_ST L xs 2).2.2 ((i3 + (1 : Int32))).toNatClampNeg), .int ((ac_ST L xs 2).2.2 ((i3 + (2 : Int32))).toNatClampNeg)] V (aa_rI (fun x1 V1 =>
      vp_in (i3 + (1 : Int32)) (ac_ST L xs 2).2.1 ∧
      vp_in (i3 + (2 : Int32)) (ac_ST L xs 2).2.1 ∧
      ab_E G (ac_ST L xs) l d ac_SK 201 [.ref 105, .int ((ac_ST L xs 2).2.2 ((i3 + (1 : Int32))).toNatClampNeg), .int ((ac_ST L xs 2).2.2 ((i3 + (2 : Int32))).toNatClampNeg)] V1 (aa_rI (fun x2 V2 =>
        (x1 = x2 →
          ab_J G (ac_ST L xs) l (d + 1) 301 1770 [some (.ref 1000002), some (.ref 0), some (.ref 105), some (.int i3)] [] ac_SK V2 ac_SK K) ∧
        (¬ x1 = x2 →
          aa_bit (0 : Int32) ∧ K (some (.int (0 : Int32))) V2)))))) :
    ab_J G (ac_ST L xs) l (d + 1) 301 333 [some (.ref 1000002), some (.ref 0), some (.ref 105), some (.int i3)] [] ac_SK V ac_SK K := ab_wm cd_301_ok [(18, [true, true, true, true]), (224, [true, true, true, true]), (247, [true, true, true, true]), (290, [true, true, true, true]), (333, [true, true, true, true]), (366, [true, true, true, true]), (399, [true, true, true, true]), (452, [true, true, true, true]), (486, [true, true, true, true]), (519, [true, true, true, true]), (542, [true, true, true, true]), (566, [true, true, true, true]), (629, [true, true, true, true]), (642, [true, true, true, true]), (665, [true, true, true, true]), (699, [true, true, true, true]), (732, [true, true, true, true]), (755, [true, true, true, true]), (768, [true, true, true, true]), (791, [true, true, true, true]), (814, [true, true, true, true]), (837, [true, true, true, true]), (890, [true, true, true, true]), (943, [true, true, true, true]), (976, [true, true, true, true]), (1029, [true, true, true, true]), (1052, [true, true, true, true]), (1096, [true, true, true, true]), (1119, [true, true, true, true]), (1152, [true, true, true, true]), (1195, [true, true, true, true]), (1228, [true, true, true, true]), (1261, [true, true, true, true]), (1274, [true, true, true, true]), (1327, [true, true, true, true]), (1360, [true, true, true, true]), (1393, [true, true, true, true]), (1426, [true, true, true, true]), (1479, [true, true, true, true]), (1512, [true, true, true, true]), (1535, [true, true, true, true]), (1578, [true, true, true, true]), (1621, [true, true, true, true]), (1684, [true, true, true, true]), (1737, [true, true, true, true]), (1770, [true, true, true, true])] 33 _ _ _ _ h

set_option maxRecDepth 20000 in
/-- FrameCountyLaw law([I)Z, from 366 -/
theorem vc_301_366 {G : ab_G} {L : Nat} {xs : Nat → Int32} {l : Launch} {d : Nat} {i3 : Int32} {V : aa_V} {K : aa_K} (h :
    vp_in (i3 + (1 : Int32)) (ac_ST L xs 2).2.1 ∧
    vp_in (i3 + (2 : Int32)) (ac_ST L xs 2).2.1 ∧
    ab_E G (ac_ST L xs) l d ac_SK 142 [.ref 0, .int ((ac_ST L xs 2).2.2 ((i3 + (1 : Int32))).toNatClampNeg), .int ((ac_ST L xs 2).2.2 ((i3 + (2 : Int32))).toNatClampNeg)] V (aa_rI (fun x1 V1 =>
      vp_in (i3 + (1 : Int32)) (ac_ST L xs 2).2.1 ∧
      vp_in (i3 + (2 : Int32)) (ac_ST L xs 2).2.1 ∧
      ab_E G (ac_ST L xs) l d ac_SK 202 [.ref 105, .int ((ac_ST L xs 2).2.2 ((i3 + (1 : Int32))).toNatClampNeg), .int ((ac_ST L xs 2).2.2 ((i3 + (2 : Int32))).toNatClampNeg)] V1 (aa_rI (fun x2 V2 =>
        (x1 = x2 →
          ab_J G (ac_ST L xs) l (d + 1) 301 1770 [some (.ref 1000002), some (.ref 0), some (.ref 105), some (.int i3)] [] ac_SK V2 ac_SK K) ∧
        (¬ x1 = x2 →
          aa_bit (0 : Int32) ∧ K (some (.int (0 : Int32))) V2)))))) :
    ab_J G (ac_ST L xs) l (d + 1) 301 366 [some (.ref 1000002), some (.ref 0), some (.ref 105), some (.int i3)] [] ac_SK V ac_SK K := ab_wm cd_301_ok [(18, [true, true, true, true]), (224, [true, true, true, true]), (247, [true, true, true, true]), (290, [true, true, true, true]), (333, [true, true, true, true]), (366, [true, true, true, true]), (399, [true, true, true, true]), (452, [true, true, true, true]), (486, [true, true, true, true]), (519, [true, true, true, true]), (542, [true, true, true, true]), (566, [true, true, true, true]), (629, [true, true, true, true]), (642, [true, true, true, true]), (665, [true, true, true, true]), (699, [true, true, true, true]), (732, [true, true, true, true]), (755, [true, true, true, true]), (768, [true, true, true, true]), (791, [true, true, true, true]), (814, [true, true, true, true]), (837, [true, true, true, true]), (890, [true, true, true, true]), (943, [true, true, true, true]), (976, [true, true, true, true]), (1029, [true, true, true, true]), (1052, [true, true, true, true]), (1096, [true, true, true, true]), (1119, [true, true, true, true]), (1152, [true, true, true, true]), (1195, [true, true, true, true]), (1228, [true, true, true, true]), (1261, [true, true, true, true]), (1274, [true, true, true, true]), (1327, [true, true, true, true]), (1360, [true, true, true, true]), (1393, [true, true, true, true]), (1426, [true, true, true, true]), (1479, [true, true, true, true]), (1512, [true, true, true, true]), (1535, [true, true, true, true]), (1578, [true, true, true, true]), (1621, [true, true, true, true]), (1684, [true, true, true, true]), (1737, [true, true, true, true]), (1770, [true, true, true, true])] 33 _ _ _ _ h

set_option maxRecDepth 20000 in
/-- FrameCountyLaw law([I)Z, from 399 -/
theorem vc_301_399 {G : ab_G} {L : Nat} {xs : Nat → Int32} {l : Launch} {d : Nat} {i3 : Int32} {V : aa_V} {K : aa_K} (h :
    vp_in (i3 + (1 : Int32)) (ac_ST L xs 2).2.1 ∧
    vp_in (i3 + (2 : Int32)) (ac_ST L xs 2).2.1 ∧
    vp_in (i3 + (3 : Int32)) (ac_ST L xs 2).2.1 ∧
    vp_in (i3 + (4 : Int32)) (ac_ST L xs 2).2.1 ∧
    ab_E G (ac_ST L xs) l d ac_SK 143 [.ref 0, .int ((ac_ST L xs 2).2.2 ((i3 + (1 : Int32))).toNatClampNeg), .int ((ac_ST L xs 2).2.2 ((i3 + (2 : Int32))).toNatClampNeg), .int ((ac_ST L xs 2).2.2 ((i3 + (3 : Int32))).toNatClampNeg), .int ((ac_ST L xs 2).2.2 ((i3 + (4 : Int32))).toNatClampNeg)] V (aa_rI (fun x1 V1 =>
      vp_in (i3 + (1 : Int32)) (ac_ST L xs 2).2.1 ∧
      vp_in (i3 + (2 : Int32)) (ac_ST L xs 2).2.1 ∧
      vp_in (i3 + (3 : Int32)) (ac_ST L xs 2).2.1 ∧
      vp_in (i3 + (4 : Int32)) (ac_ST L xs 2).2.1 ∧
      ab_E G (ac_ST L xs) l d ac_SK 203 [.ref 105, .int ((ac_ST L xs 2).2.2 ((i3 + (1 : Int32))).toNatClampNeg), .int ((ac_ST L xs 2).2.2 ((i3 + (2 : Int32))).toNatClampNeg), .int ((ac_ST L xs 2).2.2 ((i3 + (3 : Int32))).toNatClampNeg), .int ((ac_ST L xs 2).2.2 ((i3 + (4 : Int32))).toNatClampNeg)] V1 (aa_rI (fun x2 V2 =>
        (x1 = x2 →
          ab_J G (ac_ST L xs) l (d + 1) 301 1770 [some (.ref 1000002), some (.ref 0), some (.ref 105), some (.int i3)] [] ac_SK V2 ac_SK K) ∧
        (¬ x1 = x2 →
          aa_bit (0 : Int32) ∧ K (some (.int (0 : Int32))) V2)))))) :
    ab_J G (ac_ST L xs) l (d + 1) 301 399 [some (.ref 1000002), some (.ref 0), some (.ref 105), some (.int i3)] [] ac_SK V ac_SK K := ab_wm cd_301_ok [(18, [true, true, true, true]), (224, [true, true, true, true]), (247, [true, true, true, true]), (290, [true, true, true, true]), (333, [true, true, true, true]), (366, [true, true, true, true]), (399, [true, true, true, true]), (452, [true, true, true, true]), (486, [true, true, true, true]), (519, [true, true, true, true]), (542, [true, true, true, true]), (566, [true, true, true, true]), (629, [true, true, true, true]), (642, [true, true, true, true]), (665, [true, true, true, true]), (699, [true, true, true, true]), (732, [true, true, true, true]), (755, [true, true, true, true]), (768, [true, true, true, true]), (791, [true, true, true, true]), (814, [true, true, true, true]), (837, [true, true, true, true]), (890, [true, true, true, true]), (943, [true, true, true, true]), (976, [true, true, true, true]), (1029, [true, true, true, true]), (1052, [true, true, true, true]), (1096, [true, true, true, true]), (1119, [true, true, true, true]), (1152, [true, true, true, true]), (1195, [true, true, true, true]), (1228, [true, true, true, true]), (1261, [true, true, true, true]), (1274, [true, true, true, true]), (1327, [true, true, true, true]), (1360, [true, true, true, true]), (1393, [true, true, true, true]), (1426, [true, true, true, true]), (1479, [true, true, true, true]), (1512, [true, true, true, true]), (1535, [true, true, true, true]), (1578, [true, true, true, true]), (1621, [true, true, true, true]), (1684, [true, true, true, true]), (1737, [true, true, true, true]), (1770, [true, true, true, true])] 53 _ _ _ _ h

set_option maxRecDepth 20000 in
/-- FrameCountyLaw law([I)Z, from 452 -/
theorem vc_301_452 {G : ab_G} {L : Nat} {xs : Nat → Int32} {l : Launch} {d : Nat} {i3 : Int32} {V : aa_V} {K : aa_K} (h :
    vp_in (i3 + (1 : Int32)) (ac_ST L xs 2).2.1 ∧
    vp_in (i3 + (2 : Int32)) (ac_ST L xs 2).2.1 ∧
    ab_E G (ac_ST L xs) l d ac_SK 144 [.ref 0, .int ((ac_ST L xs 2).2.2 ((i3 + (1 : Int32))).toNatClampNeg), .int ((ac_ST L xs 2).2.2 ((i3 + (2 : Int32))).toNatClampNeg)] V (aa_rL (fun x1 V1 =>
      vp_in (i3 + (1 : Int32)) (ac_ST L xs 2).2.1 ∧
      vp_in (i3 + (2 : Int32)) (ac_ST L xs 2).2.1 ∧
      ab_E G (ac_ST L xs) l d ac_SK 207 [.ref 105, .int ((ac_ST L xs 2).2.2 ((i3 + (1 : Int32))).toNatClampNeg), .int ((ac_ST L xs 2).2.2 ((i3 + (2 : Int32))).toNatClampNeg)] V1 (aa_rL (fun x2 V2 =>
        ((lg_cmp x1 x2) = 0 →
          ab_J G (ac_ST L xs) l (d + 1) 301 1770 [some (.ref 1000002), some (.ref 0), some (.ref 105), some (.int i3)] [] ac_SK V2 ac_SK K) ∧
        (¬ (lg_cmp x1 x2) = 0 →
          aa_bit (0 : Int32) ∧ K (some (.int (0 : Int32))) V2)))))) :
    ab_J G (ac_ST L xs) l (d + 1) 301 452 [some (.ref 1000002), some (.ref 0), some (.ref 105), some (.int i3)] [] ac_SK V ac_SK K := ab_wm cd_301_ok [(18, [true, true, true, true]), (224, [true, true, true, true]), (247, [true, true, true, true]), (290, [true, true, true, true]), (333, [true, true, true, true]), (366, [true, true, true, true]), (399, [true, true, true, true]), (452, [true, true, true, true]), (486, [true, true, true, true]), (519, [true, true, true, true]), (542, [true, true, true, true]), (566, [true, true, true, true]), (629, [true, true, true, true]), (642, [true, true, true, true]), (665, [true, true, true, true]), (699, [true, true, true, true]), (732, [true, true, true, true]), (755, [true, true, true, true]), (768, [true, true, true, true]), (791, [true, true, true, true]), (814, [true, true, true, true]), (837, [true, true, true, true]), (890, [true, true, true, true]), (943, [true, true, true, true]), (976, [true, true, true, true]), (1029, [true, true, true, true]), (1052, [true, true, true, true]), (1096, [true, true, true, true]), (1119, [true, true, true, true]), (1152, [true, true, true, true]), (1195, [true, true, true, true]), (1228, [true, true, true, true]), (1261, [true, true, true, true]), (1274, [true, true, true, true]), (1327, [true, true, true, true]), (1360, [true, true, true, true]), (1393, [true, true, true, true]), (1426, [true, true, true, true]), (1479, [true, true, true, true]), (1512, [true, true, true, true]), (1535, [true, true, true, true]), (1578, [true, true, true, true]), (1621, [true, true, true, true]), (1684, [true, true, true, true]), (1737, [true, true, true, true]), (1770, [true, true, true, true])] 34 _ _ _ _ h

set_option maxRecDepth 20000 in
/-- FrameCountyLaw law([I)Z, from 486 -/
theorem vc_301_486 {G : ab_G} {L : Nat} {xs : Nat → Int32} {l : Launch} {d : Nat} {i3 : Int32} {V : aa_V} {K : aa_K} (h :
    vp_in (i3 + (1 : Int32)) (ac_ST L xs 2).2.1 ∧
    vp_in (i3 + (2 : Int32)) (ac_ST L xs 2).2.1 ∧
    ab_E G (ac_ST L xs) l d ac_SK 145 [.ref 0, .int ((ac_ST L xs 2).2.2 ((i3 + (1 : Int32))).toNatClampNeg), .int ((ac_ST L xs 2).2.2 ((i3 + (2 : Int32))).toNatClampNeg)] V (aa_rI (fun x1 V1 =>
      vp_in (i3 + (1 : Int32)) (ac_ST L xs 2).2.1 ∧
      vp_in (i3 + (2 : Int32)) (ac_ST L xs 2).2.1 ∧
      ab_E G (ac_ST L xs) l d ac_SK 208 [.ref 105, .int ((ac_ST L xs 2).2.2 ((i3 + (1 : Int32))).toNatClampNeg), .int ((ac_ST L xs 2).2.2 ((i3 + (2 : Int32))).toNatClampNeg)] V1 (aa_rI (fun x2 V2 =>
        (x1 = x2 →
          ab_J G (ac_ST L xs) l (d + 1) 301 1770 [some (.ref 1000002), some (.ref 0), some (.ref 105), some (.int i3)] [] ac_SK V2 ac_SK K) ∧
        (¬ x1 = x2 →
          aa_bit (0 : Int32) ∧ K (some (.int (0 : Int32))) V2)))))) :
    ab_J G (ac_ST L xs) l (d + 1) 301 486 [some (.ref 1000002), some (.ref 0), some (.ref 105), some (.int i3)] [] ac_SK V ac_SK K := ab_wm cd_301_ok [(18, [true, true, true, true]), (224, [true, true, true, true]), (247, [true, true, true, true]), (290, [true, true, true, true]), (333, [true, true, true, true]), (366, [true, true, true, true]), (399, [true, true, true, true]), (452, [true, true, true, true]), (486, [true, true, true, true]), (519, [true, true, true, true]), (542, [true, true, true, true]), (566, [true, true, true, true]), (629, [true, true, true, true]), (642, [true, true, true, true]), (665, [true, true, true, true]), (699, [true, true, true, true]), (732, [true, true, true, true]), (755, [true, true, true, true]), (768, [true, true, true, true]), (791, [true, true, true, true]), (814, [true, true, true, true]), (837, [true, true, true, true]), (890, [true, true, true, true]), (943, [true, true, true, true]), (976, [true, true, true, true]), (1029, [true, true, true, true]), (1052, [true, true, true, true]), (1096, [true, true, true, true]), (1119, [true, true, true, true]), (1152, [true, true, true, true]), (1195, [true, true, true, true]), (1228, [true, true, true, true]), (1261, [true, true, true, true]), (1274, [true, true, true, true]), (1327, [true, true, true, true]), (1360, [true, true, true, true]), (1393, [true, true, true, true]), (1426, [true, true, true, true]), (1479, [true, true, true, true]), (1512, [true, true, true, true]), (1535, [true, true, true, true]), (1578, [true, true, true, true]), (1621, [true, true, true, true]), (1684, [true, true, true, true]), (1737, [true, true, true, true]), (1770, [true, true, true, true])] 33 _ _ _ _ h

set_option maxRecDepth 20000 in
/-- FrameCountyLaw law([I)Z, from 519 -/
theorem vc_301_519 {G : ab_G} {L : Nat} {xs : Nat → Int32} {l : Launch} {d : Nat} {i3 : Int32} {V : aa_V} {K : aa_K} (h :
    vp_in (i3 + (1 : Int32)) (ac_ST L xs 2).2.1 ∧
    ab_E G (ac_ST L xs) l d ac_SK 146 [.ref 0, .int ((ac_ST L xs 2).2.2 ((i3 + (1 : Int32))).toNatClampNeg)] V (aa_rI (fun x1 V1 =>
      vp_in (i3 + (1 : Int32)) (ac_ST L xs 2).2.1 ∧
      ab_E G (ac_ST L xs) l d ac_SK 209 [.ref 105, .int ((ac_ST L xs 2).2.2 ((i3 + (1 : Int32))).toNatClampNeg)] V1 (aa_rI (fun x2 V2 =>
        (x1 = x2 →
          ab_J G (ac_ST L xs) l (d + 1) 301 1770 [some (.ref 1000002), some (.ref 0), some (.ref 105), some (.int i3)] [] ac_SK V2 ac_SK K) ∧
        (¬ x1 = x2 →
          aa_bit (0 : Int32) ∧ K (some (.int (0 : Int32))) V2)))))) :
    ab_J G (ac_ST L xs) l (d + 1) 301 519 [some (.ref 1000002), some (.ref 0), some (.ref 105), some (.int i3)] [] ac_SK V ac_SK K := ab_wm cd_301_ok [(18, [true, true, true, true]), (224, [true, true, true, true]), (247, [true, true, true, true]), (290, [true, true, true, true]), (333, [true, true, true, true]), (366, [true, true, true, true]), (399, [true, true, true, true]), (452, [true, true, true, true]), (486, [true, true, true, true]), (519, [true, true, true, true]), (542, [true, true, true, true]), (566, [true, true, true, true]), (629, [true, true, true, true]), (642, [true, true, true, true]), (665, [true, true, true, true]), (699, [true, true, true, true]), (732, [true, true, true, true]), (755, [true, true, true, true]), (768, [true, true, true, true]), (791, [true, true, true, true]), (814, [true, true, true, true]), (837, [true, true, true, true]), (890, [true, true, true, true]), (943, [true, true, true, true]), (976, [true, true, true, true]), (1029, [true, true, true, true]), (1052, [true, true, true, true]), (1096, [true, true, true, true]), (1119, [true, true, true, true]), (1152, [true, true, true, true]), (1195, [true, true, true, true]), (1228, [true, true, true, true]), (1261, [true, true, true, true]), (1274, [true, true, true, true]), (1327, [true, true, true, true]), (1360, [true, true, true, true]), (1393, [true, true, true, true]), (1426, [true, true, true, true]), (1479, [true, true, true, true]), (1512, [true, true, true, true]), (1535, [true, true, true, true]), (1578, [true, true, true, true]), (1621, [true, true, true, true]), (1684, [true, true, true, true]), (1737, [true, true, true, true]), (1770, [true, true, true, true])] 23 _ _ _ _ h

set_option maxRecDepth 20000 in
/-- FrameCountyLaw law([I)Z, from 542 -/
theorem vc_301_542 {G : ab_G} {L : Nat} {xs : Nat → Int32} {l : Launch} {d : Nat} {i3 : Int32} {V : aa_V} {K : aa_K} (h :
    vp_in (i3 + (1 : Int32)) (ac_ST L xs 2).2.1 ∧
    ab_E G (ac_ST L xs) l d ac_SK 147 [.ref 0, .int ((ac_ST L xs 2).2.2 ((i3 + (1 : Int32))).toNatClampNeg)] V (aa_rL (fun x1 V1 =>
      vp_in (i3 + (1 : Int32)) (ac_ST L xs 2).2.1 ∧
      ab_E G (ac_ST L xs) l d ac_SK 210 [.ref 105, .int ((ac_ST L xs 2).2.2 ((i3 + (1 : Int32))).toNatClampNeg)] V1 (aa_rL (fun x2 V2 =>
        ((lg_cmp x1 x2) = 0 →
          ab_J G (ac_ST L xs) l (d + 1) 301 1770 [some (.ref 1000002), some (.ref 0), some (.ref 105), some (.int i3)] [] ac_SK V2 ac_SK K) ∧
        (¬ (lg_cmp x1 x2) = 0 →
          aa_bit (0 : Int32) ∧ K (some (.int (0 : Int32))) V2)))))) :
    ab_J G (ac_ST L xs) l (d + 1) 301 542 [some (.ref 1000002), some (.ref 0), some (.ref 105), some (.int i3)] [] ac_SK V ac_SK K := ab_wm cd_301_ok [(18, [true, true, true, true]), (224, [true, true, true, true]), (247, [true, true, true, true]), (290, [true, true, true, true]), (333, [true, true, true, true]), (366, [true, true, true, true]), (399, [true, true, true, true]), (452, [true, true, true, true]), (486, [true, true, true, true]), (519, [true, true, true, true]), (542, [true, true, true, true]), (566, [true, true, true, true]), (629, [true, true, true, true]), (642, [true, true, true, true]), (665, [true, true, true, true]), (699, [true, true, true, true]), (732, [true, true, true, true]), (755, [true, true, true, true]), (768, [true, true, true, true]), (791, [true, true, true, true]), (814, [true, true, true, true]), (837, [true, true, true, true]), (890, [true, true, true, true]), (943, [true, true, true, true]), (976, [true, true, true, true]), (1029, [true, true, true, true]), (1052, [true, true, true, true]), (1096, [true, true, true, true]), (1119, [true, true, true, true]), (1152, [true, true, true, true]), (1195, [true, true, true, true]), (1228, [true, true, true, true]), (1261, [true, true, true, true]), (1274, [true, true, true, true]), (1327, [true, true, true, true]), (1360, [true, true, true, true]), (1393, [true, true, true, true]), (1426, [true, true, true, true]), (1479, [true, true, true, true]), (1512, [true, true, true, true]), (1535, [true, true, true, true]), (1578, [true, true, true, true]), (1621, [true, true, true, true]), (1684, [true, true, true, true]), (1737, [true, true, true, true]), (1770, [true, true, true, true])] 24 _ _ _ _ h

set_option maxRecDepth 20000 in
/-- FrameCountyLaw law([I)Z, from 566 -/
theorem vc_301_566 {G : ab_G} {L : Nat} {xs : Nat → Int32} {l : Launch} {d : Nat} {i3 : Int32} {V : aa_V} {K : aa_K} (h :
    vp_in (i3 + (1 : Int32)) (ac_ST L xs 2).2.1 ∧
    vp_in (i3 + (2 : Int32)) (ac_ST L xs 2).2.1 ∧
    vp_in (i3 + (3 : Int32)) (ac_ST L xs 2).2.1 ∧
    ab_E G (ac_ST L xs) l d ac_SK 148 [.ref 0, .int ((ac_ST L xs 2).2.2 ((i3 + (1 : Int32))).toNatClampNeg), .long (((((ac_ST L xs 2).2.2 ((i3 + (2 : Int32))).toNatClampNeg).toInt64) <<< ((32 : Int32).toInt64 &&& 63)) ||| ((((ac_ST L xs 2).2.2 ((i3 + (3 : Int32))).toNatClampNeg).toInt64) &&& (4294967295 : Int64)))] V (aa_rI (fun x1 V1 =>
      vp_in (i3 + (1 : Int32)) (ac_ST L xs 2).2.1 ∧
      vp_in (i3 + (2 : Int32)) (ac_ST L xs 2).2.1 ∧
      vp_in (i3 + (3 : Int32)) (ac_ST L xs 2).2.1 ∧
      ab_E G (ac_ST L xs) l d ac_SK 213 [.ref 105, .int ((ac_ST L xs 2).2.2 ((i3 + (1 : Int32))).toNatClampNeg), .long (((((ac_ST L xs 2).2.2 ((i3 + (2 : Int32))).toNatClampNeg).toInt64) <<< ((32 : Int32).toInt64 &&& 63)) ||| ((((ac_ST L xs 2).2.2 ((i3 + (3 : Int32))).toNatClampNeg).toInt64) &&& (4294967295 : Int64)))] V1 (aa_rI (fun x2 V2 =>
        (x1 = x2 →
          ab_J G (ac_ST L xs) l (d + 1) 301 1770 [some (.ref 1000002), some (.ref 0), some (.ref 105), some (.int i3)] [] ac_SK V2 ac_SK K) ∧
        (¬ x1 = x2 →
          aa_bit (0 : Int32) ∧ K (some (.int (0 : Int32))) V2)))))) :
    ab_J G (ac_ST L xs) l (d + 1) 301 566 [some (.ref 1000002), some (.ref 0), some (.ref 105), some (.int i3)] [] ac_SK V ac_SK K := ab_wm cd_301_ok [(18, [true, true, true, true]), (224, [true, true, true, true]), (247, [true, true, true, true]), (290, [true, true, true, true]), (333, [true, true, true, true]), (366, [true, true, true, true]), (399, [true, true, true, true]), (452, [true, true, true, true]), (486, [true, true, true, true]), (519, [true, true, true, true]), (542, [true, true, true, true]), (566, [true, true, true, true]), (629, [true, true, true, true]), (642, [true, true, true, true]), (665, [true, true, true, true]), (699, [true, true, true, true]), (732, [true, true, true, true]), (755, [true, true, true, true]), (768, [true, true, true, true]), (791, [true, true, true, true]), (814, [true, true, true, true]), (837, [true, true, true, true]), (890, [true, true, true, true]), (943, [true, true, true, true]), (976, [true, true, true, true]), (1029, [true, true, true, true]), (1052, [true, true, true, true]), (1096, [true, true, true, true]), (1119, [true, true, true, true]), (1152, [true, true, true, true]), (1195, [true, true, true, true]), (1228, [true, true, true, true]), (1261, [true, true, true, true]), (1274, [true, true, true, true]), (1327, [true, true, true, true]), (1360, [true, true, true, true]), (1393, [true, true, true, true]), (1426, [true, true, true, true]), (1479, [true, true, true, true]), (1512, [true, true, true, true]), (1535, [true, true, true, true]), (1578, [true, true, true, true]), (1621, [true, true, true, true]), (1684, [true, true, true, true]), (1737, [true, true, true, true]), (1770, [true, true, true, true])] 57 _ _ _ _ h

set_option maxRecDepth 20000 in
/-- FrameCountyLaw law([I)Z, from 629 -/
theorem vc_301_629 {G : ab_G} {L : Nat} {xs : Nat → Int32} {l : Launch} {d : Nat} {i3 : Int32} {V : aa_V} {K : aa_K} (h :
    ab_E G (ac_ST L xs) l d ac_SK 149 [.ref 0] V (aa_rI (fun x1 V1 =>
      ab_E G (ac_ST L xs) l d ac_SK 223 [.ref 105] V1 (aa_rI (fun x2 V2 =>
        (x1 = x2 →
          ab_J G (ac_ST L xs) l (d + 1) 301 1770 [some (.ref 1000002), some (.ref 0), some (.ref 105), some (.int i3)] [] ac_SK V2 ac_SK K) ∧
        (¬ x1 = x2 →
          aa_bit (0 : Int32) ∧ K (some (.int (0 : Int32))) V2)))))) :
    ab_J G (ac_ST L xs) l (d + 1) 301 629 [some (.ref 1000002), some (.ref 0), some (.ref 105), some (.int i3)] [] ac_SK V ac_SK K := ab_wm cd_301_ok [(18, [true, true, true, true]), (224, [true, true, true, true]), (247, [true, true, true, true]), (290, [true, true, true, true]), (333, [true, true, true, true]), (366, [true, true, true, true]), (399, [true, true, true, true]), (452, [true, true, true, true]), (486, [true, true, true, true]), (519, [true, true, true, true]), (542, [true, true, true, true]), (566, [true, true, true, true]), (629, [true, true, true, true]), (642, [true, true, true, true]), (665, [true, true, true, true]), (699, [true, true, true, true]), (732, [true, true, true, true]), (755, [true, true, true, true]), (768, [true, true, true, true]), (791, [true, true, true, true]), (814, [true, true, true, true]), (837, [true, true, true, true]), (890, [true, true, true, true]), (943, [true, true, true, true]), (976, [true, true, true, true]), (1029, [true, true, true, true]), (1052, [true, true, true, true]), (1096, [true, true, true, true]), (1119, [true, true, true, true]), (1152, [true, true, true, true]), (1195, [true, true, true, true]), (1228, [true, true, true, true]), (1261, [true, true, true, true]), (1274, [true, true, true, true]), (1327, [true, true, true, true]), (1360, [true, true, true, true]), (1393, [true, true, true, true]), (1426, [true, true, true, true]), (1479, [true, true, true, true]), (1512, [true, true, true, true]), (1535, [true, true, true, true]), (1578, [true, true, true, true]), (1621, [true, true, true, true]), (1684, [true, true, true, true]), (1737, [true, true, true, true]), (1770, [true, true, true, true])] 13 _ _ _ _ h

set_option maxRecDepth 20000 in
/-- FrameCountyLaw law([I)Z, from 642 -/
theorem vc_301_642 {G : ab_G} {L : Nat} {xs : Nat → Int32} {l : Launch} {d : Nat} {i3 : Int32} {V : aa_V} {K : aa_K} (h :
    vp_in (i3 + (1 : Int32)) (ac_ST L xs 2).2.1 ∧
    ab_E G (ac_ST L xs) l d ac_SK 150 [.ref 0, .int ((ac_ST L xs 2).2.2 ((i3 + (1 : Int32))).toNatClampNeg)] V (aa_rI (fun x1 V1 =>
      vp_in (i3 + (1 : Int32)) (ac_ST L xs 2).2.1 ∧
      ab_E G (ac_ST L xs) l d ac_SK 224 [.ref 105, .int ((ac_ST L xs 2).2.2 ((i3 + (1 : Int32))).toNatClampNeg)] V1 (aa_rI (fun x2 V2 =>
        (x1 = x2 →
          ab_J G (ac_ST L xs) l (d + 1) 301 1770 [some (.ref 1000002), some (.ref 0), some (.ref 105), some (.int i3)] [] ac_SK V2 ac_SK K) ∧
        (¬ x1 = x2 →
          aa_bit (0 : Int32) ∧ K (some (.int (0 : Int32))) V2)))))) :
    ab_J G (ac_ST L xs) l (d + 1) 301 642 [some (.ref 1000002), some (.ref 0), some (.ref 105), some (.int i3)] [] ac_SK V ac_SK K := ab_wm cd_301_ok [(18, [true, true, true, true]), (224, [true, true, true, true]), (247, [true, true, true, true]), (290, [true, true, true, true]), (333, [true, true, true, true]), (366, [true, true, true, true]), (399, [true, true, true, true]), (452, [true, true, true, true]), (486, [true, true, true, true]), (519, [true, true, true, true]), (542, [true, true, true, true]), (566, [true, true, true, true]), (629, [true, true, true, true]), (642, [true, true, true, true]), (665, [true, true, true, true]), (699, [true, true, true, true]), (732, [true, true, true, true]), (755, [true, true, true, true]), (768, [true, true, true, true]), (791, [true, true, true, true]), (814, [true, true, true, true]), (837, [true, true, true, true]), (890, [true, true, true, true]), (943, [true, true, true, true]), (976, [true, true, true, true]), (1029, [true, true, true, true]), (1052, [true, true, true, true]), (1096, [true, true, true, true]), (1119, [true, true, true, true]), (1152, [true, true, true, true]), (1195, [true, true, true, true]), (1228, [true, true, true, true]), (1261, [true, true, true, true]), (1274, [true, true, true, true]), (1327, [true, true, true, true]), (1360, [true, true, true, true]), (1393, [true, true, true, true]), (1426, [true, true, true, true]), (1479, [true, true, true, true]), (1512, [true, true, true, true]), (1535, [true, true, true, true]), (1578, [true, true, true, true]), (1621, [true, true, true, true]), (1684, [true, true, true, true]), (1737, [true, true, true, true]), (1770, [true, true, true, true])] 23 _ _ _ _ h

set_option maxRecDepth 20000 in
/-- FrameCountyLaw law([I)Z, from 665 -/
theorem vc_301_665 {G : ab_G} {L : Nat} {xs : Nat → Int32} {l : Launch} {d : Nat} {i3 : Int32} {V : aa_V} {K : aa_K} (h :
    vp_in (i3 + (1 : Int32)) (ac_ST L xs 2).2.1 ∧
    vp_in (i3 + (2 : Int32)) (ac_ST L xs 2).2.1 ∧
    ab_E G (ac_ST L xs) l d ac_SK 151 [.ref 0, .int ((ac_ST L xs 2).2.2 ((i3 + (1 : Int32))).toNatClampNeg), .int ((ac_ST L xs 2).2.2 ((i3 + (2 : Int32))).toNatClampNeg)] V (aa_rL (fun x1 V1 =>
      vp_in (i3 + (1 : Int32)) (ac_ST L xs 2).2.1 ∧
      vp_in (i3 + (2 : Int32)) (ac_ST L xs 2).2.1 ∧
      ab_E G (ac_ST L xs) l d ac_SK 228 [.ref 105, .int ((ac_ST L xs 2).2.2 ((i3 + (1 : Int32))).toNatClampNeg), .int ((ac_ST L xs 2).2.2 ((i3 + (2 : Int32))).toNatClampNeg)] V1 (aa_rL (fun x2 V2 =>
        ((lg_cmp x1 x2) = 0 →
          ab_J G (ac_ST L xs) l (d + 1) 301 1770 [some (.ref 1000002), some (.ref 0), some (.ref 105), some (.int i3)] [] ac_SK V2 ac_SK K) ∧
        (¬ (lg_cmp x1 x2) = 0 →
          aa_bit (0 : Int32) ∧ K (some (.int (0 : Int32))) V2)))))) :
    ab_J G (ac_ST L xs) l (d + 1) 301 665 [some (.ref 1000002), some (.ref 0), some (.ref 105), some (.int i3)] [] ac_SK V ac_SK K := ab_wm cd_301_ok [(18, [true, true, true, true]), (224, [true, true, true, true]), (247, [true, true, true, true]), (290, [true, true, true, true]), (333, [true, true, true, true]), (366, [true, true, true, true]), (399, [true, true, true, true]), (452, [true, true, true, true]), (486, [true, true, true, true]), (519, [true, true, true, true]), (542, [true, true, true, true]), (566, [true, true, true, true]), (629, [true, true, true, true]), (642, [true, true, true, true]), (665, [true, true, true, true]), (699, [true, true, true, true]), (732, [true, true, true, true]), (755, [true, true, true, true]), (768, [true, true, true, true]), (791, [true, true, true, true]), (814, [true, true, true, true]), (837, [true, true, true, true]), (890, [true, true, true, true]), (943, [true, true, true, true]), (976, [true, true, true, true]), (1029, [true, true, true, true]), (1052, [true, true, true, true]), (1096, [true, true, true, true]), (1119, [true, true, true, true]), (1152, [true, true, true, true]), (1195, [true, true, true, true]), (1228, [true, true, true, true]), (1261, [true, true, true, true]), (1274, [true, true, true, true]), (1327, [true, true, true, true]), (1360, [true, true, true, true]), (1393, [true, true, true, true]), (1426, [true, true, true, true]), (1479, [true, true, true, true]), (1512, [true, true, true, true]), (1535, [true, true, true, true]), (1578, [true, true, true, true]), (1621, [true, true, true, true]), (1684, [true, true, true, true]), (1737, [true, true, true, true]), (1770, [true, true, true, true])] 34 _ _ _ _ h

set_option maxRecDepth 20000 in
/-- FrameCountyLaw law([I)Z, from 699 -/
theorem vc_301_699 {G : ab_G} {L : Nat} {xs : Nat → Int32} {l : Launch} {d : Nat} {i3 : Int32} {V : aa_V} {K : aa_K} (h :
    vp_in (i3 + (1 : Int32)) (ac_ST L xs 2).2.1 ∧
    vp_in (i3 + (2 : Int32)) (ac_ST L xs 2).2.1 ∧
    ab_E G (ac_ST L xs) l d ac_SK 152 [.ref 0, .int ((ac_ST L xs 2).2.2 ((i3 + (1 : Int32))).toNatClampNeg), .int ((ac_ST L xs 2).2.2 ((i3 + (2 : Int32))).toNatClampNeg)] V (aa_rI (fun x1 V1 =>
      vp_in (i3 + (1 : Int32)) (ac_ST L xs 2).2.1 ∧
      vp_in (i3 + (2 : Int32)) (ac_ST L xs 2).2.1 ∧
      ab_E G (ac_ST L xs) l d ac_SK 229 [.ref 105, .int ((ac_ST L xs 2).2.2 ((i3 + (1 : Int32))).toNatClampNeg), .int ((ac_ST L xs 2).2.2 ((i3 + (2 : Int32))).toNatClampNeg)] V1 (aa_rI (fun x2 V2 =>
        (x1 = x2 →
          ab_J G (ac_ST L xs) l (d + 1) 301 1770 [some (.ref 1000002), some (.ref 0), some (.ref 105), some (.int i3)] [] ac_SK V2 ac_SK K) ∧
        (¬ x1 = x2 →
          aa_bit (0 : Int32) ∧ K (some (.int (0 : Int32))) V2)))))) :
    ab_J G (ac_ST L xs) l (d + 1) 301 699 [some (.ref 1000002), some (.ref 0), some (.ref 105), some (.int i3)] [] ac_SK V ac_SK K := ab_wm cd_301_ok [(18, [true, true, true, true]), (224, [true, true, true, true]), (247, [true, true, true, true]), (290, [true, true, true, true]), (333, [true, true, true, true]), (366, [true, true, true, true]), (399, [true, true, true, true]), (452, [true, true, true, true]), (486, [true, true, true, true]), (519, [true, true, true, true]), (542, [true, true, true, true]), (566, [true, true, true, true]), (629, [true, true, true, true]), (642, [true, true, true, true]), (665, [true, true, true, true]), (699, [true, true, true, true]), (732, [true, true, true, true]), (755, [true, true, true, true]), (768, [true, true, true, true]), (791, [true, true, true, true]), (814, [true, true, true, true]), (837, [true, true, true, true]), (890, [true, true, true, true]), (943, [true, true, true, true]), (976, [true, true, true, true]), (1029, [true, true, true, true]), (1052, [true, true, true, true]), (1096, [true, true, true, true]), (1119, [true, true, true, true]), (1152, [true, true, true, true]), (1195, [true, true, true, true]), (1228, [true, true, true, true]), (1261, [true, true, true, true]), (1274, [true, true, true, true]), (1327, [true, true, true, true]), (1360, [true, true, true, true]), (1393, [true, true, true, true]), (1426, [true, true, true, true]), (1479, [true, true, true, true]), (1512, [true, true, true, true]), (1535, [true, true, true, true]), (1578, [true, true, true, true]), (1621, [true, true, true, true]), (1684, [true, true, true, true]), (1737, [true, true, true, true]), (1770, [true, true, true, true])] 33 _ _ _ _ h

set_option maxRecDepth 20000 in
/-- FrameCountyLaw law([I)Z, from 732 -/
theorem vc_301_732 {G : ab_G} {L : Nat} {xs : Nat → Int32} {l : Launch} {d : Nat} {i3 : Int32} {V : aa_V} {K : aa_K} (h :
    vp_in (i3 + (1 : Int32)) (ac_ST L xs 2).2.1 ∧
    ab_E G (ac_ST L xs) l d ac_SK 153 [.ref 0, .int ((ac_ST L xs 2).2.2 ((i3 + (1 : Int32))).toNatClampNeg)] V (aa_rI (fun x1 V1 =>
      vp_in (i3 + (1 : Int32)) (ac_ST L xs 2).2.1 ∧
      ab_E G (ac_ST L xs) l d ac_SK 234 [.ref 105, .int ((ac_ST L xs 2).2.2 ((i3 + (1 : Int32))).toNatClampNeg)] V1 (aa_rI (fun x2 V2 =>
        (x1 = x2 →
          ab_J G (ac_ST L xs) l (d + 1) 301 1770 [some (.ref 1000002), some (.ref 0), some (.ref 105), some (.int i3)] [] ac_SK V2 ac_SK K) ∧
        (¬ x1 = x2 →
          aa_bit (0 : Int32) ∧ K (some (.int (0 : Int32))) V2)))))) :
    ab_J G (ac_ST L xs) l (d + 1) 301 732 [some (.ref 1000002), some (.ref 0), some (.ref 105), some (.int i3)] [] ac_SK V ac_SK K := ab_wm cd_301_ok [(18, [true, true, true, true]), (224, [true, true, true, true]), (247, [true, true, true, true]), (290, [true, true, true, true]), (333, [true, true, true, true]), (366, [true, true, true, true]), (399, [true, true, true, true]), (452, [true, true, true, true]), (486, [true, true, true, true]), (519, [true, true, true, true]), (542, [true, true, true, true]), (566, [true, true, true, true]), (629, [true, true, true, true]), (642, [true, true, true, true]), (665, [true, true, true, true]), (699, [true, true, true, true]), (732, [true, true, true, true]), (755, [true, true, true, true]), (768, [true, true, true, true]), (791, [true, true, true, true]), (814, [true, true, true, true]), (837, [true, true, true, true]), (890, [true, true, true, true]), (943, [true, true, true, true]), (976, [true, true, true, true]), (1029, [true, true, true, true]), (1052, [true, true, true, true]), (1096, [true, true, true, true]), (1119, [true, true, true, true]), (1152, [true, true, true, true]), (1195, [true, true, true, true]), (1228, [true, true, true, true]), (1261, [true, true, true, true]), (1274, [true, true, true, true]), (1327, [true, true, true, true]), (1360, [true, true, true, true]), (1393, [true, true, true, true]), (1426, [true, true, true, true]), (1479, [true, true, true, true]), (1512, [true, true, true, true]), (1535, [true, true, true, true]), (1578, [true, true, true, true]), (1621, [true, true, true, true]), (1684, [true, true, true, true]), (1737, [true, true, true, true]), (1770, [true, true, true, true])] 23 _ _ _ _ h

set_option maxRecDepth 20000 in
/-- FrameCountyLaw law([I)Z, from 755 -/
theorem vc_301_755 {G : ab_G} {L : Nat} {xs : Nat → Int32} {l : Launch} {d : Nat} {i3 : Int32} {V : aa_V} {K : aa_K} (h :
    ab_E G (ac_ST L xs) l d ac_SK 154 [.ref 0] V (aa_rI (fun x1 V1 =>
      ab_E G (ac_ST L xs) l d ac_SK 237 [.ref 105] V1 (aa_rI (fun x2 V2 =>
        (x1 = x2 →
          ab_J G (ac_ST L xs) l (d + 1) 301 1770 [some (.ref 1000002), some (.ref 0), some (.ref 105), some (.int i3)] [] ac_SK V2 ac_SK K) ∧
        (¬ x1 = x2 →
          aa_bit (0 : Int32) ∧ K (some (.int (0 : Int32))) V2)))))) :
    ab_J G (ac_ST L xs) l (d + 1) 301 755 [some (.ref 1000002), some (.ref 0), some (.ref 105), some (.int i3)] [] ac_SK V ac_SK K := ab_wm cd_301_ok [(18, [true, true, true, true]), (224, [true, true, true, true]), (247, [true, true, true, true]), (290, [true, true, true, true]), (333, [true, true, true, true]), (366, [true, true, true, true]), (399, [true, true, true, true]), (452, [true, true, true, true]), (486, [true, true, true, true]), (519, [true, true, true, true]), (542, [true, true, true, true]), (566, [true, true, true, true]), (629, [true, true, true, true]), (642, [true, true, true, true]), (665, [true, true, true, true]), (699, [true, true, true, true]), (732, [true, true, true, true]), (755, [true, true, true, true]), (768, [true, true, true, true]), (791, [true, true, true, true]), (814, [true, true, true, true]), (837, [true, true, true, true]), (890, [true, true, true, true]), (943, [true, true, true, true]), (976, [true, true, true, true]), (1029, [true, true, true, true]), (1052, [true, true, true, true]), (1096, [true, true, true, true]), (1119, [true, true, true, true]), (1152, [true, true, true, true]), (1195, [true, true, true, true]), (1228, [true, true, true, true]), (1261, [true, true, true, true]), (1274, [true, true, true, true]), (1327, [true, true, true, true]), (1360, [true, true, true, true]), (1393, [true, true, true, true]), (1426, [true, true, true, true]), (1479, [true, true, true, true]), (1512, [true, true, true, true]), (1535, [true, true, true, true]), (1578, [true, true, true, true]), (1621, [true, true, true, true]), (1684, [true, true, true, true]), (1737, [true, true, true, true]), (1770, [true, true, true, true])] 13 _ _ _ _ h

set_option maxRecDepth 20000 in
/-- FrameCountyLaw law([I)Z, from 768 -/
theorem vc_301_768 {G : ab_G} {L : Nat} {xs : Nat → Int32} {l : Launch} {d : Nat} {i3 : Int32} {V : aa_V} {K : aa_K} (h :
    vp_in (i3 + (1 : Int32)) (ac_ST L xs 2).2.1 ∧
    ab_E G (ac_ST L xs) l d ac_SK 155 [.ref 0, .int ((ac_ST L xs 2).2.2 ((i3 + (1 : Int32))).toNatClampNeg)] V (aa_rI (fun x1 V1 =>
      vp_in (i3 + (1 : Int32)) (ac_ST L xs 2).2.1 ∧
      ab_E G (ac_ST L xs) l d ac_SK 238 [.ref 105, .int ((ac_ST L xs 2).2.2 ((i3 + (1 : Int32))).toNatClampNeg)] V1 (aa_rI (fun x2 V2 =>
        (x1 = x2 →
          ab_J G (ac_ST L xs) l (d + 1) 301 1770 [some (.ref 1000002), some (.ref 0), some (.ref 105), some (.int i3)] [] ac_SK V2 ac_SK K) ∧
        (¬ x1 = x2 →
          aa_bit (0 : Int32) ∧ K (some (.int (0 : Int32))) V2)))))) :
    ab_J G (ac_ST L xs) l (d + 1) 301 768 [some (.ref 1000002), some (.ref 0), some (.ref 105), some (.int i3)] [] ac_SK V ac_SK K := ab_wm cd_301_ok [(18, [true, true, true, true]), (224, [true, true, true, true]), (247, [true, true, true, true]), (290, [true, true, true, true]), (333, [true, true, true, true]), (366, [true, true, true, true]), (399, [true, true, true, true]), (452, [true, true, true, true]), (486, [true, true, true, true]), (519, [true, true, true, true]), (542, [true, true, true, true]), (566, [true, true, true, true]), (629, [true, true, true, true]), (642, [true, true, true, true]), (665, [true, true, true, true]), (699, [true, true, true, true]), (732, [true, true, true, true]), (755, [true, true, true, true]), (768, [true, true, true, true]), (791, [true, true, true, true]), (814, [true, true, true, true]), (837, [true, true, true, true]), (890, [true, true, true, true]), (943, [true, true, true, true]), (976, [true, true, true, true]), (1029, [true, true, true, true]), (1052, [true, true, true, true]), (1096, [true, true, true, true]), (1119, [true, true, true, true]), (1152, [true, true, true, true]), (1195, [true, true, true, true]), (1228, [true, true, true, true]), (1261, [true, true, true, true]), (1274, [true, true, true, true]), (1327, [true, true, true, true]), (1360, [true, true, true, true]), (1393, [true, true, true, true]), (1426, [true, true, true, true]), (1479, [true, true, true, true]), (1512, [true, true, true, true]), (1535, [true, true, true, true]), (1578, [true, true, true, true]), (1621, [true, true, true, true]), (1684, [true, true, true, true]), (1737, [true, true, true, true]), (1770, [true, true, true, true])] 23 _ _ _ _ h

set_option maxRecDepth 20000 in
/-- FrameCountyLaw law([I)Z, from 791 -/
theorem vc_301_791 {G : ab_G} {L : Nat} {xs : Nat → Int32} {l : Launch} {d : Nat} {i3 : Int32} {V : aa_V} {K : aa_K} (h :
    vp_in (i3 + (1 : Int32)) (ac_ST L xs 2).2.1 ∧
    ab_E G (ac_ST L xs) l d ac_SK 156 [.ref 0, .int ((ac_ST L xs 2).2.2 ((i3 + (1 : Int32))).toNatClampNeg)] V (aa_rI (fun x1 V1 =>
      vp_in (i3 + (1 : Int32)) (ac_ST L xs 2).2.1 ∧
      ab_E G (ac_ST L xs) l d ac_SK 239 [.ref 105, .int ((ac_ST L xs 2).2.2 ((i3 + (1 : Int32))).toNatClampNeg)] V1 (aa_rI (fun x2 V2 =>
        (x1 = x2 →
          ab_J G (ac_ST L xs) l (d + 1) 301 1770 [some (.ref 1000002), some (.ref 0), some (.ref 105), some (.int i3)] [] ac_SK V2 ac_SK K) ∧
        (¬ x1 = x2 →
          aa_bit (0 : Int32) ∧ K (some (.int (0 : Int32))) V2)))))) :
    ab_J G (ac_ST L xs) l (d + 1) 301 791 [some (.ref 1000002), some (.ref 0), some (.ref 105), some (.int i3)] [] ac_SK V ac_SK K := ab_wm cd_301_ok [(18, [true, true, true, true]), (224, [true, true, true, true]), (247, [true, true, true, true]), (290, [true, true, true, true]), (333, [true, true, true, true]), (366, [true, true, true, true]), (399, [true, true, true, true]), (452, [true, true, true, true]), (486, [true, true, true, true]), (519, [true, true, true, true]), (542, [true, true, true, true]), (566, [true, true, true, true]), (629, [true, true, true, true]), (642, [true, true, true, true]), (665, [true, true, true, true]), (699, [true, true, true, true]), (732, [true, true, true, true]), (755, [true, true, true, true]), (768, [true, true, true, true]), (791, [true, true, true, true]), (814, [true, true, true, true]), (837, [true, true, true, true]), (890, [true, true, true, true]), (943, [true, true, true, true]), (976, [true, true, true, true]), (1029, [true, true, true, true]), (1052, [true, true, true, true]), (1096, [true, true, true, true]), (1119, [true, true, true, true]), (1152, [true, true, true, true]), (1195, [true, true, true, true]), (1228, [true, true, true, true]), (1261, [true, true, true, true]), (1274, [true, true, true, true]), (1327, [true, true, true, true]), (1360, [true, true, true, true]), (1393, [true, true, true, true]), (1426, [true, true, true, true]), (1479, [true, true, true, true]), (1512, [true, true, true, true]), (1535, [true, true, true, true]), (1578, [true, true, true, true]), (1621, [true, true, true, true]), (1684, [true, true, true, true]), (1737, [true, true, true, true]), (1770, [true, true, true, true])] 23 _ _ _ _ h

set_option maxRecDepth 20000 in
/-- FrameCountyLaw law([I)Z, from 814 -/
theorem vc_301_814 {G : ab_G} {L : Nat} {xs : Nat → Int32} {l : Launch} {d : Nat} {i3 : Int32} {V : aa_V} {K : aa_K} (h :
    vp_in (i3 + (1 : Int32)) (ac_ST L xs 2).2.1 ∧
    ab_E G (ac_ST L xs) l d ac_SK 157 [.ref 0, .int ((ac_ST L xs 2).2.2 ((i3 + (1 : Int32))).toNatClampNeg)] V (aa_rI (fun x1 V1 =>
      vp_in (i3 + (1 : Int32)) (ac_ST L xs 2).2.1 ∧
      ab_E G (ac_ST L xs) l d ac_SK 241 [.ref 105, .int ((ac_ST L xs 2).2.2 ((i3 + (1 : Int32))).toNatClampNeg)] V1 (aa_rI (fun x2 V2 =>
        (x1 = x2 →
          ab_J G (ac_ST L xs) l (d + 1) 301 1770 [some (.ref 1000002), some (.ref 0), some (.ref 105), some (.int i3)] [] ac_SK V2 ac_SK K) ∧
        (¬ x1 = x2 →
          aa_bit (0 : Int32) ∧ K (some (.int (0 : Int32))) V2)))))) :
    ab_J G (ac_ST L xs) l (d + 1) 301 814 [some (.ref 1000002), some (.ref 0), some (.ref 105), some (.int i3)] [] ac_SK V ac_SK K := ab_wm cd_301_ok [(18, [true, true, true, true]), (224, [true, true, true, true]), (247, [true, true, true, true]), (290, [true, true, true, true]), (333, [true, true, true, true]), (366, [true, true, true, true]), (399, [true, true, true, true]), (452, [true, true, true, true]), (486, [true, true, true, true]), (519, [true, true, true, true]), (542, [true, true, true, true]), (566, [true, true, true, true]), (629, [true, true, true, true]), (642, [true, true, true, true]), (665, [true, true, true, true]), (699, [true, true, true, true]), (732, [true, true, true, true]), (755, [true, true, true, true]), (768, [true, true, true, true]), (791, [true, true, true, true]), (814, [true, true, true, true]), (837, [true, true, true, true]), (890, [true, true, true, true]), (943, [true, true, true, true]), (976, [true, true, true, true]), (1029, [true, true, true, true]), (1052, [true, true, true, true]), (1096, [true, true, true, true]), (1119, [true, true, true, true]), (1152, [true, true, true, true]), (1195, [true, true, true, true]), (1228, [true, true, true, true]), (1261, [true, true, true, true]), (1274, [true, true, true, true]), (1327, [true, true, true, true]), (1360, [true, true, true, true]), (1393, [true, true, true, true]), (1426, [true, true, true, true]), (1479, [true, true, true, true]), (1512, [true, true, true, true]), (1535, [true, true, true, true]), (1578, [true, true, true, true]), (1621, [true, true, true, true]), (1684, [true, true, true, true]), (1737, [true, true, true, true]), (1770, [true, true, true, true])] 23 _ _ _ _ h

set_option maxRecDepth 20000 in
/-- FrameCountyLaw law([I)Z, from 837 -/
theorem vc_301_837 {G : ab_G} {L : Nat} {xs : Nat → Int32} {l : Launch} {d : Nat} {i3 : Int32} {V : aa_V} {K : aa_K} (h :
    vp_in (i3 + (1 : Int32)) (ac_ST L xs 2).2.1 ∧
    vp_in (i3 + (2 : Int32)) (ac_ST L xs 2).2.1 ∧
    vp_in (i3 + (3 : Int32)) (ac_ST L xs 2).2.1 ∧
    vp_in (i3 + (4 : Int32)) (ac_ST L xs 2).2.1 ∧
    ab_E G (ac_ST L xs) l d ac_SK 158 [.ref 0, .int ((ac_ST L xs 2).2.2 ((i3 + (1 : Int32))).toNatClampNeg), .int ((ac_ST L xs 2).2.2 ((i3 + (2 : Int32))).toNatClampNeg), .int ((ac_ST L xs 2).2.2 ((i3 + (3 : Int32))).toNatClampNeg), .int ((ac_ST L xs 2).2.2 ((i3 + (4 : Int32))).toNatClampNeg)] V (aa_rI (fun x1 V1 =>
      vp_in (i3 + (1 : Int32)) (ac_ST L xs 2).2.1 ∧
      vp_in (i3 + (2 : Int32)) (ac_ST L xs 2).2.1 ∧
      vp_in (i3 + (3 : Int32)) (ac_ST L xs 2).2.1 ∧
      vp_in (i3 + (4 : Int32)) (ac_ST L xs 2).2.1 ∧
      ab_E G (ac_ST L xs) l d ac_SK 242 [.ref 105, .int ((ac_ST L xs 2).2.2 ((i3 + (1 : Int32))).toNatClampNeg), .int ((ac_ST L xs 2).2.2 ((i3 + (2 : Int32))).toNatClampNeg), .int ((ac_ST L xs 2).2.2 ((i3 + (3 : Int32))).toNatClampNeg), .int ((ac_ST L xs 2).2.2 ((i3 + (4 : Int32))).toNatClampNeg)] V1 (aa_rI (fun x2 V2 =>
        (x1 = x2 →
          ab_J G (ac_ST L xs) l (d + 1) 301 1770 [some (.ref 1000002), some (.ref 0), some (.ref 105), some (.int i3)] [] ac_SK V2 ac_SK K) ∧
        (¬ x1 = x2 →
          aa_bit (0 : Int32) ∧ K (some (.int (0 : Int32))) V2)))))) :
    ab_J G (ac_ST L xs) l (d + 1) 301 837 [some (.ref 1000002), some (.ref 0), some (.ref 105), some (.int i3)] [] ac_SK V ac_SK K := ab_wm cd_301_ok [(18, [true, true, true, true]), (224, [true, true, true, true]), (247, [true, true, true, true]), (290, [true, true, true, true]), (333, [true, true, true, true]), (366, [true, true, true, true]), (399, [true, true, true, true]), (452, [true, true, true, true]), (486, [true, true, true, true]), (519, [true, true, true, true]), (542, [true, true, true, true]), (566, [true, true, true, true]), (629, [true, true, true, true]), (642, [true, true, true, true]), (665, [true, true, true, true]), (699, [true, true, true, true]), (732, [true, true, true, true]), (755, [true, true, true, true]), (768, [true, true, true, true]), (791, [true, true, true, true]), (814, [true, true, true, true]), (837, [true, true, true, true]), (890, [true, true, true, true]), (943, [true, true, true, true]), (976, [true, true, true, true]), (1029, [true, true, true, true]), (1052, [true, true, true, true]), (1096, [true, true, true, true]), (1119, [true, true, true, true]), (1152, [true, true, true, true]), (1195, [true, true, true, true]), (1228, [true, true, true, true]), (1261, [true, true, true, true]), (1274, [true, true, true, true]), (1327, [true, true, true, true]), (1360, [true, true, true, true]), (1393, [true, true, true, true]), (1426, [true, true, true, true]), (1479, [true, true, true, true]), (1512, [true, true, true, true]), (1535, [true, true, true, true]), (1578, [true, true, true, true]), (1621, [true, true, true, true]), (1684, [true, true, true, true]), (1737, [true, true, true, true]), (1770, [true, true, true, true])] 53 _ _ _ _ h

set_option maxRecDepth 20000 in
/-- FrameCountyLaw law([I)Z, from 890 -/
theorem vc_301_890 {G : ab_G} {L : Nat} {xs : Nat → Int32} {l : Launch} {d : Nat} {i3 : Int32} {V : aa_V} {K : aa_K} (h :
    vp_in (i3 + (1 : Int32)) (ac_ST L xs 2).2.1 ∧
    vp_in (i3 + (2 : Int32)) (ac_ST L xs 2).2.1 ∧
    vp_in (i3 + (3 : Int32)) (ac_ST L xs 2).2.1 ∧
    vp_in (i3 + (4 : Int32)) (ac_ST L xs 2).2.1 ∧
    ab_E G (ac_ST L xs) l d ac_SK 159 [.ref 0, .int ((ac_ST L xs 2).2.2 ((i3 + (1 : Int32))).toNatClampNeg), .int ((ac_ST L xs 2).2.2 ((i3 + (2 : Int32))).toNatClampNeg), .int ((ac_ST L xs 2).2.2 ((i3 + (3 : Int32))).toNatClampNeg), .int ((ac_ST L xs 2).2.2 ((i3 + (4 : Int32))).toNatClampNeg)] V (aa_rI (fun x1 V1 =>
      vp_in (i3 + (1 : Int32)) (ac_ST L xs 2).2.1 ∧
      vp_in (i3 + (2 : Int32)) (ac_ST L xs 2).2.1 ∧
      vp_in (i3 + (3 : Int32)) (ac_ST L xs 2).2.1 ∧
      vp_in (i3 + (4 : Int32)) (ac_ST L xs 2).2.1 ∧
      ab_E G (ac_ST L xs) l d ac_SK 246 [.ref 105, .int ((ac_ST L xs 2).2.2 ((i3 + (1 : Int32))).toNatClampNeg), .int ((ac_ST L xs 2).2.2 ((i3 + (2 : Int32))).toNatClampNeg), .int ((ac_ST L xs 2).2.2 ((i3 + (3 : Int32))).toNatClampNeg), .int ((ac_ST L xs 2).2.2 ((i3 + (4 : Int32))).toNatClampNeg)] V1 (aa_rI (fun x2 V2 =>
        (x1 = x2 →
          ab_J G (ac_ST L xs) l (d + 1) 301 1770 [some (.ref 1000002), some (.ref 0), some (.ref 105), some (.int i3)] [] ac_SK V2 ac_SK K) ∧
        (¬ x1 = x2 →
          aa_bit (0 : Int32) ∧ K (some (.int (0 : Int32))) V2)))))) :
    ab_J G (ac_ST L xs) l (d + 1) 301 890 [some (.ref 1000002), some (.ref 0), some (.ref 105), some (.int i3)] [] ac_SK V ac_SK K := ab_wm cd_301_ok [(18, [true, true, true, true]), (224, [true, true, true, true]), (247, [true, true, true, true]), (290, [true, true, true, true]), (333, [true, true, true, true]), (366, [true, true, true, true]), (399, [true, true, true, true]), (452, [true, true, true, true]), (486, [true, true, true, true]), (519, [true, true, true, true]), (542, [true, true, true, true]), (566, [true, true, true, true]), (629, [true, true, true, true]), (642, [true, true, true, true]), (665, [true, true, true, true]), (699, [true, true, true, true]), (732, [true, true, true, true]), (755, [true, true, true, true]), (768, [true, true, true, true]), (791, [true, true, true, true]), (814, [true, true, true, true]), (837, [true, true, true, true]), (890, [true, true, true, true]), (943, [true, true, true, true]), (976, [true, true, true, true]), (1029, [true, true, true, true]), (1052, [true, true, true, true]), (1096, [true, true, true, true]), (1119, [true, true, true, true]), (1152, [true, true, true, true]), (1195, [true, true, true, true]), (1228, [true, true, true, true]), (1261, [true, true, true, true]), (1274, [true, true, true, true]), (1327, [true, true, true, true]), (1360, [true, true, true, true]), (1393, [true, true, true, true]), (1426, [true, true, true, true]), (1479, [true, true, true, true]), (1512, [true, true, true, true]), (1535, [true, true, true, true]), (1578, [true, true, true, true]), (1621, [true, true, true, true]), (1684, [true, true, true, true]), (1737, [true, true, true, true]), (1770, [true, true, true, true])] 53 _ _ _ _ h

set_option maxRecDepth 20000 in
/-- FrameCountyLaw law([I)Z, from 943 -/
theorem vc_301_943 {G : ab_G} {L : Nat} {xs : Nat → Int32} {l : Launch} {d : Nat} {i3 : Int32} {V : aa_V} {K : aa_K} (h :
    vp_in (i3 + (1 : Int32)) (ac_ST L xs 2).2.1 ∧
    vp_in (i3 + (2 : Int32)) (ac_ST L xs 2).2.1 ∧
    ab_E G (ac_ST L xs) l d ac_SK 160 [.ref 0, .int ((ac_ST L xs 2).2.2 ((i3 + (1 : Int32))).toNatClampNeg), .int ((ac_ST L xs 2).2.2 ((i3 + (2 : Int32))).toNatClampNeg)] V (aa_rI (fun x1 V1 =>
      vp_in (i3 + (1 : Int32)) (ac_ST L xs 2).2.1 ∧
      vp_in (i3 + (2 : Int32)) (ac_ST L xs 2).2.1 ∧
      ab_E G (ac_ST L xs) l d ac_SK 248 [.ref 105, .int ((ac_ST L xs 2).2.2 ((i3 + (1 : Int32))).toNatClampNeg), .int ((ac_ST L xs 2).2.2 ((i3 + (2 : Int32))).toNatClampNeg)] V1 (aa_rI (fun x2 V2 =>
        (x1 = x2 →
          ab_J G (ac_ST L xs) l (d + 1) 301 1770 [some (.ref 1000002), some (.ref 0), some (.ref 105), some (.int i3)] [] ac_SK V2 ac_SK K) ∧
        (¬ x1 = x2 →
          aa_bit (0 : Int32) ∧ K (some (.int (0 : Int32))) V2)))))) :
    ab_J G (ac_ST L xs) l (d + 1) 301 943 [some (.ref 1000002), some (.ref 0), some (.ref 105), some (.int i3)] [] ac_SK V ac_SK K := ab_wm cd_301_ok [(18, [true, true, true, true]), (224, [true, true, true, true]), (247, [true, true, true, true]), (290, [true, true, true, true]), (333, [true, true, true, true]), (366, [true, true, true, true]), (399, [true, true, true, true]), (452, [true, true, true, true]), (486, [true, true, true, true]), (519, [true, true, true, true]), (542, [true, true, true, true]), (566, [true, true, true, true]), (629, [true, true, true, true]), (642, [true, true, true, true]), (665, [true, true, true, true]), (699, [true, true, true, true]), (732, [true, true, true, true]), (755, [true, true, true, true]), (768, [true, true, true, true]), (791, [true, true, true, true]), (814, [true, true, true, true]), (837, [true, true, true, true]), (890, [true, true, true, true]), (943, [true, true, true, true]), (976, [true, true, true, true]), (1029, [true, true, true, true]), (1052, [true, true, true, true]), (1096, [true, true, true, true]), (1119, [true, true, true, true]), (1152, [true, true, true, true]), (1195, [true, true, true, true]), (1228, [true, true, true, true]), (1261, [true, true, true, true]), (1274, [true, true, true, true]), (1327, [true, true, true, true]), (1360, [true, true, true, true]), (1393, [true, true, true, true]), (1426, [true, true, true, true]), (1479, [true, true, true, true]), (1512, [true, true, true, true]), (1535, [true, true, true, true]), (1578, [true, true, true, true]), (1621, [true, true, true, true]), (1684, [true, true, true, true]), (1737, [true, true, true, true]), (1770, [true, true, true, true])] 33 _ _ _ _ h

set_option maxRecDepth 20000 in
/-- FrameCountyLaw law([I)Z, from 976 -/
theorem vc_301_976 {G : ab_G} {L : Nat} {xs : Nat → Int32} {l : Launch} {d : Nat} {i3 : Int32} {V : aa_V} {K : aa_K} (h :
    vp_in (i3 + (1 : Int32)) (ac_ST L xs 2).2.1 ∧
    vp_in (i3 + (2 : Int32)) (ac_ST L xs 2).2.1 ∧
    vp_in (i3 + (3 : Int32)) (ac_ST L xs 2).2.1 ∧
    vp_in (i3 + (4 : Int32)) (ac_ST L xs 2).2.1 ∧
    ab_E G (ac_ST L xs) l d ac_SK 161 [.ref 0, .int ((ac_ST L xs 2).2.2 ((i3 + (1 : Int32))).toNatClampNeg), .int ((ac_ST L xs 2).2.2 ((i3 + (2 : Int32))).toNatClampNeg), .int ((ac_ST L xs 2).2.2 ((i3 + (3 : Int32))).toNatClampNeg), .int ((ac_ST L xs 2).2.2 ((i3 + (4 : Int32))).toNatClampNeg)] V (aa_rI (fun x1 V1 =>
      vp_in (i3 + (1 : Int32)) (ac_ST L xs 2).2.1 ∧
      vp_in (i3 + (2 : Int32)) (ac_ST L xs 2).2.1 ∧
      vp_in (i3 + (3 : Int32)) (ac_ST L xs 2).2.1 ∧
      vp_in (i3 + (4 : Int32)) (ac_ST L xs 2).2.1 ∧
      ab_E G (ac_ST L xs) l d ac_SK 249 [.ref 105, .int ((ac_ST L xs 2).2.2 ((i3 + (1 : Int32))).toNatClampNeg), .int ((ac_ST L xs 2).2.2 ((i3 + (2 : Int32))).toNatClampNeg), .int ((ac_ST L xs 2).2.2 ((i3 + (3 : Int32))).toNatClampNeg), .int ((ac_ST L xs 2).2.2 ((i3 + (4 : Int32))).toNatClampNeg)] V1 (aa_rI (fun x2 V2 =>
        (x1 = x2 →
          ab_J G (ac_ST L xs) l (d + 1) 301 1770 [some (.ref 1000002), some (.ref 0), some (.ref 105), some (.int i3)] [] ac_SK V2 ac_SK K) ∧
        (¬ x1 = x2 →
          aa_bit (0 : Int32) ∧ K (some (.int (0 : Int32))) V2)))))) :
    ab_J G (ac_ST L xs) l (d + 1) 301 976 [some (.ref 1000002), some (.ref 0), some (.ref 105), some (.int i3)] [] ac_SK V ac_SK K := ab_wm cd_301_ok [(18, [true, true, true, true]), (224, [true, true, true, true]), (247, [true, true, true, true]), (290, [true, true, true, true]), (333, [true, true, true, true]), (366, [true, true, true, true]), (399, [true, true, true, true]), (452, [true, true, true, true]), (486, [true, true, true, true]), (519, [true, true, true, true]), (542, [true, true, true, true]), (566, [true, true, true, true]), (629, [true, true, true, true]), (642, [true, true, true, true]), (665, [true, true, true, true]), (699, [true, true, true, true]), (732, [true, true, true, true]), (755, [true, true, true, true]), (768, [true, true, true, true]), (791, [true, true, true, true]), (814, [true, true, true, true]), (837, [true, true, true, true]), (890, [true, true, true, true]), (943, [true, true, true, true]), (976, [true, true, true, true]), (1029, [true, true, true, true]), (1052, [true, true, true, true]), (1096, [true, true, true, true]), (1119, [true, true, true, true]), (1152, [true, true, true, true]), (1195, [true, true, true, true]), (1228, [true, true, true, true]), (1261, [true, true, true, true]), (1274, [true, true, true, true]), (1327, [true, true, true, true]), (1360, [true, true, true, true]), (1393, [true, true, true, true]), (1426, [true, true, true, true]), (1479, [true, true, true, true]), (1512, [true, true, true, true]), (1535, [true, true, true, true]), (1578, [true, true, true, true]), (1621, [true, true, true, true]), (1684, [true, true, true, true]), (1737, [true, true, true, true]), (1770, [true, true, true, true])] 53 _ _ _ _ h

set_option maxRecDepth 20000 in
/-- FrameCountyLaw law([I)Z, from 1029 -/
theorem vc_301_1029 {G : ab_G} {L : Nat} {xs : Nat → Int32} {l : Launch} {d : Nat} {i3 : Int32} {V : aa_V} {K : aa_K} (h :
    vp_in (i3 + (1 : Int32)) (ac_ST L xs 2).2.1 ∧
    ab_E G (ac_ST L xs) l d ac_SK 162 [.ref 0, .int ((ac_ST L xs 2).2.2 ((i3 + (1 : Int32))).toNatClampNeg)] V (aa_rI (fun x1 V1 =>
      vp_in (i3 + (1 : Int32)) (ac_ST L xs 2).2.1 ∧
      ab_E G (ac_ST L xs) l d ac_SK 251 [.ref 105, .int ((ac_ST L xs 2).2.2 ((i3 + (1 : Int32))).toNatClampNeg)] V1 (aa_rI (fun x2 V2 =>
        (x1 = x2 →
          ab_J G (ac_ST L xs) l (d + 1) 301 1770 [some (.ref 1000002), some (.ref 0), some (.ref 105), some (.int i3)] [] ac_SK V2 ac_SK K) ∧
        (¬ x1 = x2 →
          aa_bit (0 : Int32) ∧ K (some (.int (0 : Int32))) V2)))))) :
    ab_J G (ac_ST L xs) l (d + 1) 301 1029 [some (.ref 1000002), some (.ref 0), some (.ref 105), some (.int i3)] [] ac_SK V ac_SK K := ab_wm cd_301_ok [(18, [true, true, true, true]), (224, [true, true, true, true]), (247, [true, true, true, true]), (290, [true, true, true, true]), (333, [true, true, true, true]), (366, [true, true, true, true]), (399, [true, true, true, true]), (452, [true, true, true, true]), (486, [true, true, true, true]), (519, [true, true, true, true]), (542, [true, true, true, true]), (566, [true, true, true, true]), (629, [true, true, true, true]), (642, [true, true, true, true]), (665, [true, true, true, true]), (699, [true, true, true, true]), (732, [true, true, true, true]), (755, [true, true, true, true]), (768, [true, true, true, true]), (791, [true, true, true, true]), (814, [true, true, true, true]), (837, [true, true, true, true]), (890, [true, true, true, true]), (943, [true, true, true, true]), (976, [true, true, true, true]), (1029, [true, true, true, true]), (1052, [true, true, true, true]), (1096, [true, true, true, true]), (1119, [true, true, true, true]), (1152, [true, true, true, true]), (1195, [true, true, true, true]), (1228, [true, true, true, true]), (1261, [true, true, true, true]), (1274, [true, true, true, true]), (1327, [true, true, true, true]), (1360, [true, true, true, true]), (1393, [true, true, true, true]), (1426, [true, true, true, true]), (1479, [true, true, true, true]), (1512, [true, true, true, true]), (1535, [true, true, true, true]), (1578, [true, true, true, true]), (1621, [true, true, true, true]), (1684, [true, true, true, true]), (1737, [true, true, true, true]), (1770, [true, true, true, true])] 23 _ _ _ _ h

set_option maxRecDepth 20000 in
/-- FrameCountyLaw law([I)Z, from 1052 -/
theorem vc_301_1052 {G : ab_G} {L : Nat} {xs : Nat → Int32} {l : Launch} {d : Nat} {i3 : Int32} {V : aa_V} {K : aa_K} (h :
    vp_in (i3 + (1 : Int32)) (ac_ST L xs 2).2.1 ∧
    vp_in (i3 + (2 : Int32)) (ac_ST L xs 2).2.1 ∧
    vp_in (i3 + (3 : Int32)) (ac_ST L xs 2).2.1 ∧
    ab_E G (ac_ST L xs) l d ac_SK 163 [.ref 0, .int ((ac_ST L xs 2).2.2 ((i3 + (1 : Int32))).toNatClampNeg), .int ((ac_ST L xs 2).2.2 ((i3 + (2 : Int32))).toNatClampNeg), .int ((ac_ST L xs 2).2.2 ((i3 + (3 : Int32))).toNatClampNeg)] V (aa_rL (fun x1 V1 =>
      vp_in (i3 + (1 : Int32)) (ac_ST L xs 2).2.1 ∧
      vp_in (i3 + (2 : Int32)) (ac_ST L xs 2).2.1 ∧
      vp_in (i3 + (3 : Int32)) (ac_ST L xs 2).2.1 ∧
      ab_E G (ac_ST L xs) l d ac_SK 252 [.ref 105, .int ((ac_ST L xs 2).2.2 ((i3 + (1 : Int32))).toNatClampNeg), .int ((ac_ST L xs 2).2.2 ((i3 + (2 : Int32))).toNatClampNeg), .int ((ac_ST L xs 2).2.2 ((i3 + (3 : Int32))).toNatClampNeg)] V1 (aa_rL (fun x2 V2 =>
        ((lg_cmp x1 x2) = 0 →
          ab_J G (ac_ST L xs) l (d + 1) 301 1770 [some (.ref 1000002), some (.ref 0), some (.ref 105), some (.int i3)] [] ac_SK V2 ac_SK K) ∧
        (¬ (lg_cmp x1 x2) = 0 →
          aa_bit (0 : Int32) ∧ K (some (.int (0 : Int32))) V2)))))) :
    ab_J G (ac_ST L xs) l (d + 1) 301 1052 [some (.ref 1000002), some (.ref 0), some (.ref 105), some (.int i3)] [] ac_SK V ac_SK K := ab_wm cd_301_ok [(18, [true, true, true, true]), (224, [true, true, true, true]), (247, [true, true, true, true]), (290, [true, true, true, true]), (333, [true, true, true, true]), (366, [true, true, true, true]), (399, [true, true, true, true]), (452, [true, true, true, true]), (486, [true, true, true, true]), (519, [true, true, true, true]), (542, [true, true, true, true]), (566, [true, true, true, true]), (629, [true, true, true, true]), (642, [true, true, true, true]), (665, [true, true, true, true]), (699, [true, true, true, true]), (732, [true, true, true, true]), (755, [true, true, true, true]), (768, [true, true, true, true]), (791, [true, true, true, true]), (814, [true, true, true, true]), (837, [true, true, true, true]), (890, [true, true, true, true]), (943, [true, true, true, true]), (976, [true, true, true, true]), (1029, [true, true, true, true]), (1052, [true, true, true, true]), (1096, [true, true, true, true]), (1119, [true, true, true, true]), (1152, [true, true, true, true]), (1195, [true, true, true, true]), (1228, [true, true, true, true]), (1261, [true, true, true, true]), (1274, [true, true, true, true]), (1327, [true, true, true, true]), (1360, [true, true, true, true]), (1393, [true, true, true, true]), (1426, [true, true, true, true]), (1479, [true, true, true, true]), (1512, [true, true, true, true]), (1535, [true, true, true, true]), (1578, [true, true, true, true]), (1621, [true, true, true, true]), (1684, [true, true, true, true]), (1737, [true, true, true, true]), (1770, [true, true, true, true])] 44 _ _ _ _ h

set_option maxRecDepth 20000 in
/-- FrameCountyLaw law([I)Z, from 1096 -/
theorem vc_301_1096 {G : ab_G} {L : Nat} {xs : Nat → Int32} {l : Launch} {d : Nat} {i3 : Int32} {V : aa_V} {K : aa_K} (h :
    vp_in (i3 + (1 : Int32)) (ac_ST L xs 2).2.1 ∧
    ab_E G (ac_ST L xs) l d ac_SK 164 [.ref 0, .int ((ac_ST L xs 2).2.2 ((i3 + (1 : Int32))).toNatClampNeg)] V (aa_rI (fun x1 V1 =>
      vp_in (i3 + (1 : Int32)) (ac_ST L xs 2).2.1 ∧
      ab_E G (ac_ST L xs) l d ac_SK 255 [.ref 105, .int ((ac_ST L xs 2).2.2 ((i3 + (1 : Int32))).toNatClampNeg)] V1 (aa_rI (fun x2 V2 =>
        (x1 = x2 →
          ab_J G (ac_ST L xs) l (d + 1) 301 1770 [some (.ref 1000002), some (.ref 0), some (.ref 105), some (.int i3)] [] ac_SK V2 ac_SK K) ∧
        (¬ x1 = x2 →
          aa_bit (0 : Int32) ∧ K (some (.int (0 : Int32))) V2)))))) :
    ab_J G (ac_ST L xs) l (d + 1) 301 1096 [some (.ref 1000002), some (.ref 0), some (.ref 105), some (.int i3)] [] ac_SK V ac_SK K := ab_wm cd_301_ok [(18, [true, true, true, true]), (224, [true, true, true, true]), (247, [true, true, true, true]), (290, [true, true, true, true]), (333, [true, true, true, true]), (366, [true, true, true, true]), (399, [true, true, true, true]), (452, [true, true, true, true]), (486, [true, true, true, true]), (519, [true, true, true, true]), (542, [true, true, true, true]), (566, [true, true, true, true]), (629, [true, true, true, true]), (642, [true, true, true, true]), (665, [true, true, true, true]), (699, [true, true, true, true]), (732, [true, true, true, true]), (755, [true, true, true, true]), (768, [true, true, true, true]), (791, [true, true, true, true]), (814, [true, true, true, true]), (837, [true, true, true, true]), (890, [true, true, true, true]), (943, [true, true, true, true]), (976, [true, true, true, true]), (1029, [true, true, true, true]), (1052, [true, true, true, true]), (1096, [true, true, true, true]), (1119, [true, true, true, true]), (1152, [true, true, true, true]), (1195, [true, true, true, true]), (1228, [true, true, true, true]), (1261, [true, true, true, true]), (1274, [true, true, true, true]), (1327, [true, true, true, true]), (1360, [true, true, true, true]), (1393, [true, true, true, true]), (1426, [true, true, true, true]), (1479, [true, true, true, true]), (1512, [true, true, true, true]), (1535, [true, true, true, true]), (1578, [true, true, true, true]), (1621, [true, true, true, true]), (1684, [true, true, true, true]), (1737, [true, true, true, true]), (1770, [true, true, true, true])] 23 _ _ _ _ h

set_option maxRecDepth 20000 in
/-- FrameCountyLaw law([I)Z, from 1119 -/
theorem vc_301_1119 {G : ab_G} {L : Nat} {xs : Nat → Int32} {l : Launch} {d : Nat} {i3 : Int32} {V : aa_V} {K : aa_K} (h :
    vp_in (i3 + (1 : Int32)) (ac_ST L xs 2).2.1 ∧
    vp_in (i3 + (2 : Int32)) (ac_ST L xs 2).2.1 ∧
    ab_E G (ac_ST L xs) l d ac_SK 165 [.ref 0, .int ((ac_ST L xs 2).2.2 ((i3 + (1 : Int32))).toNatClampNeg), .int ((ac_ST L xs 2).2.2 ((i3 + (2 : Int32))).toNatClampNeg)] V (aa_rI (fun x1 V1 =>
      vp_in (i3 + (1 : Int32)) (ac_ST L xs 2).2.1 ∧
      vp_in (i3 + (2 : Int32)) (ac_ST L xs 2).2.1 ∧
      ab_E G (ac_ST L xs) l d ac_SK 256 [.ref 105, .int ((ac_ST L xs 2).2.2 ((i3 + (1 : Int32))).toNatClampNeg), .int ((ac_ST L xs 2).2.2 ((i3 + (2 : Int32))).toNatClampNeg)] V1 (aa_rI (fun x2 V2 =>
        (x1 = x2 →
          ab_J G (ac_ST L xs) l (d + 1) 301 1770 [some (.ref 1000002), some (.ref 0), some (.ref 105), some (.int i3)] [] ac_SK V2 ac_SK K) ∧
        (¬ x1 = x2 →
          aa_bit (0 : Int32) ∧ K (some (.int (0 : Int32))) V2)))))) :
    ab_J G (ac_ST L xs) l (d + 1) 301 1119 [some (.ref 1000002), some (.ref 0), some (.ref 105), some (.int i3)] [] ac_SK V ac_SK K := ab_wm cd_301_ok [(18, [true, true, true, true]), (224, [true, true, true, true]), (247, [true, true, true, true]), (290, [true, true, true, true]), (333, [true, true, true, true]), (366, [true, true, true, true]), (399, [true, true, true, true]), (452, [true, true, true, true]), (486, [true, true, true, true]), (519, [true, true, true, true]), (542, [true, true, true, true]), (566, [true, true, true, true]), (629, [true, true, true, true]), (642, [true, true, true, true]), (665, [true, true, true, true]), (699, [true, true, true, true]), (732, [true, true, true, true]), (755, [true, true, true, true]), (768, [true, true, true, true]), (791, [true, true, true, true]), (814, [true, true, true, true]), (837, [true, true, true, true]), (890, [true, true, true, true]), (943, [true, true, true, true]), (976, [true, true, true, true]), (1029, [true, true, true, true]), (1052, [true, true, true, true]), (1096, [true, true, true, true]), (1119, [true, true, true, true]), (1152, [true, true, true, true]), (1195, [true, true, true, true]), (1228, [true, true, true, true]), (1261, [true, true, true, true]), (1274, [true, true, true, true]), (1327, [true, true, true, true]), (1360, [true, true, true, true]), (1393, [true, true, true, true]), (1426, [true, true, true, true]), (1479, [true, true, true, true]), (1512, [true, true, true, true]), (1535, [true, true, true, true]), (1578, [true, true, true, true]), (1621, [true, true, true, true]), (1684, [true, true, true, true]), (1737, [true, true, true, true]), (1770, [true, true, true, true])] 33 _ _ _ _ h

set_option maxRecDepth 20000 in
/-- FrameCountyLaw law([I)Z, from 1152 -/
theorem vc_301_1152 {G : ab_G} {L : Nat} {xs : Nat → Int32} {l : Launch} {d : Nat} {i3 : Int32} {V : aa_V} {K : aa_K} (h :
    vp_in (i3 + (1 : Int32)) (ac_ST L xs 2).2.1 ∧
    vp_in (i3 + (2 : Int32)) (ac_ST L xs 2).2.1 ∧
    vp_in (i3 + (3 : Int32)) (ac_ST L xs 2).2.1 ∧
    ab_E G (ac_ST L xs) l d ac_SK 166 [.ref 0, .int ((ac_ST L xs 2).2.2 ((i3 + (1 : Int32))).toNatClampNeg), .int ((ac_ST L xs 2).2.2 ((i3 + (2 : Int32))).toNatClampNeg), .int ((ac_ST L xs 2).2.2 ((i3 + (3 : Int32))).toNatClampNeg)] V (aa_rI (fun x1 V1 =>
      vp_in (i3 + (1 : Int32)) (ac_ST L xs 2).2.1 ∧
      vp_in (i3 + (2 : Int32)) (ac_ST L xs 2).2.1 ∧
      vp_in (i3 + (3 : Int32)) (ac_ST L xs 2).2.1 ∧
      ab_E G (ac_ST L xs) l d ac_SK 257 [.ref 105, .int ((ac_ST L xs 2).2.2 ((i3 + (1 : Int32))).toNatClampNeg), .int ((ac_ST L xs 2).2.2 ((i3 + (2 : Int32))).toNatClampNeg), .int ((ac_ST L xs 2).2.2 ((i3 + (3 : Int32))).toNatClampNeg)] V1 (aa_rI (fun x2 V2 =>
        (x1 = x2 →
          ab_J G (ac_ST L xs) l (d + 1) 301 1770 [some (.ref 1000002), some (.ref 0), some (.ref 105), some (.int i3)] [] ac_SK V2 ac_SK K) ∧
        (¬ x1 = x2 →
          aa_bit (0 : Int32) ∧ K (some (.int (0 : Int32))) V2)))))) :
    ab_J G (ac_ST L xs) l (d + 1) 301 1152 [some (.ref 1000002), some (.ref 0), some (.ref 105), some (.int i3)] [] ac_SK V ac_SK K := ab_wm cd_301_ok [(18, [true, true, true, true]), (224, [true, true, true, true]), (247, [true, true, true, true]), (290, [true, true, true, true]), (333, [true, true, true, true]), (366, [true, true, true, true]), (399, [true, true, true, true]), (452, [true, true, true, true]), (486, [true, true, true, true]), (519, [true, true, true, true]), (542, [true, true, true, true]), (566, [true, true, true, true]), (629, [true, true, true, true]), (642, [true, true, true, true]), (665, [true, true, true, true]), (699, [true, true, true, true]), (732, [true, true, true, true]), (755, [true, true, true, true]), (768, [true, true, true, true]), (791, [true, true, true, true]), (814, [true, true, true, true]), (837, [true, true, true, true]), (890, [true, true, true, true]), (943, [true, true, true, true]), (976, [true, true, true, true]), (1029, [true, true, true, true]), (1052, [true, true, true, true]), (1096, [true, true, true, true]), (1119, [true, true, true, true]), (1152, [true, true, true, true]), (1195, [true, true, true, true]), (1228, [true, true, true, true]), (1261, [true, true, true, true]), (1274, [true, true, true, true]), (1327, [true, true, true, true]), (1360, [true, true, true, true]), (1393, [true, true, true, true]), (1426, [true, true, true, true]), (1479, [true, true, true, true]), (1512, [true, true, true, true]), (1535, [true, true, true, true]), (1578, [true, true, true, true]), (1621, [true, true, true, true]), (1684, [true, true, true, true]), (1737, [true, true, true, true]), (1770, [true, true, true, true])] 43 _ _ _ _ h

set_option maxRecDepth 20000 in
/-- FrameCountyLaw law([I)Z, from 1195 -/
theorem vc_301_1195 {G : ab_G} {L : Nat} {xs : Nat → Int32} {l : Launch} {d : Nat} {i3 : Int32} {V : aa_V} {K : aa_K} (h :
    vp_in (i3 + (1 : Int32)) (ac_ST L xs 2).2.1 ∧
    vp_in (i3 + (2 : Int32)) (ac_ST L xs 2).2.1 ∧
    ab_E G (ac_ST L xs) l d ac_SK 167 [.ref 0, .int ((ac_ST L xs 2).2.2 ((i3 + (1 : Int32))).toNatClampNeg), .int ((ac_ST L xs 2).2.2 ((i3 + (2 : Int32))).toNatClampNeg)] V (aa_rI (fun x1 V1 =>
      vp_in (i3 + (1 : Int32)) (ac_ST L xs 2).2.1 ∧
      vp_in (i3 + (2 : Int32)) (ac_ST L xs 2).2.1 ∧
      ab_E G (ac_ST L xs) l d ac_SK 258 [.ref 105, .int ((ac_ST L xs 2).2.2 ((i3 + (1 : Int32))).toNatClampNeg), .int ((ac_ST L xs 2).2.2 ((i3 + (2 : Int32))).toNatClampNeg)] V1 (aa_rI (fun x2 V2 =>
        (x1 = x2 →
          ab_J G (ac_ST L xs) l (d + 1) 301 1770 [some (.ref 1000002), some (.ref 0), some (.ref 105), some (.int i3)] [] ac_SK V2 ac_SK K) ∧
        (¬ x1 = x2 →
          aa_bit (0 : Int32) ∧ K (some (.int (0 : Int32))) V2)))))) :
    ab_J G (ac_ST L xs) l (d + 1) 301 1195 [some (.ref 1000002), some (.ref 0), some (.ref 105), some (.int i3)] [] ac_SK V ac_SK K := ab_wm cd_301_ok [(18, [true, true, true, true]), (224, [true, true, true, true]), (247, [true, true, true, true]), (290, [true, true, true, true]), (333, [true, true, true, true]), (366, [true, true, true, true]), (399, [true, true, true, true]), (452, [true, true, true, true]), (486, [true, true, true, true]), (519, [true, true, true, true]), (542, [true, true, true, true]), (566, [true, true, true, true]), (629, [true, true, true, true]), (642, [true, true, true, true]), (665, [true, true, true, true]), (699, [true, true, true, true]), (732, [true, true, true, true]), (755, [true, true, true, true]), (768, [true, true, true, true]), (791, [true, true, true, true]), (814, [true, true, true, true]), (837, [true, true, true, true]), (890, [true, true, true, true]), (943, [true, true, true, true]), (976, [true, true, true, true]), (1029, [true, true, true, true]), (1052, [true, true, true, true]), (1096, [true, true, true, true]), (1119, [true, true, true, true]), (1152, [true, true, true, true]), (1195, [true, true, true, true]), (1228, [true, true, true, true]), (1261, [true, true, true, true]), (1274, [true, true, true, true]), (1327, [true, true, true, true]), (1360, [true, true, true, true]), (1393, [true, true, true, true]), (1426, [true, true, true, true]), (1479, [true, true, true, true]), (1512, [true, true, true, true]), (1535, [true, true, true, true]), (1578, [true, true, true, true]), (1621, [true, true, true, true]), (1684, [true, true, true, true]), (1737, [true, true, true, true]), (1770, [true, true, true, true])] 33 _ _ _ _ h

set_option maxRecDepth 20000 in
/-- FrameCountyLaw law([I)Z, from 1228 -/
theorem vc_301_1228 {G : ab_G} {L : Nat} {xs : Nat → Int32} {l : Launch} {d : Nat} {i3 : Int32} {V : aa_V} {K : aa_K} (h :
    vp_in (i3 + (1 : Int32)) (ac_ST L xs 2).2.1 ∧
    vp_in (i3 + (2 : Int32)) (ac_ST L xs 2).2.1 ∧
    ab_E G (ac_ST L xs) l d ac_SK 168 [.ref 0, .int ((ac_ST L xs 2).2.2 ((i3 + (1 : Int32))).toNatClampNeg), .int ((ac_ST L xs 2).2.2 ((i3 + (2 : Int32))).toNatClampNeg)] V (aa_rI (fun x1 V1 =>
      vp_in (i3 + (1 : Int32)) (ac_ST L xs 2).2.1 ∧
      vp_in (i3 + (2 : Int32)) (ac_ST L xs 2).2.1 ∧
      ab_E G (ac_ST L xs) l d ac_SK 260 [.ref 105, .int ((ac_ST L xs 2).2.2 ((i3 + (1 : Int32))).toNatClampNeg), .int ((ac_ST L xs 2).2.2 ((i3 + (2 : Int32))).toNatClampNeg)] V1 (aa_rI (fun x2 V2 =>
        (x1 = x2 →
          ab_J G (ac_ST L xs) l (d + 1) 301 1770 [some (.ref 1000002), some (.ref 0), some (.ref 105), some (.int i3)] [] ac_SK V2 ac_SK K) ∧
        (¬ x1 = x2 →
          aa_bit (0 : Int32) ∧ K (some (.int (0 : Int32))) V2)))))) :
    ab_J G (ac_ST L xs) l (d + 1) 301 1228 [some (.ref 1000002), some (.ref 0), some (.ref 105), some (.int i3)] [] ac_SK V ac_SK K := ab_wm cd_301_ok [(18, [true, true, true, true]), (224, [true, true, true, true]), (247, [true, true, true, true]), (290, [true, true, true, true]), (333, [true, true, true, true]), (366, [true, true, true, true]), (399, [true, true, true, true]), (452, [true, true, true, true]), (486, [true, true, true, true]), (519, [true, true, true, true]), (542, [true, true, true, true]), (566, [true, true, true, true]), (629, [true, true, true, true]), (642, [true, true, true, true]), (665, [true, true, true, true]), (699, [true, true, true, true]), (732, [true, true, true, true]), (755, [true, true, true, true]), (768, [true, true, true, true]), (791, [true, true, true, true]), (814, [true, true, true, true]), (837, [true, true, true, true]), (890, [true, true, true, true]), (943, [true, true, true, true]), (976, [true, true, true, true]), (1029, [true, true, true, true]), (1052, [true, true, true, true]), (1096, [true, true, true, true]), (1119, [true, true, true, true]), (1152, [true, true, true, true]), (1195, [true, true, true, true]), (1228, [true, true, true, true]), (1261, [true, true, true, true]), (1274, [true, true, true, true]), (1327, [true, true, true, true]), (1360, [true, true, true, true]), (1393, [true, true, true, true]), (1426, [true, true, true, true]), (1479, [true, true, true, true]), (1512, [true, true, true, true]), (1535, [true, true, true, true]), (1578, [true, true, true, true]), (1621, [true, true, true, true]), (1684, [true, true, true, true]), (1737, [true, true, true, true]), (1770, [true, true, true, true])] 33 _ _ _ _ h

set_option maxRecDepth 20000 in
/-- FrameCountyLaw law([I)Z, from 1261 -/
theorem vc_301_1261 {G : ab_G} {L : Nat} {xs : Nat → Int32} {l : Launch} {d : Nat} {i3 : Int32} {V : aa_V} {K : aa_K} (h :
    ab_E G (ac_ST L xs) l d ac_SK 169 [.ref 0] V (aa_rI (fun x1 V1 =>
      ab_E G (ac_ST L xs) l d ac_SK 263 [.ref 105] V1 (aa_rI (fun x2 V2 =>
        (x1 = x2 →
          ab_J G (ac_ST L xs) l (d + 1) 301 1770 [some (.ref 1000002), some (.ref 0), some (.ref 105), some (.int i3)] [] ac_SK V2 ac_SK K) ∧
        (¬ x1 = x2 →
          aa_bit (0 : Int32) ∧ K (some (.int (0 : Int32))) V2)))))) :
    ab_J G (ac_ST L xs) l (d + 1) 301 1261 [some (.ref 1000002), some (.ref 0), some (.ref 105), some (.int i3)] [] ac_SK V ac_SK K := ab_wm cd_301_ok [(18, [true, true, true, true]), (224, [true, true, true, true]), (247, [true, true, true, true]), (290, [true, true, true, true]), (333, [true, true, true, true]), (366, [true, true, true, true]), (399, [true, true, true, true]), (452, [true, true, true, true]), (486, [true, true, true, true]), (519, [true, true, true, true]), (542, [true, true, true, true]), (566, [true, true, true, true]), (629, [true, true, true, true]), (642, [true, true, true, true]), (665, [true, true, true, true]), (699, [true, true, true, true]), (732, [true, true, true, true]), (755, [true, true, true, true]), (768, [true, true, true, true]), (791, [true, true, true, true]), (814, [true, true, true, true]), (837, [true, true, true, true]), (890, [true, true, true, true]), (943, [true, true, true, true]), (976, [true, true, true, true]), (1029, [true, true, true, true]), (1052, [true, true, true, true]), (1096, [true, true, true, true]), (1119, [true, true, true, true]), (1152, [true, true, true, true]), (1195, [true, true, true, true]), (1228, [true, true, true, true]), (1261, [true, true, true, true]), (1274, [true, true, true, true]), (1327, [true, true, true, true]), (1360, [true, true, true, true]), (1393, [true, true, true, true]), (1426, [true, true, true, true]), (1479, [true, true, true, true]), (1512, [true, true, true, true]), (1535, [true, true, true, true]), (1578, [true, true, true, true]), (1621, [true, true, true, true]), (1684, [true, true, true, true]), (1737, [true, true, true, true]), (1770, [true, true, true, true])] 13 _ _ _ _ h

set_option maxRecDepth 20000 in
/-- FrameCountyLaw law([I)Z, from 1274 -/
theorem vc_301_1274 {G : ab_G} {L : Nat} {xs : Nat → Int32} {l : Launch} {d : Nat} {i3 : Int32} {V : aa_V} {K : aa_K} (h :
    vp_in (i3 + (1 : Int32)) (ac_ST L xs 2).2.1 ∧
    vp_in (i3 + (2 : Int32)) (ac_ST L xs 2).2.1 ∧
    vp_in (i3 + (3 : Int32)) (ac_ST L xs 2).2.1 ∧
    vp_in (i3 + (4 : Int32)) (ac_ST L xs 2).2.1 ∧
    ab_E G (ac_ST L xs) l d ac_SK 170 [.ref 0, .int ((ac_ST L xs 2).2.2 ((i3 + (1 : Int32))).toNatClampNeg), .int ((ac_ST L xs 2).2.2 ((i3 + (2 : Int32))).toNatClampNeg), .int ((ac_ST L xs 2).2.2 ((i3 + (3 : Int32))).toNatClampNeg), .int ((ac_ST L xs 2).2.2 ((i3 + (4 : Int32))).toNatClampNeg)] V (aa_rI (fun x1 V1 =>
      vp_in (i3 + (1 : Int32)) (ac_ST L xs 2).2.1 ∧
      vp_in (i3 + (2 : Int32)) (ac_ST L xs 2).2.1 ∧
      vp_in (i3 + (3 : Int32)) (ac_ST L xs 2).2.1 ∧
      vp_in (i3 + (4 : Int32)) (ac_ST L xs 2).2.1 ∧
      ab_E G (ac_ST L xs) l d ac_SK 264 [.ref 105, .int ((ac_ST L xs 2).2.2 ((i3 + (1 : Int32))).toNatClampNeg), .int ((ac_ST L xs 2).2.2 ((i3 + (2 : Int32))).toNatClampNeg), .int ((ac_ST L xs 2).2.2 ((i3 + (3 : Int32))).toNatClampNeg), .int ((ac_ST L xs 2).2.2 ((i3 + (4 : Int32))).toNatClampNeg)] V1 (aa_rI (fun x2 V2 =>
        (x1 = x2 →
          ab_J G (ac_ST L xs) l (d + 1) 301 1770 [some (.ref 1000002), some (.ref 0), some (.ref 105), some (.int i3)] [] ac_SK V2 ac_SK K) ∧
        (¬ x1 = x2 →
          aa_bit (0 : Int32) ∧ K (some (.int (0 : Int32))) V2)))))) :
    ab_J G (ac_ST L xs) l (d + 1) 301 1274 [some (.ref 1000002), some (.ref 0), some (.ref 105), some (.int i3)] [] ac_SK V ac_SK K := ab_wm cd_301_ok [(18, [true, true, true, true]), (224, [true, true, true, true]), (247, [true, true, true, true]), (290, [true, true, true, true]), (333, [true, true, true, true]), (366, [true, true, true, true]), (399, [true, true, true, true]), (452, [true, true, true, true]), (486, [true, true, true, true]), (519, [true, true, true, true]), (542, [true, true, true, true]), (566, [true, true, true, true]), (629, [true, true, true, true]), (642, [true, true, true, true]), (665, [true, true, true, true]), (699, [true, true, true, true]), (732, [true, true, true, true]), (755, [true, true, true, true]), (768, [true, true, true, true]), (791, [true, true, true, true]), (814, [true, true, true, true]), (837, [true, true, true, true]), (890, [true, true, true, true]), (943, [true, true, true, true]), (976, [true, true, true, true]), (1029, [true, true, true, true]), (1052, [true, true, true, true]), (1096, [true, true, true, true]), (1119, [true, true, true, true]), (1152, [true, true, true, true]), (1195, [true, true, true, true]), (1228, [true, true, true, true]), (1261, [true, true, true, true]), (1274, [true, true, true, true]), (1327, [true, true, true, true]), (1360, [true, true, true, true]), (1393, [true, true, true, true]), (1426, [true, true, true, true]), (1479, [true, true, true, true]), (1512, [true, true, true, true]), (1535, [true, true, true, true]), (1578, [true, true, true, true]), (1621, [true, true, true, true]), (1684, [true, true, true, true]), (1737, [true, true, true, true]), (1770, [true, true, true, true])] 53 _ _ _ _ h

set_option maxRecDepth 20000 in
/-- FrameCountyLaw law([I)Z, from 1327 -/
theorem vc_301_1327 {G : ab_G} {L : Nat} {xs : Nat → Int32} {l : Launch} {d : Nat} {i3 : Int32} {V : aa_V} {K : aa_K} (h :
    vp_in (i3 + (1 : Int32)) (ac_ST L xs 2).2.1 ∧
    vp_in (i3 + (2 : Int32)) (ac_ST L xs 2).2.1 ∧
    ab_E G (ac_ST L xs) l d ac_SK 171 [.ref 0, .int ((ac_ST L xs 2).2.2 ((i3 + (1 : Int32))).toNatClampNeg), .int ((ac_ST L xs 2).2.2 ((i3 + (2 : Int32))).toNatClampNeg)] V (aa_rI (fun x1 V1 =>
      vp_in (i3 + (1 : Int32)) (ac_ST L xs 2).2.1 ∧
      vp_in (i3 + (2 : Int32)) (ac_ST L xs 2).2.1 ∧
      ab_E G (ac_ST L xs) l d ac_SK 266 [.ref 105, .int ((ac_ST L xs 2).2.2 ((i3 + (1 : Int32))).toNatClampNeg), .int ((ac_ST L xs 2).2.2 ((i3 + (2 : Int32))).toNatClampNeg)] V1 (aa_rI (fun x2 V2 =>
        (x1 = x2 →
          ab_J G (ac_ST L xs) l (d + 1) 301 1770 [some (.ref 1000002), some (.ref 0), some (.ref 105), some (.int i3)] [] ac_SK V2 ac_SK K) ∧
        (¬ x1 = x2 →
          aa_bit (0 : Int32) ∧ K (some (.int (0 : Int32))) V2)))))) :
    ab_J G (ac_ST L xs) l (d + 1) 301 1327 [some (.ref 1000002), some (.ref 0), some (.ref 105), some (.int i3)] [] ac_SK V ac_SK K := ab_wm cd_301_ok [(18, [true, true, true, true]), (224, [true, true, true, true]), (247, [true, true, true, true]), (290, [true, true, true, true]), (333, [true, true, true, true]), (366, [true, true, true, true]), (399, [true, true, true, true]), (452, [true, true, true, true]), (486, [true, true, true, true]), (519, [true, true, true, true]), (542, [true, true, true, true]), (566, [true, true, true, true]), (629, [true, true, true, true]), (642, [true, true, true, true]), (665, [true, true, true, true]), (699, [true, true, true, true]), (732, [true, true, true, true]), (755, [true, true, true, true]), (768, [true, true, true, true]), (791, [true, true, true, true]), (814, [true, true, true, true]), (837, [true, true, true, true]), (890, [true, true, true, true]), (943, [true, true, true, true]), (976, [true, true, true, true]), (1029, [true, true, true, true]), (1052, [true, true, true, true]), (1096, [true, true, true, true]), (1119, [true, true, true, true]), (1152, [true, true, true, true]), (1195, [true, true, true, true]), (1228, [true, true, true, true]), (1261, [true, true, true, true]), (1274, [true, true, true, true]), (1327, [true, true, true, true]), (1360, [true, true, true, true]), (1393, [true, true, true, true]), (1426, [true, true, true, true]), (1479, [true, true, true, true]), (1512, [true, true, true, true]), (1535, [true, true, true, true]), (1578, [true, true, true, true]), (1621, [true, true, true, true]), (1684, [true, true, true, true]), (1737, [true, true, true, true]), (1770, [true, true, true, true])] 33 _ _ _ _ h

set_option maxRecDepth 20000 in
/-- FrameCountyLaw law([I)Z, from 1360 -/
theorem vc_301_1360 {G : ab_G} {L : Nat} {xs : Nat → Int32} {l : Launch} {d : Nat} {i3 : Int32} {V : aa_V} {K : aa_K} (h :
    vp_in (i3 + (1 : Int32)) (ac_ST L xs 2).2.1 ∧
    vp_in (i3 + (2 : Int32)) (ac_ST L xs 2).2.1 ∧
    ab_E G (ac_ST L xs) l d ac_SK 172 [.ref 0, .int ((ac_ST L xs 2).2.2 ((i3 + (1 : Int32))).toNatClampNeg), .int ((ac_ST L xs 2).2.2 ((i3 + (2 : Int32))).toNatClampNeg)] V (aa_rI (fun x1 V1 =>
      vp_in (i3 + (1 : Int32)) (ac_ST L xs 2).2.1 ∧
      vp_in (i3 + (2 : Int32)) (ac_ST L xs 2).2.1 ∧
      ab_E G (ac_ST L xs) l d ac_SK 267 [.ref 105, .int ((ac_ST L xs 2).2.2 ((i3 + (1 : Int32))).toNatClampNeg), .int ((ac_ST L xs 2).2.2 ((i3 + (2 : Int32))).toNatClampNeg)] V1 (aa_rI (fun x2 V2 =>
        (x1 = x2 →
          ab_J G (ac_ST L xs) l (d + 1) 301 1770 [some (.ref 1000002), some (.ref 0), some (.ref 105), some (.int i3)] [] ac_SK V2 ac_SK K) ∧
        (¬ x1 = x2 →
          aa_bit (0 : Int32) ∧ K (some (.int (0 : Int32))) V2)))))) :
    ab_J G (ac_ST L xs) l (d + 1) 301 1360 [some (.ref 1000002), some (.ref 0), some (.ref 105), some (.int i3)] [] ac_SK V ac_SK K := ab_wm cd_301_ok [(18, [true, true, true, true]), (224, [true, true, true, true]), (247, [true, true, true, true]), (290, [true, true, true, true]), (333, [true, true, true, true]), (366, [true, true, true, true]), (399, [true, true, true, true]), (452, [true, true, true, true]), (486, [true, true, true, true]), (519, [true, true, true, true]), (542, [true, true, true, true]), (566, [true, true, true, true]), (629, [true, true, true, true]), (642, [true, true, true, true]), (665, [true, true, true, true]), (699, [true, true, true, true]), (732, [true, true, true, true]), (755, [true, true, true, true]), (768, [true, true, true, true]), (791, [true, true, true, true]), (814, [true, true, true, true]), (837, [true, true, true, true]), (890, [true, true, true, true]), (943, [true, true, true, true]), (976, [true, true, true, true]), (1029, [true, true, true, true]), (1052, [true, true, true, true]), (1096, [true, true, true, true]), (1119, [true, true, true, true]), (1152, [true, true, true, true]), (1195, [true, true, true, true]), (1228, [true, true, true, true]), (1261, [true, true, true, true]), (1274, [true, true, true, true]), (1327, [true, true, true, true]), (1360, [true, true, true, true]), (1393, [true, true, true, true]), (1426, [true, true, true, true]), (1479, [true, true, true, true]), (1512, [true, true, true, true]), (1535, [true, true, true, true]), (1578, [true, true, true, true]), (1621, [true, true, true, true]), (1684, [true, true, true, true]), (1737, [true, true, true, true]), (1770, [true, true, true, true])] 33 _ _ _ _ h

set_option maxRecDepth 20000 in
/-- FrameCountyLaw law([I)Z, from 1393 -/
theorem vc_301_1393 {G : ab_G} {L : Nat} {xs : Nat → Int32} {l : Launch} {d : Nat} {i3 : Int32} {V : aa_V} {K : aa_K} (h :
    vp_in (i3 + (1 : Int32)) (ac_ST L xs 2).2.1 ∧
    vp_in (i3 + (2 : Int32)) (ac_ST L xs 2).2.1 ∧
    ab_E G (ac_ST L xs) l d ac_SK 173 [.ref 0, .int ((ac_ST L xs 2).2.2 ((i3 + (1 : Int32))).toNatClampNeg), .int ((ac_ST L xs 2).2.2 ((i3 + (2 : Int32))).toNatClampNeg)] V (aa_rI (fun x1 V1 =>
      vp_in (i3 + (1 : Int32)) (ac_ST L xs 2).2.1 ∧
      vp_in (i3 + (2 : Int32)) (ac_ST L xs 2).2.1 ∧
      ab_E G (ac_ST L xs) l d ac_SK 268 [.ref 105, .int ((ac_ST L xs 2).2.2 ((i3 + (1 : Int32))).toNatClampNeg), .int ((ac_ST L xs 2).2.2 ((i3 + (2 : Int32))).toNatClampNeg)] V1 (aa_rI (fun x2 V2 =>
        (x1 = x2 →
          ab_J G (ac_ST L xs) l (d + 1) 301 1770 [some (.ref 1000002), some (.ref 0), some (.ref 105), some (.int i3)] [] ac_SK V2 ac_SK K) ∧
        (¬ x1 = x2 →
          aa_bit (0 : Int32) ∧ K (some (.int (0 : Int32))) V2)))))) :
    ab_J G (ac_ST L xs) l (d + 1) 301 1393 [some (.ref 1000002), some (.ref 0), some (.ref 105), some (.int i3)] [] ac_SK V ac_SK K := ab_wm cd_301_ok [(18, [true, true, true, true]), (224, [true, true, true, true]), (247, [true, true, true, true]), (290, [true, true, true, true]), (333, [true, true, true, true]), (366, [true, true, true, true]), (399, [true, true, true, true]), (452, [true, true, true, true]), (486, [true, true, true, true]), (519, [true, true, true, true]), (542, [true, true, true, true]), (566, [true, true, true, true]), (629, [true, true, true, true]), (642, [true, true, true, true]), (665, [true, true, true, true]), (699, [true, true, true, true]), (732, [true, true, true, true]), (755, [true, true, true, true]), (768, [true, true, true, true]), (791, [true, true, true, true]), (814, [true, true, true, true]), (837, [true, true, true, true]), (890, [true, true, true, true]), (943, [true, true, true, true]), (976, [true, true, true, true]), (1029, [true, true, true, true]), (1052, [true, true, true, true]), (1096, [true, true, true, true]), (1119, [true, true, true, true]), (1152, [true, true, true, true]), (1195, [true, true, true, true]), (1228, [true, true, true, true]), (1261, [true, true, true, true]), (1274, [true, true, true, true]), (1327, [true, true, true, true]), (1360, [true, true, true, true]), (1393, [true, true, true, true]), (1426, [true, true, true, true]), (1479, [true, true, true, true]), (1512, [true, true, true, true]), (1535, [true, true, true, true]), (1578, [true, true, true, true]), (1621, [true, true, true, true]), (1684, [true, true, true, true]), (1737, [true, true, true, true]), (1770, [true, true, true, true])] 33 _ _ _ _ h

set_option maxRecDepth 20000 in
/-- FrameCountyLaw law([I)Z, from 1426 -/
theorem vc_301_1426 {G : ab_G} {L : Nat} {xs : Nat → Int32} {l : Launch} {d : Nat} {i3 : Int32} {V : aa_V} {K : aa_K} (h :
    vp_in (i3 + (1 : Int32)) (ac_ST L xs 2).2.1 ∧
    vp_in (i3 + (2 : Int32)) (ac_ST L xs 2).2.1 ∧
    ab_E G (ac_ST L xs) l d ac_SK 174 [.ref 0, .long (((((ac_ST L xs 2).2.2 ((i3 + (1 : Int32))).toNatClampNeg).toInt64) <<< ((32 : Int32).toInt64 &&& 63)) ||| ((((ac_ST L xs 2).2.2 ((i3 + (2 : Int32))).toNatClampNeg).toInt64) &&& (4294967295 : Int64)))] V (aa_rI (fun x1 V1 =>
      vp_in (i3 + (1 : Int32)) (ac_ST L xs 2).2.1 ∧
      vp_in (i3 + (2 : Int32)) (ac_ST L xs 2).2.1 ∧
      ab_E G (ac_ST L xs) l d ac_SK 269 [.ref 105, .long (((((ac_ST L xs 2).2.2 ((i3 + (1 : Int32))).toNatClampNeg).toInt64) <<< ((32 : Int32).toInt64 &&& 63)) ||| ((((ac_ST L xs 2).2.2 ((i3 + (2 : Int32))).toNatClampNeg).toInt64) &&& (4294967295 : Int64)))] V1 (aa_rI (fun x2 V2 =>
        (x1 = x2 →
          ab_J G (ac_ST L xs) l (d + 1) 301 1770 [some (.ref 1000002), some (.ref 0), some (.ref 105), some (.int i3)] [] ac_SK V2 ac_SK K) ∧
        (¬ x1 = x2 →
          aa_bit (0 : Int32) ∧ K (some (.int (0 : Int32))) V2)))))) :
    ab_J G (ac_ST L xs) l (d + 1) 301 1426 [some (.ref 1000002), some (.ref 0), some (.ref 105), some (.int i3)] [] ac_SK V ac_SK K := ab_wm cd_301_ok [(18, [true, true, true, true]), (224, [true, true, true, true]), (247, [true, true, true, true]), (290, [true, true, true, true]), (333, [true, true, true, true]), (366, [true, true, true, true]), (399, [true, true, true, true]), (452, [true, true, true, true]), (486, [true, true, true, true]), (519, [true, true, true, true]), (542, [true, true, true, true]), (566, [true, true, true, true]), (629, [true, true, true, true]), (642, [true, true, true, true]), (665, [true, true, true, true]), (699, [true, true, true, true]), (732, [true, true, true, true]), (755, [true, true, true, true]), (768, [true, true, true, true]), (791, [true, true, true, true]), (814, [true, true, true, true]), (837, [true, true, true, true]), (890, [true, true, true, true]), (943, [true, true, true, true]), (976, [true, true, true, true]), (1029, [true, true, true, true]), (1052, [true, true, true, true]), (1096, [true, true, true, true]), (1119, [true, true, true, true]), (1152, [true, true, true, true]), (1195, [true, true, true, true]), (1228, [true, true, true, true]), (1261, [true, true, true, true]), (1274, [true, true, true, true]), (1327, [true, true, true, true]), (1360, [true, true, true, true]), (1393, [true, true, true, true]), (1426, [true, true, true, true]), (1479, [true, true, true, true]), (1512, [true, true, true, true]), (1535, [true, true, true, true]), (1578, [true, true, true, true]), (1621, [true, true, true, true]), (1684, [true, true, true, true]), (1737, [true, true, true, true]), (1770, [true, true, true, true])] 47 _ _ _ _ h

set_option maxRecDepth 20000 in
/-- FrameCountyLaw law([I)Z, from 1479 -/
theorem vc_301_1479 {G : ab_G} {L : Nat} {xs : Nat → Int32} {l : Launch} {d : Nat} {i3 : Int32} {V : aa_V} {K : aa_K} (h :
    vp_in (i3 + (1 : Int32)) (ac_ST L xs 2).2.1 ∧
    vp_in (i3 + (2 : Int32)) (ac_ST L xs 2).2.1 ∧
    ab_E G (ac_ST L xs) l d ac_SK 175 [.ref 0, .int ((ac_ST L xs 2).2.2 ((i3 + (1 : Int32))).toNatClampNeg), .int ((ac_ST L xs 2).2.2 ((i3 + (2 : Int32))).toNatClampNeg)] V (aa_rI (fun x1 V1 =>
      vp_in (i3 + (1 : Int32)) (ac_ST L xs 2).2.1 ∧
      vp_in (i3 + (2 : Int32)) (ac_ST L xs 2).2.1 ∧
      ab_E G (ac_ST L xs) l d ac_SK 274 [.ref 105, .int ((ac_ST L xs 2).2.2 ((i3 + (1 : Int32))).toNatClampNeg), .int ((ac_ST L xs 2).2.2 ((i3 + (2 : Int32))).toNatClampNeg)] V1 (aa_rI (fun x2 V2 =>
        (x1 = x2 →
          ab_J G (ac_ST L xs) l (d + 1) 301 1770 [some (.ref 1000002), some (.ref 0), some (.ref 105), some (.int i3)] [] ac_SK V2 ac_SK K) ∧
        (¬ x1 = x2 →
          aa_bit (0 : Int32) ∧ K (some (.int (0 : Int32))) V2)))))) :
    ab_J G (ac_ST L xs) l (d + 1) 301 1479 [some (.ref 1000002), some (.ref 0), some (.ref 105), some (.int i3)] [] ac_SK V ac_SK K := ab_wm cd_301_ok [(18, [true, true, true, true]), (224, [true, true, true, true]), (247, [true, true, true, true]), (290, [true, true, true, true]), (333, [true, true, true, true]), (366, [true, true, true, true]), (399, [true, true, true, true]), (452, [true, true, true, true]), (486, [true, true, true, true]), (519, [true, true, true, true]), (542, [true, true, true, true]), (566, [true, true, true, true]), (629, [true, true, true, true]), (642, [true, true, true, true]), (665, [true, true, true, true]), (699, [true, true, true, true]), (732, [true, true, true, true]), (755, [true, true, true, true]), (768, [true, true, true, true]), (791, [true, true, true, true]), (814, [true, true, true, true]), (837, [true, true, true, true]), (890, [true, true, true, true]), (943, [true, true, true, true]), (976, [true, true, true, true]), (1029, [true, true, true, true]), (1052, [true, true, true, true]), (1096, [true, true, true, true]), (1119, [true, true, true, true]), (1152, [true, true, true, true]), (1195, [true, true, true, true]), (1228, [true, true, true, true]), (1261, [true, true, true, true]), (1274, [true, true, true, true]), (1327, [true, true, true, true]), (1360, [true, true, true, true]), (1393, [true, true, true, true]), (1426, [true, true, true, true]), (1479, [true, true, true, true]), (1512, [true, true, true, true]), (1535, [true, true, true, true]), (1578, [true, true, true, true]), (1621, [true, true, true, true]), (1684, [true, true, true, true]), (1737, [true, true, true, true]), (1770, [true, true, true, true])] 33 _ _ _ _ h

set_option maxRecDepth 20000 in
/-- FrameCountyLaw law([I)Z, from 1512 -/
theorem vc_301_1512 {G : ab_G} {L : Nat} {xs : Nat → Int32} {l : Launch} {d : Nat} {i3 : Int32} {V : aa_V} {K : aa_K} (h :
    vp_in (i3 + (1 : Int32)) (ac_ST L xs 2).2.1 ∧
    ab_E G (ac_ST L xs) l d ac_SK 176 [.ref 0, .int ((ac_ST L xs 2).2.2 ((i3 + (1 : Int32))).toNatClampNeg)] V (aa_rI (fun x1 V1 =>
      vp_in (i3 + (1 : Int32)) (ac_ST L xs 2).2.1 ∧
      ab_E G (ac_ST L xs) l d ac_SK 276 [.ref 105, .int ((ac_ST L xs 2).2.2 ((i3 + (1 : Int32))).toNatClampNeg)] V1 (aa_rI (fun x2 V2 =>
        (x1 = x2 →
          ab_J G (ac_ST L xs) l (d + 1) 301 1770 [some (.ref 1000002), some (.ref 0), some (.ref 105), some (.int i3)] [] ac_SK V2 ac_SK K) ∧
        (¬ x1 = x2 →
          aa_bit (0 : Int32) ∧ K (some (.int (0 : Int32))) V2)))))) :
    ab_J G (ac_ST L xs) l (d + 1) 301 1512 [some (.ref 1000002), some (.ref 0), some (.ref 105), some (.int i3)] [] ac_SK V ac_SK K := ab_wm cd_301_ok [(18, [true, true, true, true]), (224, [true, true, true, true]), (247, [true, true, true, true]), (290, [true, true, true, true]), (333, [true, true, true, true]), (366, [true, true, true, true]), (399, [true, true, true, true]), (452, [true, true, true, true]), (486, [true, true, true, true]), (519, [true, true, true, true]), (542, [true, true, true, true]), (566, [true, true, true, true]), (629, [true, true, true, true]), (642, [true, true, true, true]), (665, [true, true, true, true]), (699, [true, true, true, true]), (732, [true, true, true, true]), (755, [true, true, true, true]), (768, [true, true, true, true]), (791, [true, true, true, true]), (814, [true, true, true, true]), (837, [true, true, true, true]), (890, [true, true, true, true]), (943, [true, true, true, true]), (976, [true, true, true, true]), (1029, [true, true, true, true]), (1052, [true, true, true, true]), (1096, [true, true, true, true]), (1119, [true, true, true, true]), (1152, [true, true, true, true]), (1195, [true, true, true, true]), (1228, [true, true, true, true]), (1261, [true, true, true, true]), (1274, [true, true, true, true]), (1327, [true, true, true, true]), (1360, [true, true, true, true]), (1393, [true, true, true, true]), (1426, [true, true, true, true]), (1479, [true, true, true, true]), (1512, [true, true, true, true]), (1535, [true, true, true, true]), (1578, [true, true, true, true]), (1621, [true, true, true, true]), (1684, [true, true, true, true]), (1737, [true, true, true, true]), (1770, [true, true, true, true])] 23 _ _ _ _ h

set_option maxRecDepth 20000 in
/-- FrameCountyLaw law([I)Z, from 1535 -/
theorem vc_301_1535 {G : ab_G} {L : Nat} {xs : Nat → Int32} {l : Launch} {d : Nat} {i3 : Int32} {V : aa_V} {K : aa_K} (h :
    vp_in (i3 + (1 : Int32)) (ac_ST L xs 2).2.1 ∧
    vp_in (i3 + (2 : Int32)) (ac_ST L xs 2).2.1 ∧
    vp_in (i3 + (3 : Int32)) (ac_ST L xs 2).2.1 ∧
    ab_E G (ac_ST L xs) l d ac_SK 177 [.ref 0, .int ((ac_ST L xs 2).2.2 ((i3 + (1 : Int32))).toNatClampNeg), .int ((ac_ST L xs 2).2.2 ((i3 + (2 : Int32))).toNatClampNeg), .int ((ac_ST L xs 2).2.2 ((i3 + (3 : Int32))).toNatClampNeg)] V (aa_rI (fun x1 V1 =>
      vp_in (i3 + (1 : Int32)) (ac_ST L xs 2).2.1 ∧
      vp_in (i3 + (2 : Int32)) (ac_ST L xs 2).2.1 ∧
      vp_in (i3 + (3 : Int32)) (ac_ST L xs 2).2.1 ∧
      ab_E G (ac_ST L xs) l d ac_SK 278 [.ref 105, .int ((ac_ST L xs 2).2.2 ((i3 + (1 : Int32))).toNatClampNeg), .int ((ac_ST L xs 2).2.2 ((i3 + (2 : Int32))).toNatClampNeg), .int ((ac_ST L xs 2).2.2 ((i3 + (3 : Int32))).toNatClampNeg)] V1 (aa_rI (fun x2 V2 =>
        (x1 = x2 →
          ab_J G (ac_ST L xs) l (d + 1) 301 1770 [some (.ref 1000002), some (.ref 0), some (.ref 105), some (.int i3)] [] ac_SK V2 ac_SK K) ∧
        (¬ x1 = x2 →
          aa_bit (0 : Int32) ∧ K (some (.int (0 : Int32))) V2)))))) :
    ab_J G (ac_ST L xs) l (d + 1) 301 1535 [some (.ref 1000002), some (.ref 0), some (.ref 105), some (.int i3)] [] ac_SK V ac_SK K := ab_wm cd_301_ok [(18, [true, true, true, true]), (224, [true, true, true, true]), (247, [true, true, true, true]), (290, [true, true, true, true]), (333, [true, true, true, true]), (366, [true, true, true, true]), (399, [true, true, true, true]), (452, [true, true, true, true]), (486, [true, true, true, true]), (519, [true, true, true, true]), (542, [true, true, true, true]), (566, [true, true, true, true]), (629, [true, true, true, true]), (642, [true, true, true, true]), (665, [true, true, true, true]), (699, [true, true, true, true]), (732, [true, true, true, true]), (755, [true, true, true, true]), (768, [true, true, true, true]), (791, [true, true, true, true]), (814, [true, true, true, true]), (837, [true, true, true, true]), (890, [true, true, true, true]), (943, [true, true, true, true]), (976, [true, true, true, true]), (1029, [true, true, true, true]), (1052, [true, true, true, true]), (1096, [true, true, true, true]), (1119, [true, true, true, true]), (1152, [true, true, true, true]), (1195, [true, true, true, true]), (1228, [true, true, true, true]), (1261, [true, true, true, true]), (1274, [true, true, true, true]), (1327, [true, true, true, true]), (1360, [true, true, true, true]), (1393, [true, true, true, true]), (1426, [true, true, true, true]), (1479, [true, true, true, true]), (1512, [true, true, true, true]), (1535, [true, true, true, true]), (1578, [true, true, true, true]), (1621, [true, true, true, true]), (1684, [true, true, true, true]), (1737, [true, true, true, true]), (1770, [true, true, true, true])] 43 _ _ _ _ h

set_option maxRecDepth 20000 in
/-- FrameCountyLaw law([I)Z, from 1578 -/
theorem vc_301_1578 {G : ab_G} {L : Nat} {xs : Nat → Int32} {l : Launch} {d : Nat} {i3 : Int32} {V : aa_V} {K : aa_K} (h :
    vp_in (i3 + (1 : Int32)) (ac_ST L xs 2).2.1 ∧
    vp_in (i3 + (2 : Int32)) (ac_ST L xs 2).2.1 ∧
    vp_in (i3 + (3 : Int32)) (ac_ST L xs 2).2.1 ∧
    ab_E G (ac_ST L xs) l d ac_SK 178 [.ref 0, .int ((ac_ST L xs 2).2.2 ((i3 + (1 : Int32))).toNatClampNeg), .int ((ac_ST L xs 2).2.2 ((i3 + (2 : Int32))).toNatClampNeg), .int ((ac_ST L xs 2).2.2 ((i3 + (3 : Int32))).toNatClampNeg)] V (aa_rI (fun x1 V1 =>
      vp_in (i3 + (1 : Int32)) (ac_ST L xs 2).2.1 ∧
      vp_in (i3 + (2 : Int32)) (ac_ST L xs 2).2.1 ∧
      vp_in (i3 + (3 : Int32)) (ac_ST L xs 2).2.1 ∧
      ab_E G (ac_ST L xs) l d ac_SK 280 [.ref 105, .int ((ac_ST L xs 2).2.2 ((i3 + (1 : Int32))).toNatClampNeg), .int ((ac_ST L xs 2).2.2 ((i3 + (2 : Int32))).toNatClampNeg), .int ((ac_ST L xs 2).2.2 ((i3 + (3 : Int32))).toNatClampNeg)] V1 (aa_rI (fun x2 V2 =>
        (x1 = x2 →
          ab_J G (ac_ST L xs) l (d + 1) 301 1770 [some (.ref 1000002), some (.ref 0), some (.ref 105), some (.int i3)] [] ac_SK V2 ac_SK K) ∧
        (¬ x1 = x2 →
          aa_bit (0 : Int32) ∧ K (some (.int (0 : Int32))) V2)))))) :
    ab_J G (ac_ST L xs) l (d + 1) 301 1578 [some (.ref 1000002), some (.ref 0), some (.ref 105), some (.int i3)] [] ac_SK V ac_SK K := ab_wm cd_301_ok [(18, [true, true, true, true]), (224, [true, true, true, true]), (247, [true, true, true, true]), (290, [true, true, true, true]), (333, [true, true, true, true]), (366, [true, true, true, true]), (399, [true, true, true, true]), (452, [true, true, true, true]), (486, [true, true, true, true]), (519, [true, true, true, true]), (542, [true, true, true, true]), (566, [true, true, true, true]), (629, [true, true, true, true]), (642, [true, true, true, true]), (665, [true, true, true, true]), (699, [true, true, true, true]), (732, [true, true, true, true]), (755, [true, true, true, true]), (768, [true, true, true, true]), (791, [true, true, true, true]), (814, [true, true, true, true]), (837, [true, true, true, true]), (890, [true, true, true, true]), (943, [true, true, true, true]), (976, [true, true, true, true]), (1029, [true, true, true, true]), (1052, [true, true, true, true]), (1096, [true, true, true, true]), (1119, [true, true, true, true]), (1152, [true, true, true, true]), (1195, [true, true, true, true]), (1228, [true, true, true, true]), (1261, [true, true, true, true]), (1274, [true, true, true, true]), (1327, [true, true, true, true]), (1360, [true, true, true, true]), (1393, [true, true, true, true]), (1426, [true, true, true, true]), (1479, [true, true, true, true]), (1512, [true, true, true, true]), (1535, [true, true, true, true]), (1578, [true, true, true, true]), (1621, [true, true, true, true]), (1684, [true, true, true, true]), (1737, [true, true, true, true]), (1770, [true, true, true, true])] 43 _ _ _ _ h

set_option maxRecDepth 20000 in
/-- FrameCountyLaw law([I)Z, from 1621 -/
theorem vc_301_1621 {G : ab_G} {L : Nat} {xs : Nat → Int32} {l : Launch} {d : Nat} {i3 : Int32} {V : aa_V} {K : aa_K} (h :
    vp_in (i3 + (1 : Int32)) (ac_ST L xs 2).2.1 ∧
    vp_in (i3 + (2 : Int32)) (ac_ST L xs 2).2.1 ∧
    vp_in (i3 + (3 : Int32)) (ac_ST L xs 2).2.1 ∧
    vp_in (i3 + (4 : Int32)) (ac_ST L xs 2).2.1 ∧
    vp_in (i3 + (5 : Int32)) (ac_ST L xs 2).2.1 ∧
    ab_E G (ac_ST L xs) l d ac_SK 179 [.ref 0, .int ((ac_ST L xs 2).2.2 ((i3 + (1 : Int32))).toNatClampNeg), .int ((ac_ST L xs 2).2.2 ((i3 + (2 : Int32))).toNatClampNeg), .int ((ac_ST L xs 2).2.2 ((i3 + (3 : Int32))).toNatClampNeg), .int ((ac_ST L xs 2).2.2 ((i3 + (4 : Int32))).toNatClampNeg), .int ((ac_ST L xs 2).2.2 ((i3 + (5 : Int32))).toNatClampNeg)] V (aa_rI (fun x1 V1 =>
      vp_in (i3 + (1 : Int32)) (ac_ST L xs 2).2.1 ∧
      vp_in (i3 + (2 : Int32)) (ac_ST L xs 2).2.1 ∧
      vp_in (i3 + (3 : Int32)) (ac_ST L xs 2).2.1 ∧
      vp_in (i3 + (4 : Int32)) (ac_ST L xs 2).2.1 ∧
      vp_in (i3 + (5 : Int32)) (ac_ST L xs 2).2.1 ∧
      ab_E G (ac_ST L xs) l d ac_SK 281 [.ref 105, .int ((ac_ST L xs 2).2.2 ((i3 + (1 : Int32))).toNatClampNeg), .int ((ac_ST L xs 2).2.2 ((i3 + (2 : Int32))).toNatClampNeg), .int ((ac_ST L xs 2).2.2 ((i3 + (3 : Int32))).toNatClampNeg), .int ((ac_ST L xs 2).2.2 ((i3 + (4 : Int32))).toNatClampNeg), .int ((ac_ST L xs 2).2.2 ((i3 + (5 : Int32))).toNatClampNeg)] V1 (aa_rI (fun x2 V2 =>
        (x1 = x2 →
          ab_J G (ac_ST L xs) l (d + 1) 301 1770 [some (.ref 1000002), some (.ref 0), some (.ref 105), some (.int i3)] [] ac_SK V2 ac_SK K) ∧
        (¬ x1 = x2 →
          aa_bit (0 : Int32) ∧ K (some (.int (0 : Int32))) V2)))))) :
    ab_J G (ac_ST L xs) l (d + 1) 301 1621 [some (.ref 1000002), some (.ref 0), some (.ref 105), some (.int i3)] [] ac_SK V ac_SK K := ab_wm cd_301_ok [(18, [true, true, true, true]), (224, [true, true, true, true]), (247, [true, true, true, true]), (290, [true, true, true, true]), (333, [true, true, true, true]), (366, [true, true, true, true]), (399, [true, true, true, true]), (452, [true, true, true, true]), (486, [true, true, true, true]), (519, [true, true, true, true]), (542, [true, true, true, true]), (566, [true, true, true, true]), (629, [true, true, true, true]), (642, [true, true, true, true]), (665, [true, true, true, true]), (699, [true, true, true, true]), (732, [true, true, true, true]), (755, [true, true, true, true]), (768, [true, true, true, true]), (791, [true, true, true, true]), (814, [true, true, true, true]), (837, [true, true, true, true]), (890, [true, true, true, true]), (943, [true, true, true, true]), (976, [true, true, true, true]), (1029, [true, true, true, true]), (1052, [true, true, true, true]), (1096, [true, true, true, true]), (1119, [true, true, true, true]), (1152, [true, true, true, true]), (1195, [true, true, true, true]), (1228, [true, true, true, true]), (1261, [true, true, true, true]), (1274, [true, true, true, true]), (1327, [true, true, true, true]), (1360, [true, true, true, true]), (1393, [true, true, true, true]), (1426, [true, true, true, true]), (1479, [true, true, true, true]), (1512, [true, true, true, true]), (1535, [true, true, true, true]), (1578, [true, true, true, true]), (1621, [true, true, true, true]), (1684, [true, true, true, true]), (1737, [true, true, true, true]), (1770, [true, true, true, true])] 63 _ _ _ _ h

set_option maxRecDepth 20000 in
/-- FrameCountyLaw law([I)Z, from 1684 -/
theorem vc_301_1684 {G : ab_G} {L : Nat} {xs : Nat → Int32} {l : Launch} {d : Nat} {i3 : Int32} {V : aa_V} {K : aa_K} (h :
    vp_in (i3 + (1 : Int32)) (ac_ST L xs 2).2.1 ∧
    vp_in (i3 + (2 : Int32)) (ac_ST L xs 2).2.1 ∧
    vp_in (i3 + (3 : Int32)) (ac_ST L xs 2).2.1 ∧
    vp_in (i3 + (4 : Int32)) (ac_ST L xs 2).2.1 ∧
    ab_E G (ac_ST L xs) l d ac_SK 180 [.ref 0, .int ((ac_ST L xs 2).2.2 ((i3 + (1 : Int32))).toNatClampNeg), .int ((ac_ST L xs 2).2.2 ((i3 + (2 : Int32))).toNatClampNeg), .int ((ac_ST L xs 2).2.2 ((i3 + (3 : Int32))).toNatClampNeg), .int ((ac_ST L xs 2).2.2 ((i3 + (4 : Int32))).toNatClampNeg)] V (aa_rI (fun x1 V1 =>
      vp_in (i3 + (1 : Int32)) (ac_ST L xs 2).2.1 ∧
      vp_in (i3 + (2 : Int32)) (ac_ST L xs 2).2.1 ∧
      vp_in (i3 + (3 : Int32)) (ac_ST L xs 2).2.1 ∧
      vp_in (i3 + (4 : Int32)) (ac_ST L xs 2).2.1 ∧
      ab_E G (ac_ST L xs) l d ac_SK 282 [.ref 105, .int ((ac_ST L xs 2).2.2 ((i3 + (1 : Int32))).toNatClampNeg), .int ((ac_ST L xs 2).2.2 ((i3 + (2 : Int32))).toNatClampNeg), .int ((ac_ST L xs 2).2.2 ((i3 + (3 : Int32))).toNatClampNeg), .int ((ac_ST L xs 2).2.2 ((i3 + (4 : Int32))).toNatClampNeg)] V1 (aa_rI (fun x2 V2 =>
        (x1 = x2 →
          ab_J G (ac_ST L xs) l (d + 1) 301 1770 [some (.ref 1000002), some (.ref 0), some (.ref 105), some (.int i3)] [] ac_SK V2 ac_SK K) ∧
        (¬ x1 = x2 →
          aa_bit (0 : Int32) ∧ K (some (.int (0 : Int32))) V2)))))) :
    ab_J G (ac_ST L xs) l (d + 1) 301 1684 [some (.ref 1000002), some (.ref 0), some (.ref 105), some (.int i3)] [] ac_SK V ac_SK K := ab_wm cd_301_ok [(18, [true, true, true, true]), (224, [true, true, true, true]), (247, [true, true, true, true]), (290, [true, true, true, true]), (333, [true, true, true, true]), (366, [true, true, true, true]), (399, [true, true, true, true]), (452, [true, true, true, true]), (486, [true, true, true, true]), (519, [true, true, true, true]), (542, [true, true, true, true]), (566, [true, true, true, true]), (629, [true, true, true, true]), (642, [true, true, true, true]), (665, [true, true, true, true]), (699, [true, true, true, true]), (732, [true, true, true, true]), (755, [true, true, true, true]), (768, [true, true, true, true]), (791, [true, true, true, true]), (814, [true, true, true, true]), (837, [true, true, true, true]), (890, [true, true, true, true]), (943, [true, true, true, true]), (976, [true, true, true, true]), (1029, [true, true, true, true]), (1052, [true, true, true, true]), (1096, [true, true, true, true]), (1119, [true, true, true, true]), (1152, [true, true, true, true]), (1195, [true, true, true, true]), (1228, [true, true, true, true]), (1261, [true, true, true, true]), (1274, [true, true, true, true]), (1327, [true, true, true, true]), (1360, [true, true, true, true]), (1393, [true, true, true, true]), (1426, [true, true, true, true]), (1479, [true, true, true, true]), (1512, [true, true, true, true]), (1535, [true, true, true, true]), (1578, [true, true, true, true]), (1621, [true, true, true, true]), (1684, [true, true, true, true]), (1737, [true, true, true, true]), (1770, [true, true, true, true])] 53 _ _ _ _ h

set_option maxRecDepth 20000 in
/-- FrameCountyLaw law([I)Z, from 1737 -/
theorem vc_301_1737 {G : ab_G} {L : Nat} {xs : Nat → Int32} {l : Launch} {d : Nat} {i3 : Int32} {V : aa_V} {K : aa_K} (h :
    vp_in (i3 + (1 : Int32)) (ac_ST L xs 2).2.1 ∧
    vp_in (i3 + (2 : Int32)) (ac_ST L xs 2).2.1 ∧
    ab_E G (ac_ST L xs) l d ac_SK 181 [.ref 0, .int ((ac_ST L xs 2).2.2 ((i3 + (1 : Int32))).toNatClampNeg), .int ((ac_ST L xs 2).2.2 ((i3 + (2 : Int32))).toNatClampNeg)] V (aa_rI (fun x1 V1 =>
      vp_in (i3 + (1 : Int32)) (ac_ST L xs 2).2.1 ∧
      vp_in (i3 + (2 : Int32)) (ac_ST L xs 2).2.1 ∧
      ab_E G (ac_ST L xs) l d ac_SK 284 [.ref 105, .int ((ac_ST L xs 2).2.2 ((i3 + (1 : Int32))).toNatClampNeg), .int ((ac_ST L xs 2).2.2 ((i3 + (2 : Int32))).toNatClampNeg)] V1 (aa_rI (fun x2 V2 =>
        (x1 = x2 →
          ab_J G (ac_ST L xs) l (d + 1) 301 1770 [some (.ref 1000002), some (.ref 0), some (.ref 105), some (.int i3)] [] ac_SK V2 ac_SK K) ∧
        (¬ x1 = x2 →
          aa_bit (0 : Int32) ∧ K (some (.int (0 : Int32))) V2)))))) :
    ab_J G (ac_ST L xs) l (d + 1) 301 1737 [some (.ref 1000002), some (.ref 0), some (.ref 105), some (.int i3)] [] ac_SK V ac_SK K := ab_wm cd_301_ok [(18, [true, true, true, true]), (224, [true, true, true, true]), (247, [true, true, true, true]), (290, [true, true, true, true]), (333, [true, true, true, true]), (366, [true, true, true, true]), (399, [true, true, true, true]), (452, [true, true, true, true]), (486, [true, true, true, true]), (519, [true, true, true, true]), (542, [true, true, true, true]), (566, [true, true, true, true]), (629, [true, true, true, true]), (642, [true, true, true, true]), (665, [true, true, true, true]), (699, [true, true, true, true]), (732, [true, true, true, true]), (755, [true, true, true, true]), (768, [true, true, true, true]), (791, [true, true, true, true]), (814, [true, true, true, true]), (837, [true, true, true, true]), (890, [true, true, true, true]), (943, [true, true, true, true]), (976, [true, true, true, true]), (1029, [true, true, true, true]), (1052, [true, true, true, true]), (1096, [true, true, true, true]), (1119, [true, true, true, true]), (1152, [true, true, true, true]), (1195, [true, true, true, true]), (1228, [true, true, true, true]), (1261, [true, true, true, true]), (1274, [true, true, true, true]), (1327, [true, true, true, true]), (1360, [true, true, true, true]), (1393, [true, true, true, true]), (1426, [true, true, true, true]), (1479, [true, true, true, true]), (1512, [true, true, true, true]), (1535, [true, true, true, true]), (1578, [true, true, true, true]), (1621, [true, true, true, true]), (1684, [true, true, true, true]), (1737, [true, true, true, true]), (1770, [true, true, true, true])] 33 _ _ _ _ h

set_option maxRecDepth 20000 in
/-- FrameCountyLaw law([I)Z, from 1770 -/
theorem vc_301_1770 {G : ab_G} {L : Nat} {xs : Nat → Int32} {l : Launch} {d : Nat} {i3 : Int32} {V : aa_V} {K : aa_K} (h :
    ab_J G (ac_ST L xs) l (d + 1) 301 18 [some (.ref 1000002), some (.ref 0), some (.ref 105), some (.int (i3 + 6))] [] ac_SK V ac_SK K) :
    ab_J G (ac_ST L xs) l (d + 1) 301 1770 [some (.ref 1000002), some (.ref 0), some (.ref 105), some (.int i3)] [] ac_SK V ac_SK K := ab_wm cd_301_ok [(18, [true, true, true, true]), (224, [true, true, true, true]), (247, [true, true, true, true]), (290, [true, true, true, true]), (333, [true, true, true, true]), (366, [true, true, true, true]), (399, [true, true, true, true]), (452, [true, true, true, true]), (486, [true, true, true, true]), (519, [true, true, true, true]), (542, [true, true, true, true]), (566, [true, true, true, true]), (629, [true, true, true, true]), (642, [true, true, true, true]), (665, [true, true, true, true]), (699, [true, true, true, true]), (732, [true, true, true, true]), (755, [true, true, true, true]), (768, [true, true, true, true]), (791, [true, true, true, true]), (814, [true, true, true, true]), (837, [true, true, true, true]), (890, [true, true, true, true]), (943, [true, true, true, true]), (976, [true, true, true, true]), (1029, [true, true, true, true]), (1052, [true, true, true, true]), (1096, [true, true, true, true]), (1119, [true, true, true, true]), (1152, [true, true, true, true]), (1195, [true, true, true, true]), (1228, [true, true, true, true]), (1261, [true, true, true, true]), (1274, [true, true, true, true]), (1327, [true, true, true, true]), (1360, [true, true, true, true]), (1393, [true, true, true, true]), (1426, [true, true, true, true]), (1479, [true, true, true, true]), (1512, [true, true, true, true]), (1535, [true, true, true, true]), (1578, [true, true, true, true]), (1621, [true, true, true, true]), (1684, [true, true, true, true]), (1737, [true, true, true, true]), (1770, [true, true, true, true])] 8 _ _ _ _ h
