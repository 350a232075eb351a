/-! stretches, with the small methods gone into -/
set_option maxRecDepth 20000 in
/-- FrameCountyModel hasStruck(I)Z, from 0 -/
theorem iv_231_0 {G : ab_G} {L : Nat} {xs : Nat → Int32} {l : Launch} {d : Nat} {i1 : Int32} {V : aa_V} {K : aa_K} (h :
    ab_J G (ac_ST L xs) l (d + 2) 231 4 [some (.ref 105), some (.int i1), some (.int (0 : Int32)), some (.int (0 : Int32))] [] ac_SK V ac_SK K) :
    ab_E G (ac_ST L xs) l (d + 2) ac_SK 231 [.ref 105, .int i1] V K := by
  refine vc_231_0 ?_
  exact h

set_option maxRecDepth 20000 in
/-- FrameCountyModel hasStruck(I)Z, from 4 -/
theorem iv_231_4 {G : ab_G} {L : Nat} {xs : Nat → Int32} {l : Launch} {d : Nat} {i1 : Int32} {i2 : Int32} {i3 : Int32} {V : aa_V} {K : aa_K} (h :
    (i3 < (V 105 12) →
      (i2 = 0 →
        vp_in i3 20 ∧
        ((V 111 ((i3).toNatClampNeg)) = i1 →
          vp_in i3 20 ∧
          ((V 114 ((i3).toNatClampNeg)) = (1 : Int32) →
            vp_in i3 20 ∧
            ((V 115 ((i3).toNatClampNeg)) = (V 105 2) →
              ab_J G (ac_ST L xs) l (d + 2) 231 4 [some (.ref 105), some (.int i1), some (.int (1 : Int32)), some (.int (i3 + 1))] [] ac_SK V ac_SK K) ∧
            (¬ (V 115 ((i3).toNatClampNeg)) = (V 105 2) →
              ab_J G (ac_ST L xs) l (d + 2) 231 4 [some (.ref 105), some (.int i1), some (.int (0 : Int32)), some (.int (i3 + 1))] [] ac_SK V ac_SK K)) ∧
          (¬ (V 114 ((i3).toNatClampNeg)) = (1 : Int32) →
            ab_J G (ac_ST L xs) l (d + 2) 231 4 [some (.ref 105), some (.int i1), some (.int (0 : Int32)), some (.int (i3 + 1))] [] ac_SK V ac_SK K)) ∧
        (¬ (V 111 ((i3).toNatClampNeg)) = i1 →
          ab_J G (ac_ST L xs) l (d + 2) 231 4 [some (.ref 105), some (.int i1), some (.int (0 : Int32)), some (.int (i3 + 1))] [] ac_SK V ac_SK K)) ∧
      (¬ i2 = 0 →
        ab_J G (ac_ST L xs) l (d + 2) 231 4 [some (.ref 105), some (.int i1), some (.int (1 : Int32)), some (.int (i3 + 1))] [] ac_SK V ac_SK K)) ∧
    (¬ i3 < (V 105 12) →
      aa_bit i2 ∧ K (some (.int i2)) V)) :
    ab_J G (ac_ST L xs) l (d + 2) 231 4 [some (.ref 105), some (.int i1), some (.int i2), some (.int i3)] [] ac_SK V ac_SK K := by
  refine vc_231_4 ?_
  refine ⟨fun c => ?_, fun c => ?_⟩
  · replace h := h.1 c
    refine ⟨fun c => ?_, fun c => ?_⟩
    · replace h := h.1 c
      refine ⟨h.1, ?_⟩
      replace h := h.2
      refine ⟨fun c => ?_, fun c => ?_⟩
      · replace h := h.1 c
        refine vc_230_0 ?_
        refine ⟨h.1, ?_⟩
        replace h := h.2
        refine ⟨fun c => ?_, fun c => ?_⟩
        · replace h := h.1 c
          refine ⟨h.1, ?_⟩
          replace h := h.2
          refine ⟨fun c => ?_, fun c => ?_⟩
          · replace h := h.1 c
            refine ⟨Or.inr rfl, ?_⟩
            refine ⟨fun q => absurd q (by decide), fun q => ?_⟩
            exact h
          · replace h := h.2 c
            refine ⟨Or.inl rfl, ?_⟩
            refine ⟨fun q => ?_, fun q => absurd rfl q⟩
            exact h
        · replace h := h.2 c
          refine ⟨Or.inl rfl, ?_⟩
          refine ⟨fun q => ?_, fun q => absurd rfl q⟩
          exact h
      · replace h := h.2 c
        exact h
    · replace h := h.2 c
      exact h
  · replace h := h.2 c
    exact h

set_option maxRecDepth 20000 in
/-- FrameCountyModel struck()I, from 0 -/
theorem iv_232_0 {G : ab_G} {L : Nat} {xs : Nat → Int32} {l : Launch} {d : Nat} {V : aa_V} {K : aa_K} (h :
    ab_J G (ac_ST L xs) l (d + 2) 232 4 [some (.ref 105), some (.int (0 : Int32)), some (.int (0 : Int32))] [] ac_SK V ac_SK K) :
    ab_E G (ac_ST L xs) l (d + 2) ac_SK 232 [.ref 105] V K := by
  refine vc_232_0 ?_
  exact h

set_option maxRecDepth 20000 in
/-- FrameCountyModel struck()I, from 4 -/
theorem iv_232_4 {G : ab_G} {L : Nat} {xs : Nat → Int32} {l : Launch} {d : Nat} {i1 : Int32} {i2 : Int32} {V : aa_V} {K : aa_K} (h :
    (i2 < (V 105 12) →
      vp_in i2 20 ∧
      ((V 114 ((i2).toNatClampNeg)) = (1 : Int32) →
        vp_in i2 20 ∧
        ((V 115 ((i2).toNatClampNeg)) = (V 105 2) →
          ab_J G (ac_ST L xs) l (d + 2) 232 4 [some (.ref 105), some (.int (i1 ||| ((1 : Int32) <<< (i2 &&& 31)))), some (.int (i2 + 1))] [] ac_SK V ac_SK K) ∧
        (¬ (V 115 ((i2).toNatClampNeg)) = (V 105 2) →
          ab_J G (ac_ST L xs) l (d + 2) 232 4 [some (.ref 105), some (.int (i1 ||| (0 : Int32))), some (.int (i2 + 1))] [] ac_SK V ac_SK K)) ∧
      (¬ (V 114 ((i2).toNatClampNeg)) = (1 : Int32) →
        ab_J G (ac_ST L xs) l (d + 2) 232 4 [some (.ref 105), some (.int (i1 ||| (0 : Int32))), some (.int (i2 + 1))] [] ac_SK V ac_SK K)) ∧
    (¬ i2 < (V 105 12) →
      K (some (.int i1)) V)) :
    ab_J G (ac_ST L xs) l (d + 2) 232 4 [some (.ref 105), some (.int i1), some (.int i2)] [] ac_SK V ac_SK K := by
  refine vc_232_4 ?_
  refine ⟨fun c => ?_, fun c => ?_⟩
  · replace h := h.1 c
    refine vc_230_0 ?_
    refine ⟨h.1, ?_⟩
    replace h := h.2
    refine ⟨fun c => ?_, fun c => ?_⟩
    · replace h := h.1 c
      refine ⟨h.1, ?_⟩
      replace h := h.2
      refine ⟨fun c => ?_, fun c => ?_⟩
      · replace h := h.1 c
        refine ⟨Or.inr rfl, ?_⟩
        refine ⟨fun q => absurd q (by decide), fun q => ?_⟩
        exact h
      · replace h := h.2 c
        refine ⟨Or.inl rfl, ?_⟩
        refine ⟨fun q => ?_, fun q => absurd rfl q⟩
        exact h
    · replace h := h.2 c
      refine ⟨Or.inl rfl, ?_⟩
      refine ⟨fun q => ?_, fun q => absurd rfl q⟩
      exact h
  · replace h := h.2 c
    exact h

set_option maxRecDepth 20000 in
/-- FrameCountyModel spared()I, from 0 -/
theorem iv_233_0 {G : ab_G} {L : Nat} {xs : Nat → Int32} {l : Launch} {d : Nat} {V : aa_V} {K : aa_K} (h :
    ab_J G (ac_ST L xs) l (d + 2) 233 4 [some (.ref 105), some (.int (0 : Int32)), some (.int (0 : Int32))] [] ac_SK V ac_SK K) :
    ab_E G (ac_ST L xs) l (d + 2) ac_SK 233 [.ref 105] V K := by
  refine vc_233_0 ?_
  exact h

set_option maxRecDepth 20000 in
/-- FrameCountyModel spared()I, from 4 -/
theorem iv_233_4 {G : ab_G} {L : Nat} {xs : Nat → Int32} {l : Launch} {d : Nat} {i1 : Int32} {i2 : Int32} {V : aa_V} {K : aa_K} (h :
    (i2 < (V 105 12) →
      vp_in i2 20 ∧
      ((V 114 ((i2).toNatClampNeg)) = 0 →
        vp_in i2 20 ∧
        ab_E G (ac_ST L xs) l (d + 1) ac_SK 231 [.ref 105, .int (V 111 ((i2).toNatClampNeg))] V (aa_rI (fun x1 V1 =>
          (x1 = 0 →
            ab_J G (ac_ST L xs) l (d + 2) 233 4 [some (.ref 105), some (.int (i1 ||| (0 : Int32))), some (.int (i2 + 1))] [] ac_SK V1 ac_SK K) ∧
          (¬ x1 = 0 →
            ab_J G (ac_ST L xs) l (d + 2) 233 4 [some (.ref 105), some (.int (i1 ||| ((1 : Int32) <<< (i2 &&& 31)))), some (.int (i2 + 1))] [] ac_SK V1 ac_SK K)))) ∧
      (¬ (V 114 ((i2).toNatClampNeg)) = 0 →
        ab_J G (ac_ST L xs) l (d + 2) 233 4 [some (.ref 105), some (.int (i1 ||| (0 : Int32))), some (.int (i2 + 1))] [] ac_SK V ac_SK K)) ∧
    (¬ i2 < (V 105 12) →
      K (some (.int i1)) V)) :
    ab_J G (ac_ST L xs) l (d + 2) 233 4 [some (.ref 105), some (.int i1), some (.int i2)] [] ac_SK V ac_SK K := by
  refine vc_233_4 ?_
  exact h

set_option maxRecDepth 20000 in
/-- FrameCountyModel pattern(I)I, from 0 -/
theorem iv_234_0 {G : ab_G} {L : Nat} {xs : Nat → Int32} {l : Launch} {d : Nat} {i1 : Int32} {V : aa_V} {K : aa_K} (h :
    (i1 = 0 →
      ab_E G (ac_ST L xs) l (d + 1) ac_SK 232 [.ref 105] V (aa_rI (fun x1 V1 =>
        K (some (.int x1)) V1))) ∧
    (¬ i1 = 0 →
      (i1 = (1 : Int32) →
        ab_E G (ac_ST L xs) l (d + 1) ac_SK 233 [.ref 105] V (aa_rI (fun x1 V1 =>
          K (some (.int x1)) V1))) ∧
      (¬ i1 = (1 : Int32) →
        K (some (.int (-2 : Int32))) V))) :
    ab_E G (ac_ST L xs) l (d + 2) ac_SK 234 [.ref 105, .int i1] V K := by
  refine vc_234_0 ?_
  exact h

set_option maxRecDepth 20000 in
/-- FrameCountyModel fits(II)Z, from 0 -/
theorem iv_235_0 {G : ab_G} {L : Nat} {xs : Nat → Int32} {l : Launch} {d : Nat} {i1 : Int32} {i2 : Int32} {V : aa_V} {K : aa_K} (h :
    ¬ (300 : Int32) = 0 ∧
    ((i1 / (300 : Int32)) = 0 →
      vp_in i2 20 ∧
      ¬ (100 : Int32) = 0 ∧
      ¬ (3 : Int32) = 0 ∧
      (((i1 / (100 : Int32)) - (i1 / (100 : Int32)) / (3 : Int32) * (3 : Int32)) = 0 →
        ¬ (100 : Int32) = 0 ∧
        ((V 112 ((i2).toNatClampNeg)) < (i1 - i1 / (100 : Int32) * (100 : Int32)) →
          K (some (.int (1 : Int32))) V) ∧
        (¬ (V 112 ((i2).toNatClampNeg)) < (i1 - i1 / (100 : Int32) * (100 : Int32)) →
          K (some (.int (0 : Int32))) V)) ∧
      (¬ ((i1 / (100 : Int32)) - (i1 / (100 : Int32)) / (3 : Int32) * (3 : Int32)) = 0 →
        (((i1 / (100 : Int32)) - (i1 / (100 : Int32)) / (3 : Int32) * (3 : Int32)) = (1 : Int32) →
          ¬ (100 : Int32) = 0 ∧
          ((V 112 ((i2).toNatClampNeg)) = (i1 - i1 / (100 : Int32) * (100 : Int32)) →
            K (some (.int (1 : Int32))) V) ∧
          (¬ (V 112 ((i2).toNatClampNeg)) = (i1 - i1 / (100 : Int32) * (100 : Int32)) →
            K (some (.int (0 : Int32))) V)) ∧
        (¬ ((i1 / (100 : Int32)) - (i1 / (100 : Int32)) / (3 : Int32) * (3 : Int32)) = (1 : Int32) →
          ¬ (100 : Int32) = 0 ∧
          ((i1 - i1 / (100 : Int32) * (100 : Int32)) < (V 112 ((i2).toNatClampNeg)) →
            K (some (.int (1 : Int32))) V) ∧
          (¬ (i1 - i1 / (100 : Int32) * (100 : Int32)) < (V 112 ((i2).toNatClampNeg)) →
            K (some (.int (0 : Int32))) V)))) ∧
    (¬ (i1 / (300 : Int32)) = 0 →
      ¬ (300 : Int32) = 0 ∧
      ((i1 / (300 : Int32)) = (1 : Int32) →
        vp_in i2 20 ∧
        ¬ (100 : Int32) = 0 ∧
        ¬ (3 : Int32) = 0 ∧
        (((i1 / (100 : Int32)) - (i1 / (100 : Int32)) / (3 : Int32) * (3 : Int32)) = 0 →
          ¬ (100 : Int32) = 0 ∧
          ((V 113 ((i2).toNatClampNeg)) < (i1 - i1 / (100 : Int32) * (100 : Int32)) →
            K (some (.int (1 : Int32))) V) ∧
          (¬ (V 113 ((i2).toNatClampNeg)) < (i1 - i1 / (100 : Int32) * (100 : Int32)) →
            K (some (.int (0 : Int32))) V)) ∧
        (¬ ((i1 / (100 : Int32)) - (i1 / (100 : Int32)) / (3 : Int32) * (3 : Int32)) = 0 →
          (((i1 / (100 : Int32)) - (i1 / (100 : Int32)) / (3 : Int32) * (3 : Int32)) = (1 : Int32) →
            ¬ (100 : Int32) = 0 ∧
            ((V 113 ((i2).toNatClampNeg)) = (i1 - i1 / (100 : Int32) * (100 : Int32)) →
              K (some (.int (1 : Int32))) V) ∧
            (¬ (V 113 ((i2).toNatClampNeg)) = (i1 - i1 / (100 : Int32) * (100 : Int32)) →
              K (some (.int (0 : Int32))) V)) ∧
          (¬ ((i1 / (100 : Int32)) - (i1 / (100 : Int32)) / (3 : Int32) * (3 : Int32)) = (1 : Int32) →
            ¬ (100 : Int32) = 0 ∧
            ((i1 - i1 / (100 : Int32) * (100 : Int32)) < (V 113 ((i2).toNatClampNeg)) →
              K (some (.int (1 : Int32))) V) ∧
            (¬ (i1 - i1 / (100 : Int32) * (100 : Int32)) < (V 113 ((i2).toNatClampNeg)) →
              K (some (.int (0 : Int32))) V)))) ∧
      (¬ (i1 / (300 : Int32)) = (1 : Int32) →
        ¬ (300 : Int32) = 0 ∧
        ((i1 / (300 : Int32)) = (2 : Int32) →
          vp_in i2 20 ∧
          ¬ (100 : Int32) = 0 ∧
          ¬ (3 : Int32) = 0 ∧
          (((i1 / (100 : Int32)) - (i1 / (100 : Int32)) / (3 : Int32) * (3 : Int32)) = 0 →
            ¬ (100 : Int32) = 0 ∧
            ((V 110 ((i2).toNatClampNeg)) < (i1 - i1 / (100 : Int32) * (100 : Int32)) →
              K (some (.int (1 : Int32))) V) ∧
            (¬ (V 110 ((i2).toNatClampNeg)) < (i1 - i1 / (100 : Int32) * (100 : Int32)) →
              K (some (.int (0 : Int32))) V)) ∧
          (¬ ((i1 / (100 : Int32)) - (i1 / (100 : Int32)) / (3 : Int32) * (3 : Int32)) = 0 →
            (((i1 / (100 : Int32)) - (i1 / (100 : Int32)) / (3 : Int32) * (3 : Int32)) = (1 : Int32) →
              ¬ (100 : Int32) = 0 ∧
              ((V 110 ((i2).toNatClampNeg)) = (i1 - i1 / (100 : Int32) * (100 : Int32)) →
                K (some (.int (1 : Int32))) V) ∧
              (¬ (V 110 ((i2).toNatClampNeg)) = (i1 - i1 / (100 : Int32) * (100 : Int32)) →
                K (some (.int (0 : Int32))) V)) ∧
            (¬ ((i1 / (100 : Int32)) - (i1 / (100 : Int32)) / (3 : Int32) * (3 : Int32)) = (1 : Int32) →
              ¬ (100 : Int32) = 0 ∧
              ((i1 - i1 / (100 : Int32) * (100 : Int32)) < (V 110 ((i2).toNatClampNeg)) →
                K (some (.int (1 : Int32))) V) ∧
              (¬ (i1 - i1 / (100 : Int32) * (100 : Int32)) < (V 110 ((i2).toNatClampNeg)) →
                K (some (.int (0 : Int32))) V)))) ∧
        (¬ (i1 / (300 : Int32)) = (2 : Int32) →
          ¬ (300 : Int32) = 0 ∧
          ((i1 / (300 : Int32)) = (3 : Int32) →
            vp_in i2 20 ∧
            vp_in (V 111 ((i2).toNatClampNeg)) 8 ∧
            ¬ (100 : Int32) = 0 ∧
            ¬ (3 : Int32) = 0 ∧
            (((i1 / (100 : Int32)) - (i1 / (100 : Int32)) / (3 : Int32) * (3 : Int32)) = 0 →
              ¬ (100 : Int32) = 0 ∧
              ((V 109 (((V 111 ((i2).toNatClampNeg))).toNatClampNeg)) < (i1 - i1 / (100 : Int32) * (100 : Int32)) →
                K (some (.int (1 : Int32))) V) ∧
              (¬ (V 109 (((V 111 ((i2).toNatClampNeg))).toNatClampNeg)) < (i1 - i1 / (100 : Int32) * (100 : Int32)) →
                K (some (.int (0 : Int32))) V)) ∧
            (¬ ((i1 / (100 : Int32)) - (i1 / (100 : Int32)) / (3 : Int32) * (3 : Int32)) = 0 →
              (((i1 / (100 : Int32)) - (i1 / (100 : Int32)) / (3 : Int32) * (3 : Int32)) = (1 : Int32) →
                ¬ (100 : Int32) = 0 ∧
                ((V 109 (((V 111 ((i2).toNatClampNeg))).toNatClampNeg)) = (i1 - i1 / (100 : Int32) * (100 : Int32)) →
                  K (some (.int (1 : Int32))) V) ∧
                (¬ (V 109 (((V 111 ((i2).toNatClampNeg))).toNatClampNeg)) = (i1 - i1 / (100 : Int32) * (100 : Int32)) →
                  K (some (.int (0 : Int32))) V)) ∧
              (¬ ((i1 / (100 : Int32)) - (i1 / (100 : Int32)) / (3 : Int32) * (3 : Int32)) = (1 : Int32) →
                ¬ (100 : Int32) = 0 ∧
                ((i1 - i1 / (100 : Int32) * (100 : Int32)) < (V 109 (((V 111 ((i2).toNatClampNeg))).toNatClampNeg)) →
                  K (some (.int (1 : Int32))) V) ∧
                (¬ (i1 - i1 / (100 : Int32) * (100 : Int32)) < (V 109 (((V 111 ((i2).toNatClampNeg))).toNatClampNeg)) →
                  K (some (.int (0 : Int32))) V)))) ∧
          (¬ (i1 / (300 : Int32)) = (3 : Int32) →
            vp_in i2 20 ∧
            vp_in (V 111 ((i2).toNatClampNeg)) 8 ∧
            ¬ (100 : Int32) = 0 ∧
            ¬ (3 : Int32) = 0 ∧
            (((i1 / (100 : Int32)) - (i1 / (100 : Int32)) / (3 : Int32) * (3 : Int32)) = 0 →
              ¬ (100 : Int32) = 0 ∧
              ((V 108 (((V 111 ((i2).toNatClampNeg))).toNatClampNeg)) < (i1 - i1 / (100 : Int32) * (100 : Int32)) →
                K (some (.int (1 : Int32))) V) ∧
              (¬ (V 108 (((V 111 ((i2).toNatClampNeg))).toNatClampNeg)) < (i1 - i1 / (100 : Int32) * (100 : Int32)) →
                K (some (.int (0 : Int32))) V)) ∧
            (¬ ((i1 / (100 : Int32)) - (i1 / (100 : Int32)) / (3 : Int32) * (3 : Int32)) = 0 →
              (((i1 / (100 : Int32)) - (i1 / (100 : Int32)) / (3 : Int32) * (3 : Int32)) = (1 : Int32) →
                ¬ (100 : Int32) = 0 ∧
                ((V 108 (((V 111 ((i2).toNatClampNeg))).toNatClampNeg)) = (i1 - i1 / (100 : Int32) * (100 : Int32)) →
                  K (some (.int (1 : Int32))) V) ∧
                (¬ (V 108 (((V 111 ((i2).toNatClampNeg))).toNatClampNeg)) = (i1 - i1 / (100 : Int32) * (100 : Int32)) →
                  K (some (.int (0 : Int32))) V)) ∧
              (¬ ((i1 / (100 : Int32)) - (i1 / (100 : Int32)) / (3 : Int32) * (3 : Int32)) = (1 : Int32) →
                ¬ (100 : Int32) = 0 ∧
                ((i1 - i1 / (100 : Int32) * (100 : Int32)) < (V 108 (((V 111 ((i2).toNatClampNeg))).toNatClampNeg)) →
                  K (some (.int (1 : Int32))) V) ∧
                (¬ (i1 - i1 / (100 : Int32) * (100 : Int32)) < (V 108 (((V 111 ((i2).toNatClampNeg))).toNatClampNeg)) →
                  K (some (.int (0 : Int32))) V)))))))) :
    ab_E G (ac_ST L xs) l (d + 1) ac_SK 235 [.ref 105, .int i1, .int i2] V K := by
  refine vc_235_0 ?_
  refine ⟨h.1, ?_⟩
  replace h := h.2
  refine ⟨fun c => ?_, fun c => ?_⟩
  · replace h := h.1 c
    refine ⟨h.1, ?_⟩
    replace h := h.2
    refine ⟨h.1, ?_⟩
    replace h := h.2
    refine ⟨h.1, ?_⟩
    replace h := h.2
    refine ⟨fun c => ?_, fun c => ?_⟩
    · replace h := h.1 c
      refine ⟨h.1, ?_⟩
      replace h := h.2
      refine ⟨fun c => ?_, fun c => ?_⟩
      · replace h := h.1 c
        exact ⟨Or.inr rfl, h⟩
      · replace h := h.2 c
        exact ⟨Or.inl rfl, h⟩
    · replace h := h.2 c
      refine ⟨fun c => ?_, fun c => ?_⟩
      · replace h := h.1 c
        refine ⟨h.1, ?_⟩
        replace h := h.2
        refine ⟨fun c => ?_, fun c => ?_⟩
        · replace h := h.1 c
          exact ⟨Or.inr rfl, h⟩
        · replace h := h.2 c
          exact ⟨Or.inl rfl, h⟩
      · replace h := h.2 c
        refine ⟨h.1, ?_⟩
        replace h := h.2
        refine ⟨fun c => ?_, fun c => ?_⟩
        · replace h := h.1 c
          exact ⟨Or.inr rfl, h⟩
        · replace h := h.2 c
          exact ⟨Or.inl rfl, h⟩
  · replace h := h.2 c
    refine ⟨h.1, ?_⟩
    replace h := h.2
    refine ⟨fun c => ?_, fun c => ?_⟩
    · replace h := h.1 c
      refine ⟨h.1, ?_⟩
      replace h := h.2
      refine ⟨h.1, ?_⟩
      replace h := h.2
      refine ⟨h.1, ?_⟩
      replace h := h.2
      refine ⟨fun c => ?_, fun c => ?_⟩
      · replace h := h.1 c
        refine ⟨h.1, ?_⟩
        replace h := h.2
        refine ⟨fun c => ?_, fun c => ?_⟩
        · replace h := h.1 c
          exact ⟨Or.inr rfl, h⟩
        · replace h := h.2 c
          exact ⟨Or.inl rfl, h⟩
      · replace h := h.2 c
        refine ⟨fun c => ?_, fun c => ?_⟩
        · replace h := h.1 c
          refine ⟨h.1, ?_⟩
          replace h := h.2
          refine ⟨fun c => ?_, fun c => ?_⟩
          · replace h := h.1 c
            exact ⟨Or.inr rfl, h⟩
          · replace h := h.2 c
            exact ⟨Or.inl rfl, h⟩
        · replace h := h.2 c
          refine ⟨h.1, ?_⟩
          replace h := h.2
          refine ⟨fun c => ?_, fun c => ?_⟩
          · replace h := h.1 c
            exact ⟨Or.inr rfl, h⟩
          · replace h := h.2 c
            exact ⟨Or.inl rfl, h⟩
    · replace h := h.2 c
      refine ⟨h.1, ?_⟩
      replace h := h.2
      refine ⟨fun c => ?_, fun c => ?_⟩
      · replace h := h.1 c
        refine ⟨h.1, ?_⟩
        replace h := h.2
        refine ⟨h.1, ?_⟩
        replace h := h.2
        refine ⟨h.1, ?_⟩
        replace h := h.2
        refine ⟨fun c => ?_, fun c => ?_⟩
        · replace h := h.1 c
          refine ⟨h.1, ?_⟩
          replace h := h.2
          refine ⟨fun c => ?_, fun c => ?_⟩
          · replace h := h.1 c
            exact ⟨Or.inr rfl, h⟩
          · replace h := h.2 c
            exact ⟨Or.inl rfl, h⟩
        · replace h := h.2 c
          refine ⟨fun c => ?_, fun c => ?_⟩
          · replace h := h.1 c
            refine ⟨h.1, ?_⟩
            replace h := h.2
            refine ⟨fun c => ?_, fun c => ?_⟩
            · replace h := h.1 c
              exact ⟨Or.inr rfl, h⟩
            · replace h := h.2 c
              exact ⟨Or.inl rfl, h⟩
          · replace h := h.2 c
            refine ⟨h.1, ?_⟩
            replace h := h.2
            refine ⟨fun c => ?_, fun c => ?_⟩
            · replace h := h.1 c
              exact ⟨Or.inr rfl, h⟩
            · replace h := h.2 c
              exact ⟨Or.inl rfl, h⟩
      · replace h := h.2 c
        refine ⟨h.1, ?_⟩
        replace h := h.2
        refine ⟨fun c => ?_, fun c => ?_⟩
        · replace h := h.1 c
          refine ⟨h.1, ?_⟩
          replace h := h.2
          refine ⟨h.1, ?_⟩
          replace h := h.2
          refine ⟨h.1, ?_⟩
          replace h := h.2
          refine ⟨h.1, ?_⟩
          replace h := h.2
          refine ⟨fun c => ?_, fun c => ?_⟩
          · replace h := h.1 c
            refine ⟨h.1, ?_⟩
            replace h := h.2
            refine ⟨fun c => ?_, fun c => ?_⟩
            · replace h := h.1 c
              exact ⟨Or.inr rfl, h⟩
            · replace h := h.2 c
              exact ⟨Or.inl rfl, h⟩
          · replace h := h.2 c
            refine ⟨fun c => ?_, fun c => ?_⟩
            · replace h := h.1 c
              refine ⟨h.1, ?_⟩
              replace h := h.2
              refine ⟨fun c => ?_, fun c => ?_⟩
              · replace h := h.1 c
                exact ⟨Or.inr rfl, h⟩
              · replace h := h.2 c
                exact ⟨Or.inl rfl, h⟩
            · replace h := h.2 c
              refine ⟨h.1, ?_⟩
              replace h := h.2
              refine ⟨fun c => ?_, fun c => ?_⟩
              · replace h := h.1 c
                exact ⟨Or.inr rfl, h⟩
              · replace h := h.2 c
                exact ⟨Or.inl rfl, h⟩
        · replace h := h.2 c
          refine ⟨h.1, ?_⟩
          replace h := h.2
          refine ⟨h.1, ?_⟩
          replace h := h.2
          refine ⟨h.1, ?_⟩
          replace h := h.2
          refine ⟨h.1, ?_⟩
          replace h := h.2
          refine ⟨fun c => ?_, fun c => ?_⟩
          · replace h := h.1 c
            refine ⟨h.1, ?_⟩
            replace h := h.2
            refine ⟨fun c => ?_, fun c => ?_⟩
            · replace h := h.1 c
              exact ⟨Or.inr rfl, h⟩
            · replace h := h.2 c
              exact ⟨Or.inl rfl, h⟩
          · replace h := h.2 c
            refine ⟨fun c => ?_, fun c => ?_⟩
            · replace h := h.1 c
              refine ⟨h.1, ?_⟩
              replace h := h.2
              refine ⟨fun c => ?_, fun c => ?_⟩
              · replace h := h.1 c
                exact ⟨Or.inr rfl, h⟩
              · replace h := h.2 c
                exact ⟨Or.inl rfl, h⟩
            · replace h := h.2 c
              refine ⟨h.1, ?_⟩
              replace h := h.2
              refine ⟨fun c => ?_, fun c => ?_⟩
              · replace h := h.1 c
                exact ⟨Or.inr rfl, h⟩
              · replace h := h.2 c
                exact ⟨Or.inl rfl, h⟩

set_option maxRecDepth 20000 in
/-- FrameCountyModel isLeft(III)Z, from 0 -/
theorem iv_236_0 {G : ab_G} {L : Nat} {xs : Nat → Int32} {l : Launch} {d : Nat} {i1 : Int32} {i2 : Int32} {i3 : Int32} {V : aa_V} {K : aa_K} (h :
    ab_J G (ac_ST L xs) l (d + 2) 236 3 [some (.ref 105), some (.int i1), some (.int i2), some (.int i3), some (.int (0 : Int32))] [] ac_SK V ac_SK K) :
    ab_E G (ac_ST L xs) l (d + 2) ac_SK 236 [.ref 105, .int i1, .int i2, .int i3] V K := by
  refine vc_236_0 ?_
  exact h

set_option maxRecDepth 20000 in
/-- FrameCountyModel isLeft(III)Z, from 3 -/
theorem iv_236_3 {G : ab_G} {L : Nat} {xs : Nat → Int32} {l : Launch} {d : Nat} {i1 : Int32} {i2 : Int32} {i3 : Int32} {i4 : Int32} {V : aa_V} {K : aa_K} (h :
    (i4 < (V 105 12) →
      (((i2 >>> (i4 &&& 31)) &&& (1 : Int32)) = (1 : Int32) →
        ab_E G (ac_ST L xs) l (d + 1) ac_SK 235 [.ref 105, .int i1, .int i4] V (aa_rI (fun x1 V1 =>
          (x1 = 0 →
            K (some (.int (0 : Int32))) V1) ∧
          (¬ x1 = 0 →
            (((i3 >>> (i4 &&& 31)) &&& (1 : Int32)) = (1 : Int32) →
              ab_E G (ac_ST L xs) l (d + 1) ac_SK 235 [.ref 105, .int i1, .int i4] V1 (aa_rI (fun x2 V2 =>
                (x2 = 0 →
                  ab_J G (ac_ST L xs) l (d + 2) 236 3 [some (.ref 105), some (.int i1), some (.int i2), some (.int i3), some (.int (i4 + 1))] [] ac_SK V2 ac_SK K) ∧
                (¬ x2 = 0 →
                  K (some (.int (0 : Int32))) V2)))) ∧
            (¬ ((i3 >>> (i4 &&& 31)) &&& (1 : Int32)) = (1 : Int32) →
              ab_J G (ac_ST L xs) l (d + 2) 236 3 [some (.ref 105), some (.int i1), some (.int i2), some (.int i3), some (.int (i4 + 1))] [] ac_SK V1 ac_SK K))))) ∧
      (¬ ((i2 >>> (i4 &&& 31)) &&& (1 : Int32)) = (1 : Int32) →
        (((i3 >>> (i4 &&& 31)) &&& (1 : Int32)) = (1 : Int32) →
          ab_E G (ac_ST L xs) l (d + 1) ac_SK 235 [.ref 105, .int i1, .int i4] V (aa_rI (fun x1 V1 =>
            (x1 = 0 →
              ab_J G (ac_ST L xs) l (d + 2) 236 3 [some (.ref 105), some (.int i1), some (.int i2), some (.int i3), some (.int (i4 + 1))] [] ac_SK V1 ac_SK K) ∧
            (¬ x1 = 0 →
              K (some (.int (0 : Int32))) V1)))) ∧
        (¬ ((i3 >>> (i4 &&& 31)) &&& (1 : Int32)) = (1 : Int32) →
          ab_J G (ac_ST L xs) l (d + 2) 236 3 [some (.ref 105), some (.int i1), some (.int i2), some (.int i3), some (.int (i4 + 1))] [] ac_SK V ac_SK K))) ∧
    (¬ i4 < (V 105 12) →
      (i2 = 0 →
        K (some (.int (0 : Int32))) V) ∧
      (¬ i2 = 0 →
        K (some (.int (1 : Int32))) V))) :
    ab_J G (ac_ST L xs) l (d + 2) 236 3 [some (.ref 105), some (.int i1), some (.int i2), some (.int i3), some (.int i4)] [] ac_SK V ac_SK K := by
  refine vc_236_3 ?_
  refine ⟨fun c => ?_, fun c => ?_⟩
  · replace h := h.1 c
    refine ⟨fun c => ?_, fun c => ?_⟩
    · replace h := h.1 c
      refine ab_EmI (fun x1 V1 h => ?_) h
      refine ⟨fun c => ?_, fun c => ?_⟩
      · replace h := h.1 c
        exact ⟨Or.inl rfl, h⟩
      · replace h := h.2 c
        refine ⟨fun c => ?_, fun c => ?_⟩
        · replace h := h.1 c
          refine ab_EmI (fun x2 V2 h => ?_) h
          refine ⟨fun c => ?_, fun c => ?_⟩
          · replace h := h.1 c
            exact h
          · replace h := h.2 c
            exact ⟨Or.inl rfl, h⟩
        · replace h := h.2 c
          exact h
    · replace h := h.2 c
      refine ⟨fun c => ?_, fun c => ?_⟩
      · replace h := h.1 c
        refine ab_EmI (fun x1 V1 h => ?_) h
        refine ⟨fun c => ?_, fun c => ?_⟩
        · replace h := h.1 c
          exact h
        · replace h := h.2 c
          exact ⟨Or.inl rfl, h⟩
      · replace h := h.2 c
        exact h
  · replace h := h.2 c
    refine ⟨fun c => ?_, fun c => ?_⟩
    · replace h := h.1 c
      exact ⟨Or.inl rfl, h⟩
    · replace h := h.2 c
      exact ⟨Or.inr rfl, h⟩

set_option maxRecDepth 20000 in
/-- FrameCountyModel left()I, from 0 -/
theorem iv_237_0 {G : ab_G} {L : Nat} {xs : Nat → Int32} {l : Launch} {d : Nat} {V : aa_V} {K : aa_K} (h :
    ab_E G (ac_ST L xs) l (d + 1) ac_SK 232 [.ref 105] V (aa_rI (fun x1 V1 =>
      ab_E G (ac_ST L xs) l (d + 1) ac_SK 233 [.ref 105] V1 (aa_rI (fun x2 V2 =>
        ab_J G (ac_ST L xs) l (d + 2) 237 15 [some (.ref 105), some (.int x1), some (.int x2), some (.int (0 : Int32)), some (.int (0 : Int32))] [] ac_SK V2 ac_SK K))))) :
    ab_E G (ac_ST L xs) l (d + 2) ac_SK 237 [.ref 105] V K := by
  refine vc_237_0 ?_
  exact h

set_option maxRecDepth 20000 in
/-- FrameCountyModel left()I, from 15 -/
theorem iv_237_15 {G : ab_G} {L : Nat} {xs : Nat → Int32} {l : Launch} {d : Nat} {i1 : Int32} {i2 : Int32} {i3 : Int32} {i4 : Int32} {V : aa_V} {K : aa_K} (h :
    (i4 < (1500 : Int32) →
      ab_E G (ac_ST L xs) l (d + 1) ac_SK 236 [.ref 105, .int i4, .int i1, .int i2] V (aa_rI (fun x1 V1 =>
        (x1 = 0 →
          ab_J G (ac_ST L xs) l (d + 2) 237 15 [some (.ref 105), some (.int i1), some (.int i2), some (.int (i3 + (0 : Int32))), some (.int (i4 + 1))] [] ac_SK V1 ac_SK K) ∧
        (¬ x1 = 0 →
          ab_J G (ac_ST L xs) l (d + 2) 237 15 [some (.ref 105), some (.int i1), some (.int i2), some (.int (i3 + (1 : Int32))), some (.int (i4 + 1))] [] ac_SK V1 ac_SK K)))) ∧
    (¬ i4 < (1500 : Int32) →
      K (some (.int i3)) V)) :
    ab_J G (ac_ST L xs) l (d + 2) 237 15 [some (.ref 105), some (.int i1), some (.int i2), some (.int i3), some (.int i4)] [] ac_SK V ac_SK K := by
  refine vc_237_15 ?_
  exact h

set_option maxRecDepth 20000 in
/-- FrameCountyModel form(I)I, from 0 -/
theorem iv_238_0 {G : ab_G} {L : Nat} {xs : Nat → Int32} {l : Launch} {d : Nat} {i1 : Int32} {V : aa_V} {K : aa_K} (h :
    ab_E G (ac_ST L xs) l (d + 1) ac_SK 232 [.ref 105] V (aa_rI (fun x1 V1 =>
      ab_E G (ac_ST L xs) l (d + 1) ac_SK 233 [.ref 105] V1 (aa_rI (fun x2 V2 =>
        ab_J G (ac_ST L xs) l (d + 2) 238 16 [some (.ref 105), some (.int i1), some (.int x1), some (.int x2), some (.int (0 : Int32)), some (.int (0 : Int32))] [] ac_SK V2 ac_SK K))))) :
    ab_E G (ac_ST L xs) l (d + 2) ac_SK 238 [.ref 105, .int i1] V K := by
  refine vc_238_0 ?_
  exact h

set_option maxRecDepth 20000 in
/-- FrameCountyModel form(I)I, from 16 -/
theorem iv_238_16 {G : ab_G} {L : Nat} {xs : Nat → Int32} {l : Launch} {d : Nat} {i1 : Int32} {i2 : Int32} {i3 : Int32} {i4 : Int32} {i5 : Int32} {V : aa_V} {K : aa_K} (h :
    (i5 < (1500 : Int32) →
      ab_E G (ac_ST L xs) l (d + 1) ac_SK 236 [.ref 105, .int i5, .int i2, .int i3] V (aa_rI (fun x1 V1 =>
        (x1 = 0 →
          ab_J G (ac_ST L xs) l (d + 2) 238 16 [some (.ref 105), some (.int i1), some (.int i2), some (.int i3), some (.int i4), some (.int (i5 + 1))] [] ac_SK V1 ac_SK K) ∧
        (¬ x1 = 0 →
          (i4 = i1 →
            K (some (.int i5)) V1) ∧
          (¬ i4 = i1 →
            ab_J G (ac_ST L xs) l (d + 2) 238 16 [some (.ref 105), some (.int i1), some (.int i2), some (.int i3), some (.int (i4 + 1)), some (.int (i5 + 1))] [] ac_SK V1 ac_SK K))))) ∧
    (¬ i5 < (1500 : Int32) →
      K (some (.int (-1 : Int32))) V)) :
    ab_J G (ac_ST L xs) l (d + 2) 238 16 [some (.ref 105), some (.int i1), some (.int i2), some (.int i3), some (.int i4), some (.int i5)] [] ac_SK V ac_SK K := by
  refine vc_238_16 ?_
  exact h

set_option maxRecDepth 20000 in
/-- FrameCountyModel sends(I)I, from 0 -/
theorem iv_239_0 {G : ab_G} {L : Nat} {xs : Nat → Int32} {l : Launch} {d : Nat} {i1 : Int32} {V : aa_V} {K : aa_K} (h :
    (i1 < (0 : Int32) →
      K (some (.int (-2 : Int32))) V) ∧
    (¬ i1 < (0 : Int32) →
      ((1499 : Int32) < i1 →
        K (some (.int (-2 : Int32))) V) ∧
      (¬ (1499 : Int32) < i1 →
        ab_J G (ac_ST L xs) l (d + 2) 239 22 [some (.ref 105), some (.int i1), some (.int (-1 : Int32)), some (.int (0 : Int32)), some (.int (0 : Int32)), none, none] [] ac_SK V ac_SK K))) :
    ab_E G (ac_ST L xs) l (d + 2) ac_SK 239 [.ref 105, .int i1] V K := by
  refine vc_239_0 ?_
  refine iv_isIn (a := i1) (b := (0 : Int32)) (c := (1499 : Int32)) (by decide +kernel) (by decide +kernel) ?_
  refine ⟨fun c => ?_, fun c => ?_⟩
  · replace h := h.1 c
    refine ⟨fun q => ?_, fun q => absurd rfl q⟩
    exact h
  · replace h := h.2 c
    refine ⟨fun c => ?_, fun c => ?_⟩
    · replace h := h.1 c
      refine ⟨fun q => ?_, fun q => absurd rfl q⟩
      exact h
    · replace h := h.2 c
      refine ⟨fun q => absurd q (by decide), fun q => ?_⟩
      exact h

set_option maxRecDepth 20000 in
/-- FrameCountyModel sends(I)I, from 22 -/
theorem iv_239_22 {G : ab_G} {L : Nat} {xs : Nat → Int32} {l : Launch} {d : Nat} {i1 : Int32} {i2 : Int32} {i3 : Int32} {i4 : Int32} {V : aa_V} {K : aa_K} (h :
    (i4 < (V 105 11) →
      ab_J G (ac_ST L xs) l (d + 2) 239 37 [some (.ref 105), some (.int i1), some (.int i2), some (.int i3), some (.int i4), some (.int (0 : Int32)), some (.int (0 : Int32))] [] ac_SK V ac_SK K) ∧
    (¬ i4 < (V 105 11) →
      K (some (.int i2)) V)) :
    ab_J G (ac_ST L xs) l (d + 2) 239 22 [some (.ref 105), some (.int i1), some (.int i2), some (.int i3), some (.int i4), none, none] [] ac_SK V ac_SK K := by
  refine vc_239_22 ?_
  exact h

set_option maxRecDepth 20000 in
/-- FrameCountyModel sends(I)I, from 37 -/
theorem iv_239_37 {G : ab_G} {L : Nat} {xs : Nat → Int32} {l : Launch} {d : Nat} {i1 : Int32} {i2 : Int32} {i3 : Int32} {i4 : Int32} {i5 : Int32} {i6 : Int32} {V : aa_V} {K : aa_K} (h :
    (i6 < (V 105 12) →
      vp_in i6 20 ∧
      ((V 111 ((i6).toNatClampNeg)) = i4 →
        vp_in i6 20 ∧
        ((V 114 ((i6).toNatClampNeg)) = 0 →
          ab_E G (ac_ST L xs) l (d + 1) ac_SK 235 [.ref 105, .int i1, .int i6] V (aa_rI (fun x1 V1 =>
            (x1 = 0 →
              ab_J G (ac_ST L xs) l (d + 2) 239 37 [some (.ref 105), some (.int i1), some (.int i2), some (.int i3), some (.int i4), some (.int (i5 + (0 : Int32))), some (.int (i6 + 1))] [] ac_SK V1 ac_SK K) ∧
            (¬ x1 = 0 →
              ab_J G (ac_ST L xs) l (d + 2) 239 37 [some (.ref 105), some (.int i1), some (.int i2), some (.int i3), some (.int i4), some (.int (i5 + (1 : Int32))), some (.int (i6 + 1))] [] ac_SK V1 ac_SK K)))) ∧
        (¬ (V 114 ((i6).toNatClampNeg)) = 0 →
          ab_J G (ac_ST L xs) l (d + 2) 239 37 [some (.ref 105), some (.int i1), some (.int i2), some (.int i3), some (.int i4), some (.int (i5 + (0 : Int32))), some (.int (i6 + 1))] [] ac_SK V ac_SK K)) ∧
      (¬ (V 111 ((i6).toNatClampNeg)) = i4 →
        ab_J G (ac_ST L xs) l (d + 2) 239 37 [some (.ref 105), some (.int i1), some (.int i2), some (.int i3), some (.int i4), some (.int (i5 + (0 : Int32))), some (.int (i6 + 1))] [] ac_SK V ac_SK K)) ∧
    (¬ i6 < (V 105 12) →
      ab_E G (ac_ST L xs) l (d + 1) ac_SK 231 [.ref 105, .int i4] V (aa_rI (fun x1 V1 =>
        (x1 = 0 →
          (i3 < i5 →
            ab_J G (ac_ST L xs) l (d + 2) 239 22 [some (.ref 105), some (.int i1), some (.int i4), some (.int i5), some (.int (i4 + 1)), none, none] [] ac_SK V1 ac_SK K) ∧
          (¬ i3 < i5 →
            ab_J G (ac_ST L xs) l (d + 2) 239 22 [some (.ref 105), some (.int i1), some (.int i2), some (.int i3), some (.int (i4 + 1)), none, none] [] ac_SK V1 ac_SK K)) ∧
        (¬ x1 = 0 →
          ab_J G (ac_ST L xs) l (d + 2) 239 22 [some (.ref 105), some (.int i1), some (.int i2), some (.int i3), some (.int (i4 + 1)), none, none] [] ac_SK V1 ac_SK K))))) :
    ab_J G (ac_ST L xs) l (d + 2) 239 37 [some (.ref 105), some (.int i1), some (.int i2), some (.int i3), some (.int i4), some (.int i5), some (.int i6)] [] ac_SK V ac_SK K := by
  refine vc_239_37 ?_
  exact h

set_option maxRecDepth 20000 in
/-- FrameCountyModel person(I)I, from 0 -/
theorem iv_241_0 {G : ab_G} {L : Nat} {xs : Nat → Int32} {l : Launch} {d : Nat} {i1 : Int32} {V : aa_V} {K : aa_K} (h :
    (i1 < 0 →
      K (some (.int (-2 : Int32))) V) ∧
    (¬ i1 < 0 →
      (i1 < (8 : Int32) →
        ((V 105 46) = (12 : Int32) →
          K (some (.int (-4 : Int32))) V) ∧
        (¬ (V 105 46) = (12 : Int32) →
          vp_in (V 105 46) 12 ∧
          K (some (.int (((V 105 46) + (1 : Int32)) - (1 : Int32)))) (aa_up (aa_up V 127 (((V 105 46)).toNatClampNeg) i1) 105 46 ((V 105 46) + (1 : Int32))))) ∧
      (¬ i1 < (8 : Int32) →
        K (some (.int (-2 : Int32))) V))) :
    ab_E G (ac_ST L xs) l (d + 2) ac_SK 241 [.ref 105, .int i1] V K := by
  refine vc_241_0 ?_
  refine vc_193_0 ?_
  refine ⟨fun c => ?_, fun c => ?_⟩
  · replace h := h.1 c
    refine ⟨Or.inl rfl, ?_⟩
    refine ⟨fun q => ?_, fun q => absurd rfl q⟩
    exact h
  · replace h := h.2 c
    refine ⟨fun c => ?_, fun c => ?_⟩
    · replace h := h.1 c
      refine ⟨Or.inr rfl, ?_⟩
      refine ⟨fun q => absurd q (by decide), fun q => ?_⟩
      exact h
    · replace h := h.2 c
      refine ⟨Or.inl rfl, ?_⟩
      refine ⟨fun q => ?_, fun q => absurd rfl q⟩
      exact h

set_option maxRecDepth 20000 in
/-- FrameCountyModel seen(IIII)I, from 0 -/
theorem iv_242_0 {G : ab_G} {L : Nat} {xs : Nat → Int32} {l : Launch} {d : Nat} {i1 : Int32} {i2 : Int32} {i3 : Int32} {i4 : Int32} {V : aa_V} {K : aa_K} (h :
    (i1 < 0 →
      K (some (.int (-2 : Int32))) V) ∧
    (¬ i1 < 0 →
      (i1 < (V 105 46) →
        (i2 < 0 →
          K (some (.int (-2 : Int32))) V) ∧
        (¬ i2 < 0 →
          (i2 < (8 : Int32) →
            (i3 < (0 : Int32) →
              K (some (.int (-2 : Int32))) V) ∧
            (¬ i3 < (0 : Int32) →
              ((V 105 2) < i3 →
                K (some (.int (-2 : Int32))) V) ∧
              (¬ (V 105 2) < i3 →
                (i4 < (0 : Int32) →
                  K (some (.int (-2 : Int32))) V) ∧
                (¬ i4 < (0 : Int32) →
                  ((11 : Int32) < i4 →
                    K (some (.int (-2 : Int32))) V) ∧
                  (¬ (11 : Int32) < i4 →
                    ((V 105 47) = (40 : Int32) →
                      K (some (.int (-4 : Int32))) V) ∧
                    (¬ (V 105 47) = (40 : Int32) →
                      vp_in (V 105 47) 40 ∧
                      vp_in (V 105 47) 40 ∧
                      vp_in (V 105 47) 40 ∧
                      vp_in (V 105 47) 40 ∧
                      vp_in (V 105 47) 40 ∧
                      K (some (.int ((V 105 47) + (1 : Int32)))) (aa_up (aa_up (aa_up (aa_up (aa_up (aa_up V 128 (((V 105 47)).toNatClampNeg) i1) 129 (((V 105 47)).toNatClampNeg) i2) 130 (((V 105 47)).toNatClampNeg) i3) 131 (((V 105 47)).toNatClampNeg) i4) 132 (((V 105 47)).toNatClampNeg) (V 105 2)) 105 47 ((V 105 47) + (1 : Int32))))))))) ∧
          (¬ i2 < (8 : Int32) →
            K (some (.int (-2 : Int32))) V))) ∧
      (¬ i1 < (V 105 46) →
        K (some (.int (-2 : Int32))) V))) :
    ab_E G (ac_ST L xs) l (d + 2) ac_SK 242 [.ref 105, .int i1, .int i2, .int i3, .int i4] V K := by
  refine vc_242_0 ?_
  refine vc_240_0 ?_
  refine ⟨fun c => ?_, fun c => ?_⟩
  · replace h := h.1 c
    refine ⟨Or.inl rfl, ?_⟩
    refine ⟨fun q => ?_, fun q => absurd rfl q⟩
    exact h
  · replace h := h.2 c
    refine ⟨fun c => ?_, fun c => ?_⟩
    · replace h := h.1 c
      refine ⟨Or.inr rfl, ?_⟩
      refine ⟨fun q => absurd q (by decide), fun q => ?_⟩
      refine vc_193_0 ?_
      refine ⟨fun c => ?_, fun c => ?_⟩
      · replace h := h.1 c
        refine ⟨Or.inl rfl, ?_⟩
        refine ⟨fun q => ?_, fun q => absurd rfl q⟩
        exact h
      · replace h := h.2 c
        refine ⟨fun c => ?_, fun c => ?_⟩
        · replace h := h.1 c
          refine ⟨Or.inr rfl, ?_⟩
          refine ⟨fun q => absurd q (by decide), fun q => ?_⟩
          refine iv_isIn (a := i3) (b := (0 : Int32)) (c := (V 105 2)) (by decide +kernel) rfl ?_
          refine ⟨fun c => ?_, fun c => ?_⟩
          · replace h := h.1 c
            refine ⟨fun q => ?_, fun q => absurd rfl q⟩
            exact h
          · replace h := h.2 c
            refine ⟨fun c => ?_, fun c => ?_⟩
            · replace h := h.1 c
              refine ⟨fun q => ?_, fun q => absurd rfl q⟩
              exact h
            · replace h := h.2 c
              refine ⟨fun q => absurd q (by decide), fun q => ?_⟩
              refine iv_isIn (a := i4) (b := (0 : Int32)) (c := (11 : Int32)) (by decide +kernel) (by decide +kernel) ?_
              refine ⟨fun c => ?_, fun c => ?_⟩
              · replace h := h.1 c
                refine ⟨fun q => ?_, fun q => absurd rfl q⟩
                exact h
              · replace h := h.2 c
                refine ⟨fun c => ?_, fun c => ?_⟩
                · replace h := h.1 c
                  refine ⟨fun q => ?_, fun q => absurd rfl q⟩
                  exact h
                · replace h := h.2 c
                  refine ⟨fun q => absurd q (by decide), fun q => ?_⟩
                  exact h
        · replace h := h.2 c
          refine ⟨Or.inl rfl, ?_⟩
          refine ⟨fun q => ?_, fun q => absurd rfl q⟩
          exact h
    · replace h := h.2 c
      refine ⟨Or.inl rfl, ?_⟩
      refine ⟨fun q => ?_, fun q => absurd rfl q⟩
      exact h

set_option maxRecDepth 20000 in
/-- FrameCountyModel could(IIIII)Z, from 0 -/
theorem iv_244_0 {G : ab_G} {L : Nat} {xs : Nat → Int32} {l : Launch} {d : Nat} {i1 : Int32} {i2 : Int32} {i3 : Int32} {i4 : Int32} {i5 : Int32} {V : aa_V} {K : aa_K} (h :
    ab_E G (ac_ST L xs) l (d + 1) ac_SK 197 [.ref 105, .int i3] V (aa_rV (fun V1 =>
      vp_in i1 12 ∧
      vp_in (((8 : Int32) * (V1 127 ((i1).toNatClampNeg))) + i2) 64 ∧
      (i4 < (V1 107 (((((8 : Int32) * (V1 127 ((i1).toNatClampNeg))) + i2)).toNatClampNeg)) →
        K (some (.int (0 : Int32))) V1) ∧
      (¬ i4 < (V1 107 (((((8 : Int32) * (V1 127 ((i1).toNatClampNeg))) + i2)).toNatClampNeg)) →
        ab_J G (ac_ST L xs) l (d + 2) 244 31 [some (.ref 105), some (.int i1), some (.int i2), some (.int i3), some (.int i4), some (.int i5), some (.int (0 : Int32))] [] ac_SK V1 ac_SK K)))) :
    ab_E G (ac_ST L xs) l (d + 2) ac_SK 244 [.ref 105, .int i1, .int i2, .int i3, .int i4, .int i5] V K := by
  refine vc_244_0 ?_
  refine ab_EmV (fun V1 h => ?_) h
  refine ⟨h.1, ?_⟩
  replace h := h.2
  refine ⟨h.1, ?_⟩
  replace h := h.2
  refine ⟨fun c => ?_, fun c => ?_⟩
  · replace h := h.1 c
    exact ⟨Or.inl rfl, h⟩
  · replace h := h.2 c
    exact h

set_option maxRecDepth 20000 in
/-- FrameCountyModel could(IIIII)Z, from 31 -/
theorem iv_244_31 {G : ab_G} {L : Nat} {xs : Nat → Int32} {l : Launch} {d : Nat} {i1 : Int32} {i2 : Int32} {i3 : Int32} {i4 : Int32} {i5 : Int32} {i6 : Int32} {V : aa_V} {K : aa_K} (h :
    (i6 < (V 105 47) →
      vp_in i6 40 ∧
      ((V 128 ((i6).toNatClampNeg)) = i1 →
        vp_in i6 40 ∧
        ((V 130 ((i6).toNatClampNeg)) = i3 →
          vp_in i6 40 ∧
          (i5 < (V 132 ((i6).toNatClampNeg)) →
            ab_J G (ac_ST L xs) l (d + 2) 244 31 [some (.ref 105), some (.int i1), some (.int i2), some (.int i3), some (.int i4), some (.int i5), some (.int (i6 + 1))] [] ac_SK V ac_SK K) ∧
          (¬ i5 < (V 132 ((i6).toNatClampNeg)) →
            vp_in i6 40 ∧
            ((i4 - (V 131 ((i6).toNatClampNeg))) < 0 →
              vp_in i6 40 ∧
              vp_in (((8 : Int32) * (V 129 ((i6).toNatClampNeg))) + i2) 64 ∧
              ((-(i4 - (V 131 ((i6).toNatClampNeg)))) < (V 107 (((((8 : Int32) * (V 129 ((i6).toNatClampNeg))) + i2)).toNatClampNeg)) →
                K (some (.int (0 : Int32))) V) ∧
              (¬ (-(i4 - (V 131 ((i6).toNatClampNeg)))) < (V 107 (((((8 : Int32) * (V 129 ((i6).toNatClampNeg))) + i2)).toNatClampNeg)) →
                ab_J G (ac_ST L xs) l (d + 2) 244 31 [some (.ref 105), some (.int i1), some (.int i2), some (.int i3), some (.int i4), some (.int i5), some (.int (i6 + 1))] [] ac_SK V ac_SK K)) ∧
            (¬ (i4 - (V 131 ((i6).toNatClampNeg))) < 0 →
              vp_in i6 40 ∧
              vp_in (((8 : Int32) * (V 129 ((i6).toNatClampNeg))) + i2) 64 ∧
              ((i4 - (V 131 ((i6).toNatClampNeg))) < (V 107 (((((8 : Int32) * (V 129 ((i6).toNatClampNeg))) + i2)).toNatClampNeg)) →
                K (some (.int (0 : Int32))) V) ∧
              (¬ (i4 - (V 131 ((i6).toNatClampNeg))) < (V 107 (((((8 : Int32) * (V 129 ((i6).toNatClampNeg))) + i2)).toNatClampNeg)) →
                ab_J G (ac_ST L xs) l (d + 2) 244 31 [some (.ref 105), some (.int i1), some (.int i2), some (.int i3), some (.int i4), some (.int i5), some (.int (i6 + 1))] [] ac_SK V ac_SK K)))) ∧
        (¬ (V 130 ((i6).toNatClampNeg)) = i3 →
          ab_J G (ac_ST L xs) l (d + 2) 244 31 [some (.ref 105), some (.int i1), some (.int i2), some (.int i3), some (.int i4), some (.int i5), some (.int (i6 + 1))] [] ac_SK V ac_SK K)) ∧
      (¬ (V 128 ((i6).toNatClampNeg)) = i1 →
        ab_J G (ac_ST L xs) l (d + 2) 244 31 [some (.ref 105), some (.int i1), some (.int i2), some (.int i3), some (.int i4), some (.int i5), some (.int (i6 + 1))] [] ac_SK V ac_SK K)) ∧
    (¬ i6 < (V 105 47) →
      K (some (.int (1 : Int32))) V)) :
    ab_J G (ac_ST L xs) l (d + 2) 244 31 [some (.ref 105), some (.int i1), some (.int i2), some (.int i3), some (.int i4), some (.int i5), some (.int i6)] [] ac_SK V ac_SK K := by
  refine vc_244_31 ?_
  refine ⟨fun c => ?_, fun c => ?_⟩
  · replace h := h.1 c
    refine ⟨h.1, ?_⟩
    replace h := h.2
    refine ⟨fun c => ?_, fun c => ?_⟩
    · replace h := h.1 c
      refine ⟨h.1, ?_⟩
      replace h := h.2
      refine ⟨fun c => ?_, fun c => ?_⟩
      · replace h := h.1 c
        refine ⟨h.1, ?_⟩
        replace h := h.2
        refine ⟨fun c => ?_, fun c => ?_⟩
        · replace h := h.1 c
          exact h
        · replace h := h.2 c
          refine ⟨h.1, ?_⟩
          replace h := h.2
          refine vc_243_0 ?_
          refine ⟨fun c => ?_, fun c => ?_⟩
          · replace h := h.1 c
            refine ⟨h.1, ?_⟩
            replace h := h.2
            refine ⟨h.1, ?_⟩
            replace h := h.2
            refine ⟨fun c => ?_, fun c => ?_⟩
            · replace h := h.1 c
              exact ⟨Or.inl rfl, h⟩
            · replace h := h.2 c
              exact h
          · replace h := h.2 c
            refine ⟨h.1, ?_⟩
            replace h := h.2
            refine ⟨h.1, ?_⟩
            replace h := h.2
            refine ⟨fun c => ?_, fun c => ?_⟩
            · replace h := h.1 c
              exact ⟨Or.inl rfl, h⟩
            · replace h := h.2 c
              exact h
      · replace h := h.2 c
        exact h
    · replace h := h.2 c
      exact h
  · replace h := h.2 c
    exact ⟨Or.inr rfl, h⟩

set_option maxRecDepth 20000 in
/-- FrameCountyModel canBe(IIII)I, from 0 -/
theorem iv_246_0 {G : ab_G} {L : Nat} {xs : Nat → Int32} {l : Launch} {d : Nat} {i1 : Int32} {i2 : Int32} {i3 : Int32} {i4 : Int32} {V : aa_V} {K : aa_K} (h :
    (i1 < 0 →
      K (some (.int (-2 : Int32))) V) ∧
    (¬ i1 < 0 →
      (i1 < (V 105 46) →
        (i2 < 0 →
          K (some (.int (-2 : Int32))) V) ∧
        (¬ i2 < 0 →
          (i2 < (8 : Int32) →
            (i3 < 0 →
              K (some (.int (-2 : Int32))) V) ∧
            (¬ i3 < 0 →
              ¬ (100 : Int32) = 0 ∧
              ((i3 / (100 : Int32)) < (0 : Int32) →
                K (some (.int (-2 : Int32))) V) ∧
              (¬ (i3 / (100 : Int32)) < (0 : Int32) →
                ((399 : Int32) < (i3 / (100 : Int32)) →
                  K (some (.int (-2 : Int32))) V) ∧
                (¬ (399 : Int32) < (i3 / (100 : Int32)) →
                  ¬ (100 : Int32) = 0 ∧
                  ((11 : Int32) < (i3 - i3 / (100 : Int32) * (100 : Int32)) →
                    K (some (.int (-2 : Int32))) V) ∧
                  (¬ (11 : Int32) < (i3 - i3 / (100 : Int32) * (100 : Int32)) →
                    (i4 < (0 : Int32) →
                      K (some (.int (-2 : Int32))) V) ∧
                    (¬ i4 < (0 : Int32) →
                      ((V 105 2) < i4 →
                        K (some (.int (-2 : Int32))) V) ∧
                      (¬ (V 105 2) < i4 →
                        ¬ (100 : Int32) = 0 ∧
                        ¬ (100 : Int32) = 0 ∧
                        ab_E G (ac_ST L xs) l (d + 2) ac_SK 244 [.ref 105, .int i1, .int i2, .int (i3 / (100 : Int32)), .int (i3 - i3 / (100 : Int32) * (100 : Int32)), .int i4] V (aa_rI (fun x1 V1 =>
                          (x1 = 0 →
                            K (some (.int (0 : Int32))) V1) ∧
                          (¬ x1 = 0 →
                            K (some (.int (1 : Int32))) V1)))))))))) ∧
          (¬ i2 < (8 : Int32) →
            K (some (.int (-2 : Int32))) V))) ∧
      (¬ i1 < (V 105 46) →
        K (some (.int (-2 : Int32))) V))) :
    ab_E G (ac_ST L xs) l (d + 3) ac_SK 246 [.ref 105, .int i1, .int i2, .int i3, .int i4] V K := by
  refine vc_246_0 ?_
  refine vc_240_0 ?_
  refine ⟨fun c => ?_, fun c => ?_⟩
  · replace h := h.1 c
    refine ⟨Or.inl rfl, ?_⟩
    refine ⟨fun q => ?_, fun q => absurd rfl q⟩
    exact h
  · replace h := h.2 c
    refine ⟨fun c => ?_, fun c => ?_⟩
    · replace h := h.1 c
      refine ⟨Or.inr rfl, ?_⟩
      refine ⟨fun q => absurd q (by decide), fun q => ?_⟩
      refine vc_193_0 ?_
      refine ⟨fun c => ?_, fun c => ?_⟩
      · replace h := h.1 c
        refine ⟨Or.inl rfl, ?_⟩
        refine ⟨fun q => ?_, fun q => absurd rfl q⟩
        exact h
      · replace h := h.2 c
        refine ⟨fun c => ?_, fun c => ?_⟩
        · replace h := h.1 c
          refine ⟨Or.inr rfl, ?_⟩
          refine ⟨fun q => absurd q (by decide), fun q => ?_⟩
          refine ⟨fun c => ?_, fun c => ?_⟩
          · replace h := h.1 c
            exact h
          · replace h := h.2 c
            refine ⟨h.1, ?_⟩
            replace h := h.2
            refine vc_194_0 ?_
            refine iv_isIn (a := (i3 / (100 : Int32))) (b := (0 : Int32)) (c := (399 : Int32)) (by decide +kernel) (by decide +kernel) ?_
            refine ⟨fun c => ?_, fun c => ?_⟩
            · replace h := h.1 c
              refine ⟨Or.inl rfl, ?_⟩
              refine ⟨fun q => ?_, fun q => absurd rfl q⟩
              exact h
            · replace h := h.2 c
              refine ⟨fun c => ?_, fun c => ?_⟩
              · replace h := h.1 c
                refine ⟨Or.inl rfl, ?_⟩
                refine ⟨fun q => ?_, fun q => absurd rfl q⟩
                exact h
              · replace h := h.2 c
                refine ⟨Or.inr rfl, ?_⟩
                refine ⟨fun q => absurd q (by decide), fun q => ?_⟩
                refine ⟨h.1, ?_⟩
                replace h := h.2
                refine ⟨fun c => ?_, fun c => ?_⟩
                · replace h := h.1 c
                  exact h
                · replace h := h.2 c
                  refine vc_245_0 ?_
                  refine iv_isIn (a := i4) (b := (0 : Int32)) (c := (V 105 2)) (by decide +kernel) rfl ?_
                  refine ⟨fun c => ?_, fun c => ?_⟩
                  · replace h := h.1 c
                    refine ⟨Or.inl rfl, ?_⟩
                    refine ⟨fun q => ?_, fun q => absurd rfl q⟩
                    exact h
                  · replace h := h.2 c
                    refine ⟨fun c => ?_, fun c => ?_⟩
                    · replace h := h.1 c
                      refine ⟨Or.inl rfl, ?_⟩
                      refine ⟨fun q => ?_, fun q => absurd rfl q⟩
                      exact h
                    · replace h := h.2 c
                      refine ⟨Or.inr rfl, ?_⟩
                      refine ⟨fun q => absurd q (by decide), fun q => ?_⟩
                      refine ⟨h.1, ?_⟩
                      replace h := h.2
                      refine ⟨h.1, ?_⟩
                      replace h := h.2
                      exact h
        · replace h := h.2 c
          refine ⟨Or.inl rfl, ?_⟩
          refine ⟨fun q => ?_, fun q => absurd rfl q⟩
          exact h
    · replace h := h.2 c
      refine ⟨Or.inl rfl, ?_⟩
      refine ⟨fun q => ?_, fun q => absurd rfl q⟩
      exact h

set_option maxRecDepth 20000 in
/-- FrameCountyModel suspects(II)I, from 0 -/
theorem iv_248_0 {G : ab_G} {L : Nat} {xs : Nat → Int32} {l : Launch} {d : Nat} {i1 : Int32} {i2 : Int32} {V : aa_V} {K : aa_K} (h :
    (i1 < (0 : Int32) →
      K (some (.int (-2 : Int32))) V) ∧
    (¬ i1 < (0 : Int32) →
      (((V 105 34) - (1 : Int32)) < i1 →
        K (some (.int (-2 : Int32))) V) ∧
      (¬ ((V 105 34) - (1 : Int32)) < i1 →
        (i2 < (0 : Int32) →
          K (some (.int (-2 : Int32))) V) ∧
        (¬ i2 < (0 : Int32) →
          ((V 105 2) < i2 →
            K (some (.int (-2 : Int32))) V) ∧
          (¬ (V 105 2) < i2 →
            ab_J G (ac_ST L xs) l (d + 3) 248 32 [some (.ref 105), some (.int i1), some (.int i2), some (.int (0 : Int32)), some (.int (0 : Int32))] [] ac_SK V ac_SK K))))) :
    ab_E G (ac_ST L xs) l (d + 3) ac_SK 248 [.ref 105, .int i1, .int i2] V K := by
  refine vc_248_0 ?_
  refine iv_isIn (a := i1) (b := (0 : Int32)) (c := ((V 105 34) - (1 : Int32))) (by decide +kernel) rfl ?_
  refine ⟨fun c => ?_, fun c => ?_⟩
  · replace h := h.1 c
    refine ⟨fun q => ?_, fun q => absurd rfl q⟩
    exact h
  · replace h := h.2 c
    refine ⟨fun c => ?_, fun c => ?_⟩
    · replace h := h.1 c
      refine ⟨fun q => ?_, fun q => absurd rfl q⟩
      exact h
    · replace h := h.2 c
      refine ⟨fun q => absurd q (by decide), fun q => ?_⟩
      refine vc_245_0 ?_
      refine iv_isIn (a := i2) (b := (0 : Int32)) (c := (V 105 2)) (by decide +kernel) rfl ?_
      refine ⟨fun c => ?_, fun c => ?_⟩
      · replace h := h.1 c
        refine ⟨Or.inl rfl, ?_⟩
        refine ⟨fun q => ?_, fun q => absurd rfl q⟩
        exact h
      · replace h := h.2 c
        refine ⟨fun c => ?_, fun c => ?_⟩
        · replace h := h.1 c
          refine ⟨Or.inl rfl, ?_⟩
          refine ⟨fun q => ?_, fun q => absurd rfl q⟩
          exact h
        · replace h := h.2 c
          refine ⟨Or.inr rfl, ?_⟩
          refine ⟨fun q => absurd q (by decide), fun q => ?_⟩
          exact h

set_option maxRecDepth 20000 in
/-- FrameCountyModel suspects(II)I, from 32 -/
theorem iv_248_32 {G : ab_G} {L : Nat} {xs : Nat → Int32} {l : Launch} {d : Nat} {i1 : Int32} {i2 : Int32} {i3 : Int32} {i4 : Int32} {V : aa_V} {K : aa_K} (h :
    (i4 < (V 105 46) →
      vp_in i1 30 ∧
      vp_in (V 124 ((i1).toNatClampNeg)) 20 ∧
      vp_in (V 111 (((V 124 ((i1).toNatClampNeg))).toNatClampNeg)) 8 ∧
      vp_in i1 30 ∧
      vp_in i1 30 ∧
      ab_E G (ac_ST L xs) l (d + 1) ac_SK 244 [.ref 105, .int i4, .int (V 108 (((V 111 (((V 124 ((i1).toNatClampNeg))).toNatClampNeg))).toNatClampNeg)), .int (V 125 ((i1).toNatClampNeg)), .int (V 126 ((i1).toNatClampNeg)), .int i2] V (aa_rI (fun x1 V1 =>
        aa_bit x1 ∧
        (x1 = 0 →
          ab_J G (ac_ST L xs) l (d + 3) 248 32 [some (.ref 105), some (.int i1), some (.int i2), some (.int (i3 ||| (0 : Int32))), some (.int (i4 + 1))] [] ac_SK V1 ac_SK K) ∧
        (¬ x1 = 0 →
          ab_J G (ac_ST L xs) l (d + 3) 248 32 [some (.ref 105), some (.int i1), some (.int i2), some (.int (i3 ||| ((1 : Int32) <<< (i4 &&& 31)))), some (.int (i4 + 1))] [] ac_SK V1 ac_SK K)))) ∧
    (¬ i4 < (V 105 46) →
      K (some (.int i3)) V)) :
    ab_J G (ac_ST L xs) l (d + 3) 248 32 [some (.ref 105), some (.int i1), some (.int i2), some (.int i3), some (.int i4)] [] ac_SK V ac_SK K := by
  refine vc_248_32 ?_
  refine ⟨fun c => ?_, fun c => ?_⟩
  · replace h := h.1 c
    refine vc_247_0 ?_
    refine ⟨h.1, ?_⟩
    replace h := h.2
    refine ⟨h.1, ?_⟩
    replace h := h.2
    refine ⟨h.1, ?_⟩
    replace h := h.2
    refine ⟨h.1, ?_⟩
    replace h := h.2
    refine ⟨h.1, ?_⟩
    replace h := h.2
    refine ab_EmI (fun x1 V1 h => ?_) h
    refine ⟨h.1, ?_⟩
    replace h := h.2
    exact h
  · replace h := h.2 c
    exact h

set_option maxRecDepth 20000 in
/-- FrameCountyModel word(IIII)I, from 0 -/
theorem iv_249_0 {G : ab_G} {L : Nat} {xs : Nat → Int32} {l : Launch} {d : Nat} {i1 : Int32} {i2 : Int32} {i3 : Int32} {i4 : Int32} {V : aa_V} {K : aa_K} (h :
    (i1 < (0 : Int32) →
      K (some (.int (-2 : Int32))) V) ∧
    (¬ i1 < (0 : Int32) →
      ((5 : Int32) < i1 →
        K (some (.int (-2 : Int32))) V) ∧
      (¬ (5 : Int32) < i1 →
        (i2 < 0 →
          K (some (.int (-2 : Int32))) V) ∧
        (¬ i2 < 0 →
          (i2 < (V 105 46) →
            (i3 < (0 : Int32) →
              K (some (.int (-2 : Int32))) V) ∧
            (¬ i3 < (0 : Int32) →
              (((V 105 34) - (1 : Int32)) < i3 →
                K (some (.int (-2 : Int32))) V) ∧
              (¬ ((V 105 34) - (1 : Int32)) < i3 →
                (i4 < (0 : Int32) →
                  K (some (.int (-2 : Int32))) V) ∧
                (¬ i4 < (0 : Int32) →
                  ((999 : Int32) < i4 →
                    K (some (.int (-2 : Int32))) V) ∧
                  (¬ (999 : Int32) < i4 →
                    ((V 105 48) = (24 : Int32) →
                      K (some (.int (-4 : Int32))) V) ∧
                    (¬ (V 105 48) = (24 : Int32) →
                      vp_in (V 105 48) 24 ∧
                      vp_in (V 105 48) 24 ∧
                      vp_in (V 105 48) 24 ∧
                      vp_in (V 105 48) 24 ∧
                      vp_in (V 105 48) 24 ∧
                      K (some (.int (((V 105 48) + (1 : Int32)) - (1 : Int32)))) (aa_up (aa_up (aa_up (aa_up (aa_up (aa_up V 133 (((V 105 48)).toNatClampNeg) i1) 134 (((V 105 48)).toNatClampNeg) i2) 135 (((V 105 48)).toNatClampNeg) i3) 136 (((V 105 48)).toNatClampNeg) i4) 137 (((V 105 48)).toNatClampNeg) (V 105 2)) 105 48 ((V 105 48) + (1 : Int32))))))))) ∧
          (¬ i2 < (V 105 46) →
            K (some (.int (-2 : Int32))) V))))) :
    ab_E G (ac_ST L xs) l (d + 2) ac_SK 249 [.ref 105, .int i1, .int i2, .int i3, .int i4] V K := by
  refine vc_249_0 ?_
  refine iv_isIn (a := i1) (b := (0 : Int32)) (c := (5 : Int32)) (by decide +kernel) (by decide +kernel) ?_
  refine ⟨fun c => ?_, fun c => ?_⟩
  · replace h := h.1 c
    refine ⟨fun q => ?_, fun q => absurd rfl q⟩
    exact h
  · replace h := h.2 c
    refine ⟨fun c => ?_, fun c => ?_⟩
    · replace h := h.1 c
      refine ⟨fun q => ?_, fun q => absurd rfl q⟩
      exact h
    · replace h := h.2 c
      refine ⟨fun q => absurd q (by decide), fun q => ?_⟩
      refine vc_240_0 ?_
      refine ⟨fun c => ?_, fun c => ?_⟩
      · replace h := h.1 c
        refine ⟨Or.inl rfl, ?_⟩
        refine ⟨fun q => ?_, fun q => absurd rfl q⟩
        exact h
      · replace h := h.2 c
        refine ⟨fun c => ?_, fun c => ?_⟩
        · replace h := h.1 c
          refine ⟨Or.inr rfl, ?_⟩
          refine ⟨fun q => absurd q (by decide), fun q => ?_⟩
          refine iv_isIn (a := i3) (b := (0 : Int32)) (c := ((V 105 34) - (1 : Int32))) (by decide +kernel) rfl ?_
          refine ⟨fun c => ?_, fun c => ?_⟩
          · replace h := h.1 c
            refine ⟨fun q => ?_, fun q => absurd rfl q⟩
            exact h
          · replace h := h.2 c
            refine ⟨fun c => ?_, fun c => ?_⟩
            · replace h := h.1 c
              refine ⟨fun q => ?_, fun q => absurd rfl q⟩
              exact h
            · replace h := h.2 c
              refine ⟨fun q => absurd q (by decide), fun q => ?_⟩
              refine iv_isIn (a := i4) (b := (0 : Int32)) (c := (999 : Int32)) (by decide +kernel) (by decide +kernel) ?_
              refine ⟨fun c => ?_, fun c => ?_⟩
              · replace h := h.1 c
                refine ⟨fun q => ?_, fun q => absurd rfl q⟩
                exact h
              · replace h := h.2 c
                refine ⟨fun c => ?_, fun c => ?_⟩
                · replace h := h.1 c
                  refine ⟨fun q => ?_, fun q => absurd rfl q⟩
                  exact h
                · replace h := h.2 c
                  refine ⟨fun q => absurd q (by decide), fun q => ?_⟩
                  exact h
        · replace h := h.2 c
          refine ⟨Or.inl rfl, ?_⟩
          refine ⟨fun q => ?_, fun q => absurd rfl q⟩
          exact h

set_option maxRecDepth 20000 in
/-- FrameCountyModel falseWords(I)I, from 0 -/
theorem iv_251_0 {G : ab_G} {L : Nat} {xs : Nat → Int32} {l : Launch} {d : Nat} {i1 : Int32} {V : aa_V} {K : aa_K} (h :
    (i1 < (0 : Int32) →
      K (some (.int (-2 : Int32))) V) ∧
    (¬ i1 < (0 : Int32) →
      ((V 105 2) < i1 →
        K (some (.int (-2 : Int32))) V) ∧
      (¬ (V 105 2) < i1 →
        ab_J G (ac_ST L xs) l (d + 4) 251 15 [some (.ref 105), some (.int i1), some (.int (0 : Int32)), some (.int (0 : Int32))] [] ac_SK V ac_SK K))) :
    ab_E G (ac_ST L xs) l (d + 4) ac_SK 251 [.ref 105, .int i1] V K := by
  refine vc_251_0 ?_
  refine vc_245_0 ?_
  refine iv_isIn (a := i1) (b := (0 : Int32)) (c := (V 105 2)) (by decide +kernel) rfl ?_
  refine ⟨fun c => ?_, fun c => ?_⟩
  · replace h := h.1 c
    refine ⟨Or.inl rfl, ?_⟩
    refine ⟨fun q => ?_, fun q => absurd rfl q⟩
    exact h
  · replace h := h.2 c
    refine ⟨fun c => ?_, fun c => ?_⟩
    · replace h := h.1 c
      refine ⟨Or.inl rfl, ?_⟩
      refine ⟨fun q => ?_, fun q => absurd rfl q⟩
      exact h
    · replace h := h.2 c
      refine ⟨Or.inr rfl, ?_⟩
      refine ⟨fun q => absurd q (by decide), fun q => ?_⟩
      exact h

set_option maxRecDepth 20000 in
/-- FrameCountyModel falseWords(I)I, from 15 -/
theorem iv_251_15 {G : ab_G} {L : Nat} {xs : Nat → Int32} {l : Launch} {d : Nat} {i1 : Int32} {i2 : Int32} {i3 : Int32} {V : aa_V} {K : aa_K} (h :
    (i3 < (V 105 48) →
      vp_in i3 24 ∧
      (i1 < (V 137 ((i3).toNatClampNeg)) →
        ab_J G (ac_ST L xs) l (d + 4) 251 15 [some (.ref 105), some (.int i1), some (.int (i2 ||| (0 : Int32))), some (.int (i3 + 1))] [] ac_SK V ac_SK K) ∧
      (¬ i1 < (V 137 ((i3).toNatClampNeg)) →
        vp_in i3 24 ∧
        vp_in i3 24 ∧
        vp_in (V 135 ((i3).toNatClampNeg)) 30 ∧
        vp_in (V 124 (((V 135 ((i3).toNatClampNeg))).toNatClampNeg)) 20 ∧
        vp_in (V 111 (((V 124 (((V 135 ((i3).toNatClampNeg))).toNatClampNeg))).toNatClampNeg)) 8 ∧
        vp_in (V 135 ((i3).toNatClampNeg)) 30 ∧
        vp_in (V 135 ((i3).toNatClampNeg)) 30 ∧
        ab_E G (ac_ST L xs) l (d + 1) ac_SK 244 [.ref 105, .int (V 134 ((i3).toNatClampNeg)), .int (V 108 (((V 111 (((V 124 (((V 135 ((i3).toNatClampNeg))).toNatClampNeg))).toNatClampNeg))).toNatClampNeg)), .int (V 125 (((V 135 ((i3).toNatClampNeg))).toNatClampNeg)), .int (V 126 (((V 135 ((i3).toNatClampNeg))).toNatClampNeg)), .int i1] V (aa_rI (fun x1 V1 =>
          aa_bit x1 ∧
          (x1 = 0 →
            ab_J G (ac_ST L xs) l (d + 4) 251 15 [some (.ref 105), some (.int i1), some (.int (i2 ||| ((1 : Int32) <<< (i3 &&& 31)))), some (.int (i3 + 1))] [] ac_SK V1 ac_SK K) ∧
          (¬ x1 = 0 →
            ab_J G (ac_ST L xs) l (d + 4) 251 15 [some (.ref 105), some (.int i1), some (.int (i2 ||| (0 : Int32))), some (.int (i3 + 1))] [] ac_SK V1 ac_SK K))))) ∧
    (¬ i3 < (V 105 48) →
      K (some (.int i2)) V)) :
    ab_J G (ac_ST L xs) l (d + 4) 251 15 [some (.ref 105), some (.int i1), some (.int i2), some (.int i3)] [] ac_SK V ac_SK K := by
  refine vc_251_15 ?_
  refine ⟨fun c => ?_, fun c => ?_⟩
  · replace h := h.1 c
    refine ⟨h.1, ?_⟩
    replace h := h.2
    refine ⟨fun c => ?_, fun c => ?_⟩
    · replace h := h.1 c
      exact h
    · replace h := h.2 c
      refine vc_250_0 ?_
      refine ⟨h.1, ?_⟩
      replace h := h.2
      refine ⟨h.1, ?_⟩
      replace h := h.2
      refine vc_247_0 ?_
      refine ⟨h.1, ?_⟩
      replace h := h.2
      refine ⟨h.1, ?_⟩
      replace h := h.2
      refine ⟨h.1, ?_⟩
      replace h := h.2
      refine ⟨h.1, ?_⟩
      replace h := h.2
      refine ⟨h.1, ?_⟩
      replace h := h.2
      refine ab_EmI (fun x1 V1 h => ?_) h
      refine ⟨h.1, ?_⟩
      replace h := h.2
      refine ⟨fun c => ?_, fun c => ?_⟩
      · replace h := h.1 c
        refine ⟨Or.inr rfl, ?_⟩
        refine ⟨fun q => absurd q (by decide), fun q => ?_⟩
        exact h
      · replace h := h.2 c
        refine ⟨Or.inl rfl, ?_⟩
        refine ⟨fun q => ?_, fun q => absurd rfl q⟩
        exact h
  · replace h := h.2 c
    exact h

set_option maxRecDepth 20000 in
/-- FrameCountyModel paid(III)J, from 0 -/
theorem iv_252_0 {G : ab_G} {L : Nat} {xs : Nat → Int32} {l : Launch} {d : Nat} {i1 : Int32} {i2 : Int32} {i3 : Int32} {V : aa_V} {K : aa_K} (h :
    (i1 < (0 : Int32) →
      K (some (.long (-4611686018427387904 : Int64))) V) ∧
    (¬ i1 < (0 : Int32) →
      ((5 : Int32) < i1 →
        K (some (.long (-4611686018427387904 : Int64))) V) ∧
      (¬ (5 : Int32) < i1 →
        (i2 < (0 : Int32) →
          K (some (.long (-4611686018427387904 : Int64))) V) ∧
        (¬ i2 < (0 : Int32) →
          ((1 : Int32) < i2 →
            K (some (.long (-4611686018427387904 : Int64))) V) ∧
          (¬ (1 : Int32) < i2 →
            (i3 < (0 : Int32) →
              K (some (.long (-4611686018427387904 : Int64))) V) ∧
            (¬ i3 < (0 : Int32) →
              ((V 105 2) < i3 →
                K (some (.long (-4611686018427387904 : Int64))) V) ∧
              (¬ (V 105 2) < i3 →
                ab_J G (ac_ST L xs) l (d + 4) 252 40 [some (.ref 105), some (.int i1), some (.int i2), some (.int i3), some (.long (0 : Int64)), none, some (.int (0 : Int32))] [] ac_SK V ac_SK K))))))) :
    ab_E G (ac_ST L xs) l (d + 4) ac_SK 252 [.ref 105, .int i1, .int i2, .int i3] V K := by
  refine vc_252_0 ?_
  refine iv_isIn (a := i1) (b := (0 : Int32)) (c := (5 : Int32)) (by decide +kernel) (by decide +kernel) ?_
  refine ⟨fun c => ?_, fun c => ?_⟩
  · replace h := h.1 c
    refine ⟨fun q => ?_, fun q => absurd rfl q⟩
    exact h
  · replace h := h.2 c
    refine ⟨fun c => ?_, fun c => ?_⟩
    · replace h := h.1 c
      refine ⟨fun q => ?_, fun q => absurd rfl q⟩
      exact h
    · replace h := h.2 c
      refine ⟨fun q => absurd q (by decide), fun q => ?_⟩
      refine iv_isIn (a := i2) (b := (0 : Int32)) (c := (1 : Int32)) (by decide +kernel) (by decide +kernel) ?_
      refine ⟨fun c => ?_, fun c => ?_⟩
      · replace h := h.1 c
        refine ⟨fun q => ?_, fun q => absurd rfl q⟩
        exact h
      · replace h := h.2 c
        refine ⟨fun c => ?_, fun c => ?_⟩
        · replace h := h.1 c
          refine ⟨fun q => ?_, fun q => absurd rfl q⟩
          exact h
        · replace h := h.2 c
          refine ⟨fun q => absurd q (by decide), fun q => ?_⟩
          refine vc_245_0 ?_
          refine iv_isIn (a := i3) (b := (0 : Int32)) (c := (V 105 2)) (by decide +kernel) rfl ?_
          refine ⟨fun c => ?_, fun c => ?_⟩
          · replace h := h.1 c
            refine ⟨Or.inl rfl, ?_⟩
            refine ⟨fun q => ?_, fun q => absurd rfl q⟩
            exact h
          · replace h := h.2 c
            refine ⟨fun c => ?_, fun c => ?_⟩
            · replace h := h.1 c
              refine ⟨Or.inl rfl, ?_⟩
              refine ⟨fun q => ?_, fun q => absurd rfl q⟩
              exact h
            · replace h := h.2 c
              refine ⟨Or.inr rfl, ?_⟩
              refine ⟨fun q => absurd q (by decide), fun q => ?_⟩
              exact h

set_option maxRecDepth 20000 in
/-- FrameCountyModel paid(III)J, from 40 -/
theorem iv_252_40 {G : ab_G} {L : Nat} {xs : Nat → Int32} {l : Launch} {d : Nat} {i1 : Int32} {i2 : Int32} {i3 : Int32} {l4 : Int64} {i6 : Int32} {V : aa_V} {K : aa_K} (h :
    (i6 < (V 105 48) →
      vp_in i6 24 ∧
      ((V 133 ((i6).toNatClampNeg)) = i1 →
        vp_in i6 24 ∧
        (i3 < (V 137 ((i6).toNatClampNeg)) →
          ab_J G (ac_ST L xs) l (d + 4) 252 40 [some (.ref 105), some (.int i1), some (.int i2), some (.int i3), some (.long (l4 + (0 : Int64))), none, some (.int (i6 + 1))] [] ac_SK V ac_SK K) ∧
        (¬ i3 < (V 137 ((i6).toNatClampNeg)) →
          (i2 = 0 →
            vp_in i6 24 ∧
            ab_J G (ac_ST L xs) l (d + 4) 252 40 [some (.ref 105), some (.int i1), some (.int i2), some (.int i3), some (.long (l4 + ((V 136 ((i6).toNatClampNeg)).toInt64))), none, some (.int (i6 + 1))] [] ac_SK V ac_SK K) ∧
          (¬ i2 = 0 →
            vp_in i6 24 ∧
            vp_in i6 24 ∧
            vp_in (V 135 ((i6).toNatClampNeg)) 30 ∧
            vp_in (V 124 (((V 135 ((i6).toNatClampNeg))).toNatClampNeg)) 20 ∧
            vp_in (V 111 (((V 124 (((V 135 ((i6).toNatClampNeg))).toNatClampNeg))).toNatClampNeg)) 8 ∧
            vp_in (V 135 ((i6).toNatClampNeg)) 30 ∧
            vp_in (V 135 ((i6).toNatClampNeg)) 30 ∧
            ab_E G (ac_ST L xs) l (d + 1) ac_SK 244 [.ref 105, .int (V 134 ((i6).toNatClampNeg)), .int (V 108 (((V 111 (((V 124 (((V 135 ((i6).toNatClampNeg))).toNatClampNeg))).toNatClampNeg))).toNatClampNeg)), .int (V 125 (((V 135 ((i6).toNatClampNeg))).toNatClampNeg)), .int (V 126 (((V 135 ((i6).toNatClampNeg))).toNatClampNeg)), .int i3] V (aa_rI (fun x1 V1 =>
              aa_bit x1 ∧
              (x1 = 0 →
                vp_in i6 24 ∧
                ab_J G (ac_ST L xs) l (d + 4) 252 40 [some (.ref 105), some (.int i1), some (.int i2), some (.int i3), some (.long (l4 + ((V1 136 ((i6).toNatClampNeg)).toInt64))), none, some (.int (i6 + 1))] [] ac_SK V1 ac_SK K) ∧
              (¬ x1 = 0 →
                ab_J G (ac_ST L xs) l (d + 4) 252 40 [some (.ref 105), some (.int i1), some (.int i2), some (.int i3), some (.long (l4 + (0 : Int64))), none, some (.int (i6 + 1))] [] ac_SK V1 ac_SK K)))))) ∧
      (¬ (V 133 ((i6).toNatClampNeg)) = i1 →
        ab_J G (ac_ST L xs) l (d + 4) 252 40 [some (.ref 105), some (.int i1), some (.int i2), some (.int i3), some (.long (l4 + (0 : Int64))), none, some (.int (i6 + 1))] [] ac_SK V ac_SK K)) ∧
    (¬ i6 < (V 105 48) →
      K (some (.long l4)) V)) :
    ab_J G (ac_ST L xs) l (d + 4) 252 40 [some (.ref 105), some (.int i1), some (.int i2), some (.int i3), some (.long l4), none, some (.int i6)] [] ac_SK V ac_SK K := by
  refine vc_252_40 ?_
  refine ⟨fun c => ?_, fun c => ?_⟩
  · replace h := h.1 c
    refine ⟨h.1, ?_⟩
    replace h := h.2
    refine ⟨fun c => ?_, fun c => ?_⟩
    · replace h := h.1 c
      refine ⟨h.1, ?_⟩
      replace h := h.2
      refine ⟨fun c => ?_, fun c => ?_⟩
      · replace h := h.1 c
        exact h
      · replace h := h.2 c
        refine ⟨fun c => ?_, fun c => ?_⟩
        · replace h := h.1 c
          refine ⟨h.1, ?_⟩
          replace h := h.2
          exact h
        · replace h := h.2 c
          refine vc_250_0 ?_
          refine ⟨h.1, ?_⟩
          replace h := h.2
          refine ⟨h.1, ?_⟩
          replace h := h.2
          refine vc_247_0 ?_
          refine ⟨h.1, ?_⟩
          replace h := h.2
          refine ⟨h.1, ?_⟩
          replace h := h.2
          refine ⟨h.1, ?_⟩
          replace h := h.2
          refine ⟨h.1, ?_⟩
          replace h := h.2
          refine ⟨h.1, ?_⟩
          replace h := h.2
          refine ab_EmI (fun x1 V1 h => ?_) h
          refine ⟨h.1, ?_⟩
          replace h := h.2
          refine ⟨fun c => ?_, fun c => ?_⟩
          · replace h := h.1 c
            refine ⟨Or.inr rfl, ?_⟩
            refine ⟨fun q => absurd q (by decide), fun q => ?_⟩
            refine ⟨h.1, ?_⟩
            replace h := h.2
            exact h
          · replace h := h.2 c
            refine ⟨Or.inl rfl, ?_⟩
            refine ⟨fun q => ?_, fun q => absurd rfl q⟩
            exact h
    · replace h := h.2 c
      exact h
  · replace h := h.2 c
    exact h

set_option maxRecDepth 20000 in
/-- FrameCountyModel hold(III)I, from 0 -/
theorem iv_253_0 {G : ab_G} {L : Nat} {xs : Nat → Int32} {l : Launch} {d : Nat} {i1 : Int32} {i2 : Int32} {i3 : Int32} {V : aa_V} {K : aa_K} (h :
    ab_J G (ac_ST L xs) l (d + 4) 253 9 [some (.ref 105), some (.int i1), some (.int i2), some (.int i3), some (.int (0 : Int32)), some (.int (0 : Int32)), some (.int (0 : Int32))] [] ac_SK V ac_SK K) :
    ab_E G (ac_ST L xs) l (d + 4) ac_SK 253 [.ref 105, .int i1, .int i2, .int i3] V K := by
  refine vc_253_0 ?_
  exact h

set_option maxRecDepth 20000 in
/-- FrameCountyModel hold(III)I, from 9 -/
theorem iv_253_9 {G : ab_G} {L : Nat} {xs : Nat → Int32} {l : Launch} {d : Nat} {i1 : Int32} {i2 : Int32} {i3 : Int32} {i4 : Int32} {i5 : Int32} {i6 : Int32} {V : aa_V} {K : aa_K} (h :
    (i6 < (V 105 48) →
      vp_in i6 24 ∧
      ((V 134 ((i6).toNatClampNeg)) = i1 →
        vp_in i6 24 ∧
        (i2 < (V 137 ((i6).toNatClampNeg)) →
          ab_J G (ac_ST L xs) l (d + 4) 253 9 [some (.ref 105), some (.int i1), some (.int i2), some (.int i3), some (.int i4), some (.int i5), some (.int (i6 + 1))] [] ac_SK V ac_SK K) ∧
        (¬ i2 < (V 137 ((i6).toNatClampNeg)) →
          vp_in i6 24 ∧
          ((V 133 ((i6).toNatClampNeg)) = i3 →
            ab_J G (ac_ST L xs) l (d + 4) 253 9 [some (.ref 105), some (.int i1), some (.int i2), some (.int i3), some (.int i4), some (.int i5), some (.int (i6 + 1))] [] ac_SK V ac_SK K) ∧
          (¬ (V 133 ((i6).toNatClampNeg)) = i3 →
            vp_in i6 24 ∧
            vp_in i6 24 ∧
            vp_in (V 135 ((i6).toNatClampNeg)) 30 ∧
            vp_in (V 124 (((V 135 ((i6).toNatClampNeg))).toNatClampNeg)) 20 ∧
            vp_in (V 111 (((V 124 (((V 135 ((i6).toNatClampNeg))).toNatClampNeg))).toNatClampNeg)) 8 ∧
            vp_in (V 135 ((i6).toNatClampNeg)) 30 ∧
            vp_in (V 135 ((i6).toNatClampNeg)) 30 ∧
            ab_E G (ac_ST L xs) l (d + 1) ac_SK 244 [.ref 105, .int (V 134 ((i6).toNatClampNeg)), .int (V 108 (((V 111 (((V 124 (((V 135 ((i6).toNatClampNeg))).toNatClampNeg))).toNatClampNeg))).toNatClampNeg)), .int (V 125 (((V 135 ((i6).toNatClampNeg))).toNatClampNeg)), .int (V 126 (((V 135 ((i6).toNatClampNeg))).toNatClampNeg)), .int i2] V (aa_rI (fun x1 V1 =>
              aa_bit x1 ∧
              (x1 = 0 →
                ab_J G (ac_ST L xs) l (d + 4) 253 9 [some (.ref 105), some (.int i1), some (.int i2), some (.int i3), some (.int i4), some (.int i5), some (.int (i6 + 1))] [] ac_SK V1 ac_SK K) ∧
              (¬ x1 = 0 →
                vp_in i6 24 ∧
                ab_J G (ac_ST L xs) l (d + 4) 253 9 [some (.ref 105), some (.int i1), some (.int i2), some (.int i3), some (.int (i4 + 1)), some (.int (i5 + (V1 136 ((i6).toNatClampNeg)))), some (.int (i6 + 1))] [] ac_SK V1 ac_SK K)))))) ∧
      (¬ (V 134 ((i6).toNatClampNeg)) = i1 →
        ab_J G (ac_ST L xs) l (d + 4) 253 9 [some (.ref 105), some (.int i1), some (.int i2), some (.int i3), some (.int i4), some (.int i5), some (.int (i6 + 1))] [] ac_SK V ac_SK K)) ∧
    (¬ i6 < (V 105 48) →
      vp_in (0 : Int32) 6 ∧
      vp_in (1 : Int32) 6 ∧
      vp_in (3 : Int32) 6 ∧
      vp_in (4 : Int32) 6 ∧
      vp_in (5 : Int32) 6 ∧
      ab_E G (ac_ST L xs) l (d + 3) ac_SK 225 [.ref 105, .int (1 : Int32)] (aa_up (aa_up (aa_up (aa_up (aa_up V 122 (((0 : Int32)).toNatClampNeg) (0 : Int32)) 122 (((1 : Int32)).toNatClampNeg) (0 : Int32)) 122 (((3 : Int32)).toNatClampNeg) (0 : Int32)) 122 (((4 : Int32)).toNatClampNeg) i4) 122 (((5 : Int32)).toNatClampNeg) i5) (aa_rI (fun x1 V1 =>
        K (some (.int x1)) V1)))) :
    ab_J G (ac_ST L xs) l (d + 4) 253 9 [some (.ref 105), some (.int i1), some (.int i2), some (.int i3), some (.int i4), some (.int i5), some (.int i6)] [] ac_SK V ac_SK K := by
  refine vc_253_9 ?_
  refine ⟨fun c => ?_, fun c => ?_⟩
  · replace h := h.1 c
    refine ⟨h.1, ?_⟩
    replace h := h.2
    refine ⟨fun c => ?_, fun c => ?_⟩
    · replace h := h.1 c
      refine ⟨h.1, ?_⟩
      replace h := h.2
      refine ⟨fun c => ?_, fun c => ?_⟩
      · replace h := h.1 c
        exact h
      · replace h := h.2 c
        refine ⟨h.1, ?_⟩
        replace h := h.2
        refine ⟨fun c => ?_, fun c => ?_⟩
        · replace h := h.1 c
          exact h
        · replace h := h.2 c
          refine vc_250_0 ?_
          refine ⟨h.1, ?_⟩
          replace h := h.2
          refine ⟨h.1, ?_⟩
          replace h := h.2
          refine vc_247_0 ?_
          refine ⟨h.1, ?_⟩
          replace h := h.2
          refine ⟨h.1, ?_⟩
          replace h := h.2
          refine ⟨h.1, ?_⟩
          replace h := h.2
          refine ⟨h.1, ?_⟩
          replace h := h.2
          refine ⟨h.1, ?_⟩
          replace h := h.2
          refine ab_EmI (fun x1 V1 h => ?_) h
          refine ⟨h.1, ?_⟩
          replace h := h.2
          refine ⟨fun c => ?_, fun c => ?_⟩
          · replace h := h.1 c
            refine ⟨Or.inr rfl, ?_⟩
            refine ⟨fun q => absurd q (by decide), fun q => ?_⟩
            exact h
          · replace h := h.2 c
            refine ⟨Or.inl rfl, ?_⟩
            refine ⟨fun q => ?_, fun q => absurd rfl q⟩
            refine ⟨h.1, ?_⟩
            replace h := h.2
            exact h
    · replace h := h.2 c
      exact h
  · replace h := h.2 c
    refine ⟨h.1, ?_⟩
    replace h := h.2
    refine ⟨h.1, ?_⟩
    replace h := h.2
    refine ⟨h.1, ?_⟩
    replace h := h.2
    refine ⟨h.1, ?_⟩
    replace h := h.2
    refine ⟨h.1, ?_⟩
    replace h := h.2
    exact h

set_option maxRecDepth 20000 in
/-- FrameCountyModel heldWithout(II)I, from 0 -/
theorem iv_254_0 {G : ab_G} {L : Nat} {xs : Nat → Int32} {l : Launch} {d : Nat} {i1 : Int32} {i2 : Int32} {V : aa_V} {K : aa_K} (h :
    ab_J G (ac_ST L xs) l (d + 2) 254 5 [some (.ref 105), some (.int i1), some (.int i2), some (.int (0 : Int32)), some (.int (0 : Int32))] [] ac_SK V ac_SK K) :
    ab_E G (ac_ST L xs) l (d + 2) ac_SK 254 [.ref 105, .int i1, .int i2] V K := by
  refine vc_254_0 ?_
  exact h

set_option maxRecDepth 20000 in
/-- FrameCountyModel heldWithout(II)I, from 5 -/
theorem iv_254_5 {G : ab_G} {L : Nat} {xs : Nat → Int32} {l : Launch} {d : Nat} {i1 : Int32} {i2 : Int32} {i3 : Int32} {i4 : Int32} {V : aa_V} {K : aa_K} (h :
    (i4 < (V 105 46) →
      ab_E G (ac_ST L xs) l (d + 1) ac_SK 253 [.ref 105, .int i4, .int i1, .int i2] V (aa_rI (fun x1 V1 =>
        (x1 = 0 →
          ab_J G (ac_ST L xs) l (d + 2) 254 5 [some (.ref 105), some (.int i1), some (.int i2), some (.int (i3 ||| (0 : Int32))), some (.int (i4 + 1))] [] ac_SK V1 ac_SK K) ∧
        (¬ x1 = 0 →
          ab_J G (ac_ST L xs) l (d + 2) 254 5 [some (.ref 105), some (.int i1), some (.int i2), some (.int (i3 ||| ((1 : Int32) <<< (i4 &&& 31)))), some (.int (i4 + 1))] [] ac_SK V1 ac_SK K)))) ∧
    (¬ i4 < (V 105 46) →
      K (some (.int i3)) V)) :
    ab_J G (ac_ST L xs) l (d + 2) 254 5 [some (.ref 105), some (.int i1), some (.int i2), some (.int i3), some (.int i4)] [] ac_SK V ac_SK K := by
  refine vc_254_5 ?_
  exact h

set_option maxRecDepth 20000 in
/-- FrameCountyModel held(I)I, from 0 -/
theorem iv_255_0 {G : ab_G} {L : Nat} {xs : Nat → Int32} {l : Launch} {d : Nat} {i1 : Int32} {V : aa_V} {K : aa_K} (h :
    (i1 < (0 : Int32) →
      K (some (.int (-2 : Int32))) V) ∧
    (¬ i1 < (0 : Int32) →
      ((V 105 2) < i1 →
        K (some (.int (-2 : Int32))) V) ∧
      (¬ (V 105 2) < i1 →
        ab_E G (ac_ST L xs) l (d + 2) ac_SK 254 [.ref 105, .int i1, .int (-1 : Int32)] V (aa_rI (fun x1 V1 =>
          K (some (.int x1)) V1))))) :
    ab_E G (ac_ST L xs) l (d + 3) ac_SK 255 [.ref 105, .int i1] V K := by
  refine vc_255_0 ?_
  refine vc_245_0 ?_
  refine iv_isIn (a := i1) (b := (0 : Int32)) (c := (V 105 2)) (by decide +kernel) rfl ?_
  refine ⟨fun c => ?_, fun c => ?_⟩
  · replace h := h.1 c
    refine ⟨Or.inl rfl, ?_⟩
    refine ⟨fun q => ?_, fun q => absurd rfl q⟩
    exact h
  · replace h := h.2 c
    refine ⟨fun c => ?_, fun c => ?_⟩
    · replace h := h.1 c
      refine ⟨Or.inl rfl, ?_⟩
      refine ⟨fun q => ?_, fun q => absurd rfl q⟩
      exact h
    · replace h := h.2 c
      refine ⟨Or.inr rfl, ?_⟩
      refine ⟨fun q => absurd q (by decide), fun q => ?_⟩
      exact h

set_option maxRecDepth 20000 in
/-- FrameCountyModel hangs(II)I, from 0 -/
theorem iv_256_0 {G : ab_G} {L : Nat} {xs : Nat → Int32} {l : Launch} {d : Nat} {i1 : Int32} {i2 : Int32} {V : aa_V} {K : aa_K} (h :
    (i1 < (0 : Int32) →
      K (some (.int (-2 : Int32))) V) ∧
    (¬ i1 < (0 : Int32) →
      ((5 : Int32) < i1 →
        K (some (.int (-2 : Int32))) V) ∧
      (¬ (5 : Int32) < i1 →
        (i2 < (0 : Int32) →
          K (some (.int (-2 : Int32))) V) ∧
        (¬ i2 < (0 : Int32) →
          ((V 105 2) < i2 →
            K (some (.int (-2 : Int32))) V) ∧
          (¬ (V 105 2) < i2 →
            ab_E G (ac_ST L xs) l (d + 2) ac_SK 254 [.ref 105, .int i2, .int (-1 : Int32)] V (aa_rI (fun x1 V1 =>
              ab_E G (ac_ST L xs) l (d + 2) ac_SK 254 [.ref 105, .int i2, .int i1] V1 (aa_rI (fun x2 V2 =>
                K (some (.int (x1 &&& (x2 ^^^ (-1 : Int32))))) V2))))))))) :
    ab_E G (ac_ST L xs) l (d + 3) ac_SK 256 [.ref 105, .int i1, .int i2] V K := by
  refine vc_256_0 ?_
  refine iv_isIn (a := i1) (b := (0 : Int32)) (c := (5 : Int32)) (by decide +kernel) (by decide +kernel) ?_
  refine ⟨fun c => ?_, fun c => ?_⟩
  · replace h := h.1 c
    refine ⟨fun q => ?_, fun q => absurd rfl q⟩
    exact h
  · replace h := h.2 c
    refine ⟨fun c => ?_, fun c => ?_⟩
    · replace h := h.1 c
      refine ⟨fun q => ?_, fun q => absurd rfl q⟩
      exact h
    · replace h := h.2 c
      refine ⟨fun q => absurd q (by decide), fun q => ?_⟩
      refine vc_245_0 ?_
      refine iv_isIn (a := i2) (b := (0 : Int32)) (c := (V 105 2)) (by decide +kernel) rfl ?_
      refine ⟨fun c => ?_, fun c => ?_⟩
      · replace h := h.1 c
        refine ⟨Or.inl rfl, ?_⟩
        refine ⟨fun q => ?_, fun q => absurd rfl q⟩
        exact h
      · replace h := h.2 c
        refine ⟨fun c => ?_, fun c => ?_⟩
        · replace h := h.1 c
          refine ⟨Or.inl rfl, ?_⟩
          refine ⟨fun q => ?_, fun q => absurd rfl q⟩
          exact h
        · replace h := h.2 c
          refine ⟨Or.inr rfl, ?_⟩
          refine ⟨fun q => absurd q (by decide), fun q => ?_⟩
          exact h

set_option maxRecDepth 20000 in
/-- FrameCountyModel meeting(III)I, from 0 -/
theorem iv_257_0 {G : ab_G} {L : Nat} {xs : Nat → Int32} {l : Launch} {d : Nat} {i1 : Int32} {i2 : Int32} {i3 : Int32} {V : aa_V} {K : aa_K} (h :
    (i1 < 0 →
      K (some (.int (-2 : Int32))) V) ∧
    (¬ i1 < 0 →
      (i1 < (V 105 46) →
        (i2 < 0 →
          K (some (.int (-2 : Int32))) V) ∧
        (¬ i2 < 0 →
          (i2 < (V 105 46) →
            (i1 = i2 →
              K (some (.int (-2 : Int32))) V) ∧
            (¬ i1 = i2 →
              (i3 < (0 : Int32) →
                K (some (.int (-2 : Int32))) V) ∧
              (¬ i3 < (0 : Int32) →
                ((V 105 2) < i3 →
                  K (some (.int (-2 : Int32))) V) ∧
                (¬ (V 105 2) < i3 →
                  ((V 105 54) = (40 : Int32) →
                    K (some (.int (-4 : Int32))) V) ∧
                  (¬ (V 105 54) = (40 : Int32) →
                    vp_in (V 105 54) 40 ∧
                    vp_in (V 105 54) 40 ∧
                    vp_in (V 105 54) 40 ∧
                    ab_J G (ac_ST L xs) l (d + 2) 257 94 [some (.ref 105), none, none, some (.int i3), some (.int (V 105 54)), some (.int (V 105 54))] [] ac_SK (aa_up (aa_up (aa_up (aa_up V 138 (((V 105 54)).toNatClampNeg) i1) 139 (((V 105 54)).toNatClampNeg) i2) 140 (((V 105 54)).toNatClampNeg) i3) 105 54 ((V 105 54) + (1 : Int32))) ac_SK K))))) ∧
          (¬ i2 < (V 105 46) →
            K (some (.int (-2 : Int32))) V))) ∧
      (¬ i1 < (V 105 46) →
        K (some (.int (-2 : Int32))) V))) :
    ab_E G (ac_ST L xs) l (d + 2) ac_SK 257 [.ref 105, .int i1, .int i2, .int i3] V K := by
  refine vc_257_0 ?_
  refine vc_240_0 ?_
  refine ⟨fun c => ?_, fun c => ?_⟩
  · replace h := h.1 c
    refine ⟨Or.inl rfl, ?_⟩
    refine ⟨fun q => ?_, fun q => absurd rfl q⟩
    exact h
  · replace h := h.2 c
    refine ⟨fun c => ?_, fun c => ?_⟩
    · replace h := h.1 c
      refine ⟨Or.inr rfl, ?_⟩
      refine ⟨fun q => absurd q (by decide), fun q => ?_⟩
      refine vc_240_0 ?_
      refine ⟨fun c => ?_, fun c => ?_⟩
      · replace h := h.1 c
        refine ⟨Or.inl rfl, ?_⟩
        refine ⟨fun q => ?_, fun q => absurd rfl q⟩
        exact h
      · replace h := h.2 c
        refine ⟨fun c => ?_, fun c => ?_⟩
        · replace h := h.1 c
          refine ⟨Or.inr rfl, ?_⟩
          refine ⟨fun q => absurd q (by decide), fun q => ?_⟩
          refine ⟨fun c => ?_, fun c => ?_⟩
          · replace h := h.1 c
            exact h
          · replace h := h.2 c
            refine iv_isIn (a := i3) (b := (0 : Int32)) (c := (V 105 2)) (by decide +kernel) rfl ?_
            refine ⟨fun c => ?_, fun c => ?_⟩
            · replace h := h.1 c
              refine ⟨fun q => ?_, fun q => absurd rfl q⟩
              exact h
            · replace h := h.2 c
              refine ⟨fun c => ?_, fun c => ?_⟩
              · replace h := h.1 c
                refine ⟨fun q => ?_, fun q => absurd rfl q⟩
                exact h
              · replace h := h.2 c
                refine ⟨fun q => absurd q (by decide), fun q => ?_⟩
                exact h
        · replace h := h.2 c
          refine ⟨Or.inl rfl, ?_⟩
          refine ⟨fun q => ?_, fun q => absurd rfl q⟩
          exact h
    · replace h := h.2 c
      refine ⟨Or.inl rfl, ?_⟩
      refine ⟨fun q => ?_, fun q => absurd rfl q⟩
      exact h

set_option maxRecDepth 20000 in
/-- FrameCountyModel meeting(III)I, from 94 -/
theorem iv_257_94 {G : ab_G} {L : Nat} {xs : Nat → Int32} {l : Launch} {d : Nat} {i3 : Int32} {i4 : Int32} {i5 : Int32} {V : aa_V} {K : aa_K} (h :
    (0 < i5 →
      vp_in (i5 - (1 : Int32)) 40 ∧
      vp_in (V 141 (((i5 - (1 : Int32))).toNatClampNeg)) 40 ∧
      (i3 < (V 140 (((V 141 (((i5 - (1 : Int32))).toNatClampNeg))).toNatClampNeg)) →
        vp_in (i5 - (1 : Int32)) 40 ∧
        vp_in i5 40 ∧
        ab_J G (ac_ST L xs) l (d + 2) 257 94 [some (.ref 105), none, none, some (.int i3), some (.int i4), some (.int (i5 + (-1)))] [] ac_SK (aa_up V 141 ((i5).toNatClampNeg) (V 141 (((i5 - (1 : Int32))).toNatClampNeg))) ac_SK K) ∧
      (¬ i3 < (V 140 (((V 141 (((i5 - (1 : Int32))).toNatClampNeg))).toNatClampNeg)) →
        vp_in i5 40 ∧
        K (some (.int (V 105 54))) (aa_up V 141 ((i5).toNatClampNeg) i4))) ∧
    (¬ 0 < i5 →
      vp_in i5 40 ∧
      K (some (.int (V 105 54))) (aa_up V 141 ((i5).toNatClampNeg) i4))) :
    ab_J G (ac_ST L xs) l (d + 2) 257 94 [some (.ref 105), none, none, some (.int i3), some (.int i4), some (.int i5)] [] ac_SK V ac_SK K := by
  refine vc_257_94 ?_
  exact h

set_option maxRecDepth 20000 in
/-- FrameCountyModel taker(II)I, from 0 -/
theorem iv_258_0 {G : ab_G} {L : Nat} {xs : Nat → Int32} {l : Launch} {d : Nat} {i1 : Int32} {i2 : Int32} {V : aa_V} {K : aa_K} (h :
    (i1 < 0 →
      K (some (.int (-5 : Int32))) V) ∧
    (¬ i1 < 0 →
      (i1 < (V 105 46) →
        (i2 < (-1 : Int32) →
          K (some (.int (-5 : Int32))) V) ∧
        (¬ i2 < (-1 : Int32) →
          ((399 : Int32) < i2 →
            K (some (.int (-5 : Int32))) V) ∧
          (¬ (399 : Int32) < i2 →
            vp_in i1 12 ∧
            vp_in i1 12 ∧
            K (some (.int (V 142 ((i1).toNatClampNeg)))) (aa_up V 142 ((i1).toNatClampNeg) i2)))) ∧
      (¬ i1 < (V 105 46) →
        K (some (.int (-5 : Int32))) V))) :
    ab_E G (ac_ST L xs) l (d + 2) ac_SK 258 [.ref 105, .int i1, .int i2] V K := by
  refine vc_258_0 ?_
  refine vc_240_0 ?_
  refine ⟨fun c => ?_, fun c => ?_⟩
  · replace h := h.1 c
    refine ⟨Or.inl rfl, ?_⟩
    refine ⟨fun q => ?_, fun q => absurd rfl q⟩
    exact h
  · replace h := h.2 c
    refine ⟨fun c => ?_, fun c => ?_⟩
    · replace h := h.1 c
      refine ⟨Or.inr rfl, ?_⟩
      refine ⟨fun q => absurd q (by decide), fun q => ?_⟩
      refine iv_isIn (a := i2) (b := (-1 : Int32)) (c := (399 : Int32)) (by decide +kernel) (by decide +kernel) ?_
      refine ⟨fun c => ?_, fun c => ?_⟩
      · replace h := h.1 c
        refine ⟨fun q => ?_, fun q => absurd rfl q⟩
        exact h
      · replace h := h.2 c
        refine ⟨fun c => ?_, fun c => ?_⟩
        · replace h := h.1 c
          refine ⟨fun q => ?_, fun q => absurd rfl q⟩
          exact h
        · replace h := h.2 c
          refine ⟨fun q => absurd q (by decide), fun q => ?_⟩
          refine ⟨h.1, ?_⟩
          replace h := h.2
          refine ⟨h.1, ?_⟩
          replace h := h.2
          exact h
    · replace h := h.2 c
      refine ⟨Or.inl rfl, ?_⟩
      refine ⟨fun q => ?_, fun q => absurd rfl q⟩
      exact h

set_option maxRecDepth 20000 in
/-- FrameCountyModel swornBy(II)I, from 0 -/
theorem iv_259_0 {G : ab_G} {L : Nat} {xs : Nat → Int32} {l : Launch} {d : Nat} {i1 : Int32} {i2 : Int32} {V : aa_V} {K : aa_K} (h :
    ab_J G (ac_ST L xs) l (d + 1) 259 5 [some (.ref 105), none, some (.int i2), some (.int i1), some (.int (0 : Int32)), none] [] ac_SK V ac_SK K) :
    ab_E G (ac_ST L xs) l (d + 1) ac_SK 259 [.ref 105, .int i1, .int i2] V K := by
  refine vc_259_0 ?_
  exact h

set_option maxRecDepth 20000 in
/-- FrameCountyModel swornBy(II)I, from 5 -/
theorem iv_259_5 {G : ab_G} {L : Nat} {xs : Nat → Int32} {l : Launch} {d : Nat} {i2 : Int32} {i3 : Int32} {i4 : Int32} {V : aa_V} {K : aa_K} (h :
    (i4 < (V 105 54) →
      vp_in i4 40 ∧
      vp_in (V 141 ((i4).toNatClampNeg)) 40 ∧
      (i2 < (V 140 (((V 141 ((i4).toNatClampNeg))).toNatClampNeg)) →
        ab_J G (ac_ST L xs) l (d + 1) 259 5 [some (.ref 105), none, some (.int i2), some (.int i3), some (.int (i4 + 1)), none] [] ac_SK V ac_SK K) ∧
      (¬ i2 < (V 140 (((V 141 ((i4).toNatClampNeg))).toNatClampNeg)) →
        vp_in (V 141 ((i4).toNatClampNeg)) 40 ∧
        vp_in (V 141 ((i4).toNatClampNeg)) 40 ∧
        ((((i3 >>> ((V 138 (((V 141 ((i4).toNatClampNeg))).toNatClampNeg)) &&& 31)) ||| (i3 >>> ((V 139 (((V 141 ((i4).toNatClampNeg))).toNatClampNeg)) &&& 31))) &&& (1 : Int32)) = (1 : Int32) →
          vp_in (V 141 ((i4).toNatClampNeg)) 40 ∧
          vp_in (V 141 ((i4).toNatClampNeg)) 40 ∧
          ab_J G (ac_ST L xs) l (d + 1) 259 5 [some (.ref 105), none, some (.int i2), some (.int (i3 ||| (((1 : Int32) <<< ((V 138 (((V 141 ((i4).toNatClampNeg))).toNatClampNeg)) &&& 31)) ||| ((1 : Int32) <<< ((V 139 (((V 141 ((i4).toNatClampNeg))).toNatClampNeg)) &&& 31))))), some (.int (i4 + 1)), none] [] ac_SK V ac_SK K) ∧
        (¬ (((i3 >>> ((V 138 (((V 141 ((i4).toNatClampNeg))).toNatClampNeg)) &&& 31)) ||| (i3 >>> ((V 139 (((V 141 ((i4).toNatClampNeg))).toNatClampNeg)) &&& 31))) &&& (1 : Int32)) = (1 : Int32) →
          ab_J G (ac_ST L xs) l (d + 1) 259 5 [some (.ref 105), none, some (.int i2), some (.int i3), some (.int (i4 + 1)), none] [] ac_SK V ac_SK K))) ∧
    (¬ i4 < (V 105 54) →
      K (some (.int i3)) V)) :
    ab_J G (ac_ST L xs) l (d + 1) 259 5 [some (.ref 105), none, some (.int i2), some (.int i3), some (.int i4), none] [] ac_SK V ac_SK K := by
  refine vc_259_5 ?_
  exact h

set_option maxRecDepth 20000 in
/-- FrameCountyModel sworn(II)I, from 0 -/
theorem iv_260_0 {G : ab_G} {L : Nat} {xs : Nat → Int32} {l : Launch} {d : Nat} {i1 : Int32} {i2 : Int32} {V : aa_V} {K : aa_K} (h :
    (i1 < (0 : Int32) →
      K (some (.int (-2 : Int32))) V) ∧
    (¬ i1 < (0 : Int32) →
      ((((1 : Int32) <<< ((V 105 46) &&& 31)) - (1 : Int32)) < i1 →
        K (some (.int (-2 : Int32))) V) ∧
      (¬ (((1 : Int32) <<< ((V 105 46) &&& 31)) - (1 : Int32)) < i1 →
        (i2 < (0 : Int32) →
          K (some (.int (-2 : Int32))) V) ∧
        (¬ i2 < (0 : Int32) →
          ((399 : Int32) < i2 →
            K (some (.int (-2 : Int32))) V) ∧
          (¬ (399 : Int32) < i2 →
            ab_E G (ac_ST L xs) l (d + 2) ac_SK 259 [.ref 105, .int i1, .int i2] V (aa_rI (fun x1 V1 =>
              K (some (.int x1)) V1))))))) :
    ab_E G (ac_ST L xs) l (d + 3) ac_SK 260 [.ref 105, .int i1, .int i2] V K := by
  refine vc_260_0 ?_
  refine iv_isIn (a := i1) (b := (0 : Int32)) (c := (((1 : Int32) <<< ((V 105 46) &&& 31)) - (1 : Int32))) (by decide +kernel) rfl ?_
  refine ⟨fun c => ?_, fun c => ?_⟩
  · replace h := h.1 c
    refine ⟨fun q => ?_, fun q => absurd rfl q⟩
    exact h
  · replace h := h.2 c
    refine ⟨fun c => ?_, fun c => ?_⟩
    · replace h := h.1 c
      refine ⟨fun q => ?_, fun q => absurd rfl q⟩
      exact h
    · replace h := h.2 c
      refine ⟨fun q => absurd q (by decide), fun q => ?_⟩
      refine vc_194_0 ?_
      refine iv_isIn (a := i2) (b := (0 : Int32)) (c := (399 : Int32)) (by decide +kernel) (by decide +kernel) ?_
      refine ⟨fun c => ?_, fun c => ?_⟩
      · replace h := h.1 c
        refine ⟨Or.inl rfl, ?_⟩
        refine ⟨fun q => ?_, fun q => absurd rfl q⟩
        exact h
      · replace h := h.2 c
        refine ⟨fun c => ?_, fun c => ?_⟩
        · replace h := h.1 c
          refine ⟨Or.inl rfl, ?_⟩
          refine ⟨fun q => ?_, fun q => absurd rfl q⟩
          exact h
        · replace h := h.2 c
          refine ⟨Or.inr rfl, ?_⟩
          refine ⟨fun q => absurd q (by decide), fun q => ?_⟩
          exact h

set_option maxRecDepth 20000 in
/-- FrameCountyModel bits(I)I, from 0 -/
theorem iv_261_0 {G : ab_G} {L : Nat} {xs : Nat → Int32} {l : Launch} {d : Nat} {i0 : Int32} {V : aa_V} {K : aa_K} (h :
    ab_J G (ac_ST L xs) l (d + 1) 261 4 [some (.int i0), some (.int (0 : Int32)), some (.int (0 : Int32))] [] ac_SK V ac_SK K) :
    ab_E G (ac_ST L xs) l (d + 1) ac_SK 261 [.int i0] V K := by
  refine vc_261_0 ?_
  exact h

set_option maxRecDepth 20000 in
/-- FrameCountyModel bits(I)I, from 4 -/
theorem iv_261_4 {G : ab_G} {L : Nat} {xs : Nat → Int32} {l : Launch} {d : Nat} {i0 : Int32} {i1 : Int32} {i2 : Int32} {V : aa_V} {K : aa_K} (h :
    (i2 < (31 : Int32) →
      ab_J G (ac_ST L xs) l (d + 1) 261 4 [some (.int i0), some (.int (i1 + ((i0 >>> (i2 &&& 31)) &&& (1 : Int32)))), some (.int (i2 + 1))] [] ac_SK V ac_SK K) ∧
    (¬ i2 < (31 : Int32) →
      K (some (.int i1)) V)) :
    ab_J G (ac_ST L xs) l (d + 1) 261 4 [some (.int i0), some (.int i1), some (.int i2)] [] ac_SK V ac_SK K := by
  refine vc_261_4 ?_
  exact h

set_option maxRecDepth 20000 in
/-- FrameCountyModel swears(I)Z, from 0 -/
theorem iv_262_0 {G : ab_G} {L : Nat} {xs : Nat → Int32} {l : Launch} {d : Nat} {i1 : Int32} {V : aa_V} {K : aa_K} (h :
    ab_J G (ac_ST L xs) l (d + 2) 262 2 [some (.ref 105), some (.int i1), some (.int (0 : Int32))] [] ac_SK V ac_SK K) :
    ab_E G (ac_ST L xs) l (d + 2) ac_SK 262 [.ref 105, .int i1] V K := by
  refine vc_262_0 ?_
  exact h

set_option maxRecDepth 20000 in
/-- FrameCountyModel swears(I)Z, from 2 -/
theorem iv_262_2 {G : ab_G} {L : Nat} {xs : Nat → Int32} {l : Launch} {d : Nat} {i1 : Int32} {i2 : Int32} {V : aa_V} {K : aa_K} (h :
    (i2 < (V 105 46) →
      vp_in i2 12 ∧
      ((V 142 ((i2).toNatClampNeg)) < 0 →
        ab_J G (ac_ST L xs) l (d + 2) 262 2 [some (.ref 105), some (.int i1), some (.int (i2 + 1))] [] ac_SK V ac_SK K) ∧
      (¬ (V 142 ((i2).toNatClampNeg)) < 0 →
        vp_in i2 12 ∧
        ab_E G (ac_ST L xs) l (d + 1) ac_SK 259 [.ref 105, .int i1, .int (V 142 ((i2).toNatClampNeg))] V (aa_rI (fun x1 V1 =>
          (((x1 >>> (i2 &&& 31)) &&& (1 : Int32)) = 0 →
            K (some (.int (0 : Int32))) V1) ∧
          (¬ ((x1 >>> (i2 &&& 31)) &&& (1 : Int32)) = 0 →
            ab_J G (ac_ST L xs) l (d + 2) 262 2 [some (.ref 105), some (.int i1), some (.int (i2 + 1))] [] ac_SK V1 ac_SK K))))) ∧
    (¬ i2 < (V 105 46) →
      K (some (.int (1 : Int32))) V)) :
    ab_J G (ac_ST L xs) l (d + 2) 262 2 [some (.ref 105), some (.int i1), some (.int i2)] [] ac_SK V ac_SK K := by
  refine vc_262_2 ?_
  refine ⟨fun c => ?_, fun c => ?_⟩
  · replace h := h.1 c
    refine ⟨h.1, ?_⟩
    replace h := h.2
    refine ⟨fun c => ?_, fun c => ?_⟩
    · replace h := h.1 c
      exact h
    · replace h := h.2 c
      refine ⟨h.1, ?_⟩
      replace h := h.2
      refine ab_EmI (fun x1 V1 h => ?_) h
      refine ⟨fun c => ?_, fun c => ?_⟩
      · replace h := h.1 c
        exact ⟨Or.inl rfl, h⟩
      · replace h := h.2 c
        exact h
  · replace h := h.2 c
    exact ⟨Or.inr rfl, h⟩

set_option maxRecDepth 20000 in
/-- FrameCountyModel began()I, from 0 -/
theorem iv_263_0 {G : ab_G} {L : Nat} {xs : Nat → Int32} {l : Launch} {d : Nat} {V : aa_V} {K : aa_K} (h :
    ab_J G (ac_ST L xs) l (d + 2) 263 4 [some (.ref 105), some (.int (-1 : Int32)), some (.int (0 : Int32))] [] ac_SK V ac_SK K) :
    ab_E G (ac_ST L xs) l (d + 2) ac_SK 263 [.ref 105] V K := by
  refine vc_263_0 ?_
  exact h

set_option maxRecDepth 20000 in
/-- FrameCountyModel began()I, from 4 -/
theorem iv_263_4 {G : ab_G} {L : Nat} {xs : Nat → Int32} {l : Launch} {d : Nat} {i1 : Int32} {i2 : Int32} {V : aa_V} {K : aa_K} (h :
    (i2 < ((1 : Int32) <<< ((V 105 46) &&& 31)) →
      (i1 < 0 →
        ab_E G (ac_ST L xs) l (d + 1) ac_SK 262 [.ref 105, .int i2] V (aa_rI (fun x1 V1 =>
          (x1 = 0 →
            ab_J G (ac_ST L xs) l (d + 2) 263 4 [some (.ref 105), some (.int i1), some (.int (i2 + 1))] [] ac_SK V1 ac_SK K) ∧
          (¬ x1 = 0 →
            ab_J G (ac_ST L xs) l (d + 2) 263 4 [some (.ref 105), some (.int i2), some (.int (i2 + 1))] [] ac_SK V1 ac_SK K)))) ∧
      (¬ i1 < 0 →
        ab_E G (ac_ST L xs) l (d + 1) ac_SK 261 [.int i2] V (aa_rI (fun x1 V1 =>
          ab_E G (ac_ST L xs) l (d + 1) ac_SK 261 [.int i1] V1 (aa_rI (fun x2 V2 =>
            (x1 < x2 →
              ab_E G (ac_ST L xs) l (d + 1) ac_SK 262 [.ref 105, .int i2] V2 (aa_rI (fun x3 V3 =>
                (x3 = 0 →
                  ab_J G (ac_ST L xs) l (d + 2) 263 4 [some (.ref 105), some (.int i1), some (.int (i2 + 1))] [] ac_SK V3 ac_SK K) ∧
                (¬ x3 = 0 →
                  ab_J G (ac_ST L xs) l (d + 2) 263 4 [some (.ref 105), some (.int i2), some (.int (i2 + 1))] [] ac_SK V3 ac_SK K)))) ∧
            (¬ x1 < x2 →
              ab_J G (ac_ST L xs) l (d + 2) 263 4 [some (.ref 105), some (.int i1), some (.int (i2 + 1))] [] ac_SK V2 ac_SK K))))))) ∧
    (¬ i2 < ((1 : Int32) <<< ((V 105 46) &&& 31)) →
      K (some (.int i1)) V)) :
    ab_J G (ac_ST L xs) l (d + 2) 263 4 [some (.ref 105), some (.int i1), some (.int i2)] [] ac_SK V ac_SK K := by
  refine vc_263_4 ?_
  exact h

set_option maxRecDepth 20000 in
/-- FrameCountyModel parties(IIII)I, from 0 -/
theorem iv_264_0 {G : ab_G} {L : Nat} {xs : Nat → Int32} {l : Launch} {d : Nat} {i1 : Int32} {i2 : Int32} {i3 : Int32} {i4 : Int32} {V : aa_V} {K : aa_K} (h :
    (i1 < (0 : Int32) →
      K (some (.int (-2 : Int32))) V) ∧
    (¬ i1 < (0 : Int32) →
      ((8 : Int32) < i1 →
        K (some (.int (-2 : Int32))) V) ∧
      (¬ (8 : Int32) < i1 →
        (i2 < (0 : Int32) →
          K (some (.int (-2 : Int32))) V) ∧
        (¬ i2 < (0 : Int32) →
          ((99 : Int32) < i2 →
            K (some (.int (-2 : Int32))) V) ∧
          (¬ (99 : Int32) < i2 →
            (i3 < (0 : Int32) →
              K (some (.int (-2 : Int32))) V) ∧
            (¬ i3 < (0 : Int32) →
              ((399 : Int32) < i3 →
                K (some (.int (-2 : Int32))) V) ∧
              (¬ (399 : Int32) < i3 →
                (i4 < (0 : Int32) →
                  K (some (.int (-2 : Int32))) V) ∧
                (¬ i4 < (0 : Int32) →
                  ((1 : Int32) < i4 →
                    K (some (.int (-2 : Int32))) V) ∧
                  (¬ (1 : Int32) < i4 →
                    ab_E G (ac_ST L xs) l (d + 2) ac_SK 197 [.ref 105, .int i3] V (aa_rV (fun V1 =>
                      ab_J G (ac_ST L xs) l (d + 3) 264 59 [some (.ref 105), some (.int i1), some (.int i2), none, some (.int i4), some (.int (-1 : Int32)), some (.int (-1 : Int32)), some (.int (0 : Int32)), none, none] [] ac_SK V1 ac_SK K))))))))))) :
    ab_E G (ac_ST L xs) l (d + 3) ac_SK 264 [.ref 105, .int i1, .int i2, .int i3, .int i4] V K := by
  refine vc_264_0 ?_
  refine iv_isIn (a := i1) (b := (0 : Int32)) (c := (8 : Int32)) (by decide +kernel) (by decide +kernel) ?_
  refine ⟨fun c => ?_, fun c => ?_⟩
  · replace h := h.1 c
    refine ⟨fun q => ?_, fun q => absurd rfl q⟩
    exact h
  · replace h := h.2 c
    refine ⟨fun c => ?_, fun c => ?_⟩
    · replace h := h.1 c
      refine ⟨fun q => ?_, fun q => absurd rfl q⟩
      exact h
    · replace h := h.2 c
      refine ⟨fun q => absurd q (by decide), fun q => ?_⟩
      refine iv_isIn (a := i2) (b := (0 : Int32)) (c := (99 : Int32)) (by decide +kernel) (by decide +kernel) ?_
      refine ⟨fun c => ?_, fun c => ?_⟩
      · replace h := h.1 c
        refine ⟨fun q => ?_, fun q => absurd rfl q⟩
        exact h
      · replace h := h.2 c
        refine ⟨fun c => ?_, fun c => ?_⟩
        · replace h := h.1 c
          refine ⟨fun q => ?_, fun q => absurd rfl q⟩
          exact h
        · replace h := h.2 c
          refine ⟨fun q => absurd q (by decide), fun q => ?_⟩
          refine vc_194_0 ?_
          refine iv_isIn (a := i3) (b := (0 : Int32)) (c := (399 : Int32)) (by decide +kernel) (by decide +kernel) ?_
          refine ⟨fun c => ?_, fun c => ?_⟩
          · replace h := h.1 c
            refine ⟨Or.inl rfl, ?_⟩
            refine ⟨fun q => ?_, fun q => absurd rfl q⟩
            exact h
          · replace h := h.2 c
            refine ⟨fun c => ?_, fun c => ?_⟩
            · replace h := h.1 c
              refine ⟨Or.inl rfl, ?_⟩
              refine ⟨fun q => ?_, fun q => absurd rfl q⟩
              exact h
            · replace h := h.2 c
              refine ⟨Or.inr rfl, ?_⟩
              refine ⟨fun q => absurd q (by decide), fun q => ?_⟩
              refine iv_isIn (a := i4) (b := (0 : Int32)) (c := (1 : Int32)) (by decide +kernel) (by decide +kernel) ?_
              refine ⟨fun c => ?_, fun c => ?_⟩
              · replace h := h.1 c
                refine ⟨fun q => ?_, fun q => absurd rfl q⟩
                exact h
              · replace h := h.2 c
                refine ⟨fun c => ?_, fun c => ?_⟩
                · replace h := h.1 c
                  refine ⟨fun q => ?_, fun q => absurd rfl q⟩
                  exact h
                · replace h := h.2 c
                  refine ⟨fun q => absurd q (by decide), fun q => ?_⟩
                  exact h

set_option maxRecDepth 20000 in
/-- FrameCountyModel parties(IIII)I, from 59 -/
theorem iv_264_59 {G : ab_G} {L : Nat} {xs : Nat → Int32} {l : Launch} {d : Nat} {i1 : Int32} {i2 : Int32} {i4 : Int32} {i5 : Int32} {i6 : Int32} {i7 : Int32} {V : aa_V} {K : aa_K} (h :
    (i7 < (256 : Int32) →
      ab_E G (ac_ST L xs) l (d + 2) ac_SK 261 [.int i7] V (aa_rI (fun x1 V1 =>
        (x1 = i1 →
          ab_J G (ac_ST L xs) l (d + 3) 264 85 [some (.ref 105), some (.int i1), some (.int i2), none, some (.int i4), some (.int i5), some (.int i6), some (.int i7), some (.int (0 : Int32)), some (.int (0 : Int32))] [] ac_SK V1 ac_SK K) ∧
        (¬ x1 = i1 →
          ab_J G (ac_ST L xs) l (d + 3) 264 59 [some (.ref 105), some (.int i1), some (.int i2), none, some (.int i4), some (.int i5), some (.int i6), some (.int (i7 + 1)), none, none] [] ac_SK V1 ac_SK K)))) ∧
    (¬ i7 < (256 : Int32) →
      (i4 = 0 →
        K (some (.int i5)) V) ∧
      (¬ i4 = 0 →
        K (some (.int i6)) V))) :
    ab_J G (ac_ST L xs) l (d + 3) 264 59 [some (.ref 105), some (.int i1), some (.int i2), none, some (.int i4), some (.int i5), some (.int i6), some (.int i7), none, none] [] ac_SK V ac_SK K := by
  refine vc_264_59 ?_
  exact h

set_option maxRecDepth 20000 in
/-- FrameCountyModel parties(IIII)I, from 85 -/
theorem iv_264_85 {G : ab_G} {L : Nat} {xs : Nat → Int32} {l : Launch} {d : Nat} {i1 : Int32} {i2 : Int32} {i4 : Int32} {i5 : Int32} {i6 : Int32} {i7 : Int32} {i8 : Int32} {i9 : Int32} {V : aa_V} {K : aa_K} (h :
    (i9 < (V 105 11) →
      vp_in i9 8 ∧
      ab_E G (ac_ST L xs) l (d + 2) ac_SK 265 [.ref 105, .int (V 108 ((i9).toNatClampNeg)), .int i2, .int i7] V (aa_rI (fun x1 V1 =>
        (x1 = 0 →
          ab_J G (ac_ST L xs) l (d + 3) 264 85 [some (.ref 105), some (.int i1), some (.int i2), none, some (.int i4), some (.int i5), some (.int i6), some (.int i7), some (.int (i8 + (0 : Int32))), some (.int (i9 + 1))] [] ac_SK V1 ac_SK K) ∧
        (¬ x1 = 0 →
          ab_J G (ac_ST L xs) l (d + 3) 264 85 [some (.ref 105), some (.int i1), some (.int i2), none, some (.int i4), some (.int i5), some (.int i6), some (.int i7), some (.int (i8 + (1 : Int32))), some (.int (i9 + 1))] [] ac_SK V1 ac_SK K)))) ∧
    (¬ i9 < (V 105 11) →
      (i6 < i8 →
        ab_J G (ac_ST L xs) l (d + 3) 264 59 [some (.ref 105), some (.int i1), some (.int i2), none, some (.int i4), some (.int i7), some (.int i8), some (.int (i7 + 1)), none, none] [] ac_SK V ac_SK K) ∧
      (¬ i6 < i8 →
        ab_J G (ac_ST L xs) l (d + 3) 264 59 [some (.ref 105), some (.int i1), some (.int i2), none, some (.int i4), some (.int i5), some (.int i6), some (.int (i7 + 1)), none, none] [] ac_SK V ac_SK K))) :
    ab_J G (ac_ST L xs) l (d + 3) 264 85 [some (.ref 105), some (.int i1), some (.int i2), none, some (.int i4), some (.int i5), some (.int i6), some (.int i7), some (.int i8), some (.int i9)] [] ac_SK V ac_SK K := by
  refine vc_264_85 ?_
  exact h

set_option maxRecDepth 20000 in
/-- FrameCountyModel isReached(III)Z, from 0 -/
theorem iv_265_0 {G : ab_G} {L : Nat} {xs : Nat → Int32} {l : Launch} {d : Nat} {i1 : Int32} {i2 : Int32} {i3 : Int32} {V : aa_V} {K : aa_K} (h :
    ab_J G (ac_ST L xs) l (d + 1) 265 3 [some (.ref 105), some (.int i1), some (.int i2), some (.int i3), some (.int (0 : Int32))] [] ac_SK V ac_SK K) :
    ab_E G (ac_ST L xs) l (d + 1) ac_SK 265 [.ref 105, .int i1, .int i2, .int i3] V K := by
  refine vc_265_0 ?_
  exact h

set_option maxRecDepth 20000 in
/-- FrameCountyModel isReached(III)Z, from 3 -/
theorem iv_265_3 {G : ab_G} {L : Nat} {xs : Nat → Int32} {l : Launch} {d : Nat} {i1 : Int32} {i2 : Int32} {i3 : Int32} {i4 : Int32} {V : aa_V} {K : aa_K} (h :
    (i4 < (8 : Int32) →
      (((i3 >>> (i4 &&& 31)) &&& (1 : Int32)) = (1 : Int32) →
        vp_in (((8 : Int32) * i4) + i1) 64 ∧
        ((V 107 (((((8 : Int32) * i4) + i1)).toNatClampNeg)) < (99 : Int32) →
          vp_in (((8 : Int32) * i4) + i1) 64 ∧
          (i2 < (V 107 (((((8 : Int32) * i4) + i1)).toNatClampNeg)) →
            ab_J G (ac_ST L xs) l (d + 1) 265 3 [some (.ref 105), some (.int i1), some (.int i2), some (.int i3), some (.int (i4 + 1))] [] ac_SK V ac_SK K) ∧
          (¬ i2 < (V 107 (((((8 : Int32) * i4) + i1)).toNatClampNeg)) →
            K (some (.int (1 : Int32))) V)) ∧
        (¬ (V 107 (((((8 : Int32) * i4) + i1)).toNatClampNeg)) < (99 : Int32) →
          ab_J G (ac_ST L xs) l (d + 1) 265 3 [some (.ref 105), some (.int i1), some (.int i2), some (.int i3), some (.int (i4 + 1))] [] ac_SK V ac_SK K)) ∧
      (¬ ((i3 >>> (i4 &&& 31)) &&& (1 : Int32)) = (1 : Int32) →
        ab_J G (ac_ST L xs) l (d + 1) 265 3 [some (.ref 105), some (.int i1), some (.int i2), some (.int i3), some (.int (i4 + 1))] [] ac_SK V ac_SK K)) ∧
    (¬ i4 < (8 : Int32) →
      K (some (.int (0 : Int32))) V)) :
    ab_J G (ac_ST L xs) l (d + 1) 265 3 [some (.ref 105), some (.int i1), some (.int i2), some (.int i3), some (.int i4)] [] ac_SK V ac_SK K := by
  refine vc_265_3 ?_
  refine ⟨fun c => ?_, fun c => ?_⟩
  · replace h := h.1 c
    refine ⟨fun c => ?_, fun c => ?_⟩
    · replace h := h.1 c
      refine ⟨h.1, ?_⟩
      replace h := h.2
      refine ⟨fun c => ?_, fun c => ?_⟩
      · replace h := h.1 c
        refine ⟨h.1, ?_⟩
        replace h := h.2
        refine ⟨fun c => ?_, fun c => ?_⟩
        · replace h := h.1 c
          exact h
        · replace h := h.2 c
          exact ⟨Or.inr rfl, h⟩
      · replace h := h.2 c
        exact h
    · replace h := h.2 c
      exact h
  · replace h := h.2 c
    exact ⟨Or.inl rfl, h⟩

set_option maxRecDepth 20000 in
/-- FrameCountyModel clause(II)I, from 0 -/
theorem iv_266_0 {G : ab_G} {L : Nat} {xs : Nat → Int32} {l : Launch} {d : Nat} {i1 : Int32} {i2 : Int32} {V : aa_V} {K : aa_K} (h :
    (i1 < (-99 : Int32) →
      K (some (.int (-2 : Int32))) V) ∧
    (¬ i1 < (-99 : Int32) →
      ((99 : Int32) < i1 →
        K (some (.int (-2 : Int32))) V) ∧
      (¬ (99 : Int32) < i1 →
        (i2 < (-99 : Int32) →
          K (some (.int (-2 : Int32))) V) ∧
        (¬ i2 < (-99 : Int32) →
          ((99 : Int32) < i2 →
            K (some (.int (-2 : Int32))) V) ∧
          (¬ (99 : Int32) < i2 →
            ((V 105 58) = (8 : Int32) →
              K (some (.int (-4 : Int32))) V) ∧
            (¬ (V 105 58) = (8 : Int32) →
              vp_in (V 105 58) 8 ∧
              vp_in (V 105 58) 8 ∧
              K (some (.int (((V 105 58) + (1 : Int32)) - (1 : Int32)))) (aa_up (aa_up (aa_up V 143 (((V 105 58)).toNatClampNeg) i1) 144 (((V 105 58)).toNatClampNeg) i2) 105 58 ((V 105 58) + (1 : Int32))))))))) :
    ab_E G (ac_ST L xs) l (d + 2) ac_SK 266 [.ref 105, .int i1, .int i2] V K := by
  refine vc_266_0 ?_
  refine iv_isIn (a := i1) (b := (-99 : Int32)) (c := (99 : Int32)) (by decide +kernel) (by decide +kernel) ?_
  refine ⟨fun c => ?_, fun c => ?_⟩
  · replace h := h.1 c
    refine ⟨fun q => ?_, fun q => absurd rfl q⟩
    exact h
  · replace h := h.2 c
    refine ⟨fun c => ?_, fun c => ?_⟩
    · replace h := h.1 c
      refine ⟨fun q => ?_, fun q => absurd rfl q⟩
      exact h
    · replace h := h.2 c
      refine ⟨fun q => absurd q (by decide), fun q => ?_⟩
      refine iv_isIn (a := i2) (b := (-99 : Int32)) (c := (99 : Int32)) (by decide +kernel) (by decide +kernel) ?_
      refine ⟨fun c => ?_, fun c => ?_⟩
      · replace h := h.1 c
        refine ⟨fun q => ?_, fun q => absurd rfl q⟩
        exact h
      · replace h := h.2 c
        refine ⟨fun c => ?_, fun c => ?_⟩
        · replace h := h.1 c
          refine ⟨fun q => ?_, fun q => absurd rfl q⟩
          exact h
        · replace h := h.2 c
          refine ⟨fun q => absurd q (by decide), fun q => ?_⟩
          exact h

set_option maxRecDepth 20000 in
/-- FrameCountyModel against(II)I, from 0 -/
theorem iv_267_0 {G : ab_G} {L : Nat} {xs : Nat → Int32} {l : Launch} {d : Nat} {i1 : Int32} {i2 : Int32} {V : aa_V} {K : aa_K} (h :
    (i1 < (0 : Int32) →
      K (some (.int (-2 : Int32))) V) ∧
    (¬ i1 < (0 : Int32) →
      (((V 105 58) - (1 : Int32)) < i1 →
        K (some (.int (-2 : Int32))) V) ∧
      (¬ ((V 105 58) - (1 : Int32)) < i1 →
        (i2 < (0 : Int32) →
          K (some (.int (-2 : Int32))) V) ∧
        (¬ i2 < (0 : Int32) →
          (((V 105 58) - (1 : Int32)) < i2 →
            K (some (.int (-2 : Int32))) V) ∧
          (¬ ((V 105 58) - (1 : Int32)) < i2 →
            (i1 = i2 →
              K (some (.int (-2 : Int32))) V) ∧
            (¬ i1 = i2 →
              vp_in i1 8 ∧
              ((((V 145 ((i1).toNatClampNeg)) >>> (i2 &&& 31)) &&& (1 : Int32)) = 0 →
                vp_in i1 8 ∧
                vp_in i1 8 ∧
                vp_in i2 8 ∧
                vp_in i2 8 ∧
                K (some (.int (1 : Int32))) (aa_up (aa_up V 145 ((i1).toNatClampNeg) ((V 145 ((i1).toNatClampNeg)) ||| ((1 : Int32) <<< (i2 &&& 31)))) 145 ((i2).toNatClampNeg) (((aa_up V 145 ((i1).toNatClampNeg) ((V 145 ((i1).toNatClampNeg)) ||| ((1 : Int32) <<< (i2 &&& 31)))) 145 ((i2).toNatClampNeg)) ||| ((1 : Int32) <<< (i1 &&& 31))))) ∧
              (¬ (((V 145 ((i1).toNatClampNeg)) >>> (i2 &&& 31)) &&& (1 : Int32)) = 0 →
                vp_in i1 8 ∧
                vp_in i1 8 ∧
                vp_in i2 8 ∧
                vp_in i2 8 ∧
                K (some (.int (0 : Int32))) (aa_up (aa_up V 145 ((i1).toNatClampNeg) ((V 145 ((i1).toNatClampNeg)) ||| ((1 : Int32) <<< (i2 &&& 31)))) 145 ((i2).toNatClampNeg) (((aa_up V 145 ((i1).toNatClampNeg) ((V 145 ((i1).toNatClampNeg)) ||| ((1 : Int32) <<< (i2 &&& 31)))) 145 ((i2).toNatClampNeg)) ||| ((1 : Int32) <<< (i1 &&& 31))))))))))) :
    ab_E G (ac_ST L xs) l (d + 2) ac_SK 267 [.ref 105, .int i1, .int i2] V K := by
  refine vc_267_0 ?_
  refine iv_isIn (a := i1) (b := (0 : Int32)) (c := ((V 105 58) - (1 : Int32))) (by decide +kernel) rfl ?_
  refine ⟨fun c => ?_, fun c => ?_⟩
  · replace h := h.1 c
    refine ⟨fun q => ?_, fun q => absurd rfl q⟩
    exact h
  · replace h := h.2 c
    refine ⟨fun c => ?_, fun c => ?_⟩
    · replace h := h.1 c
      refine ⟨fun q => ?_, fun q => absurd rfl q⟩
      exact h
    · replace h := h.2 c
      refine ⟨fun q => absurd q (by decide), fun q => ?_⟩
      refine iv_isIn (a := i2) (b := (0 : Int32)) (c := ((V 105 58) - (1 : Int32))) (by decide +kernel) rfl ?_
      refine ⟨fun c => ?_, fun c => ?_⟩
      · replace h := h.1 c
        refine ⟨fun q => ?_, fun q => absurd rfl q⟩
        exact h
      · replace h := h.2 c
        refine ⟨fun c => ?_, fun c => ?_⟩
        · replace h := h.1 c
          refine ⟨fun q => ?_, fun q => absurd rfl q⟩
          exact h
        · replace h := h.2 c
          refine ⟨fun q => absurd q (by decide), fun q => ?_⟩
          exact h

set_option maxRecDepth 20000 in
/-- FrameCountyModel offer(II)I, from 0 -/
theorem iv_268_0 {G : ab_G} {L : Nat} {xs : Nat → Int32} {l : Launch} {d : Nat} {i1 : Int32} {i2 : Int32} {V : aa_V} {K : aa_K} (h :
    (i1 < (-999 : Int32) →
      K (some (.int (-2 : Int32))) V) ∧
    (¬ i1 < (-999 : Int32) →
      ((999 : Int32) < i1 →
        K (some (.int (-2 : Int32))) V) ∧
      (¬ (999 : Int32) < i1 →
        (i2 < (-999 : Int32) →
          K (some (.int (-2 : Int32))) V) ∧
        (¬ i2 < (-999 : Int32) →
          ((999 : Int32) < i2 →
            K (some (.int (-2 : Int32))) V) ∧
          (¬ (999 : Int32) < i2 →
            ab_J G (ac_ST L xs) l (d + 2) 268 42 [some (.ref 105), some (.int i1), some (.int i2), some (.int (-1 : Int32)), some (.int (0 : Int32)), some (.int (0 : Int32)), some (.int (0 : Int32)), none, none, none, none] [] ac_SK V ac_SK K))))) :
    ab_E G (ac_ST L xs) l (d + 2) ac_SK 268 [.ref 105, .int i1, .int i2] V K := by
  refine vc_268_0 ?_
  refine iv_isIn (a := i1) (b := (-999 : Int32)) (c := (999 : Int32)) (by decide +kernel) (by decide +kernel) ?_
  refine ⟨fun c => ?_, fun c => ?_⟩
  · replace h := h.1 c
    refine ⟨fun q => ?_, fun q => absurd rfl q⟩
    exact h
  · replace h := h.2 c
    refine ⟨fun c => ?_, fun c => ?_⟩
    · replace h := h.1 c
      refine ⟨fun q => ?_, fun q => absurd rfl q⟩
      exact h
    · replace h := h.2 c
      refine ⟨fun q => absurd q (by decide), fun q => ?_⟩
      refine iv_isIn (a := i2) (b := (-999 : Int32)) (c := (999 : Int32)) (by decide +kernel) (by decide +kernel) ?_
      refine ⟨fun c => ?_, fun c => ?_⟩
      · replace h := h.1 c
        refine ⟨fun q => ?_, fun q => absurd rfl q⟩
        exact h
      · replace h := h.2 c
        refine ⟨fun c => ?_, fun c => ?_⟩
        · replace h := h.1 c
          refine ⟨fun q => ?_, fun q => absurd rfl q⟩
          exact h
        · replace h := h.2 c
          refine ⟨fun q => absurd q (by decide), fun q => ?_⟩
          exact h

set_option maxRecDepth 20000 in
/-- FrameCountyModel offer(II)I, from 42 -/
theorem iv_268_42 {G : ab_G} {L : Nat} {xs : Nat → Int32} {l : Launch} {d : Nat} {i1 : Int32} {i2 : Int32} {i3 : Int32} {i4 : Int32} {i5 : Int32} {i6 : Int32} {V : aa_V} {K : aa_K} (h :
    (i6 < ((1 : Int32) <<< ((V 105 58) &&& 31)) →
      ab_J G (ac_ST L xs) l (d + 2) 268 65 [some (.ref 105), some (.int i1), some (.int i2), some (.int i3), some (.int i4), some (.int i5), some (.int i6), some (.int (0 : Int32)), some (.int (0 : Int32)), some (.int (1 : Int32)), some (.int (0 : Int32))] [] ac_SK V ac_SK K) ∧
    (¬ i6 < ((1 : Int32) <<< ((V 105 58) &&& 31)) →
      K (some (.int i3)) V)) :
    ab_J G (ac_ST L xs) l (d + 2) 268 42 [some (.ref 105), some (.int i1), some (.int i2), some (.int i3), some (.int i4), some (.int i5), some (.int i6), none, none, none, none] [] ac_SK V ac_SK K := by
  refine vc_268_42 ?_
  exact h

set_option maxRecDepth 20000 in
/-- FrameCountyModel offer(II)I, from 65 -/
theorem iv_268_65 {G : ab_G} {L : Nat} {xs : Nat → Int32} {l : Launch} {d : Nat} {i1 : Int32} {i2 : Int32} {i3 : Int32} {i4 : Int32} {i5 : Int32} {i6 : Int32} {i7 : Int32} {i8 : Int32} {i9 : Int32} {i10 : Int32} {V : aa_V} {K : aa_K} (h :
    (i10 < (V 105 58) →
      (((i6 >>> (i10 &&& 31)) &&& (1 : Int32)) = 0 →
        ab_J G (ac_ST L xs) l (d + 2) 268 65 [some (.ref 105), some (.int i1), some (.int i2), some (.int i3), some (.int i4), some (.int i5), some (.int i6), some (.int i7), some (.int i8), some (.int i9), some (.int (i10 + 1))] [] ac_SK V ac_SK K) ∧
      (¬ ((i6 >>> (i10 &&& 31)) &&& (1 : Int32)) = 0 →
        vp_in i10 8 ∧
        vp_in i10 8 ∧
        (i9 = 0 →
          ab_J G (ac_ST L xs) l (d + 2) 268 65 [some (.ref 105), some (.int i1), some (.int i2), some (.int i3), some (.int i4), some (.int i5), some (.int i6), some (.int (i7 + (V 143 ((i10).toNatClampNeg)))), some (.int (i8 + (V 144 ((i10).toNatClampNeg)))), some (.int (0 : Int32)), some (.int (i10 + 1))] [] ac_SK V ac_SK K) ∧
        (¬ i9 = 0 →
          vp_in i10 8 ∧
          (((V 145 ((i10).toNatClampNeg)) &&& i6) = 0 →
            ab_J G (ac_ST L xs) l (d + 2) 268 65 [some (.ref 105), some (.int i1), some (.int i2), some (.int i3), some (.int i4), some (.int i5), some (.int i6), some (.int (i7 + (V 143 ((i10).toNatClampNeg)))), some (.int (i8 + (V 144 ((i10).toNatClampNeg)))), some (.int (1 : Int32)), some (.int (i10 + 1))] [] ac_SK V ac_SK K) ∧
          (¬ ((V 145 ((i10).toNatClampNeg)) &&& i6) = 0 →
            ab_J G (ac_ST L xs) l (d + 2) 268 65 [some (.ref 105), some (.int i1), some (.int i2), some (.int i3), some (.int i4), some (.int i5), some (.int i6), some (.int (i7 + (V 143 ((i10).toNatClampNeg)))), some (.int (i8 + (V 144 ((i10).toNatClampNeg)))), some (.int (0 : Int32)), some (.int (i10 + 1))] [] ac_SK V ac_SK K)))) ∧
    (¬ i10 < (V 105 58) →
      (i9 = 0 →
        ab_J G (ac_ST L xs) l (d + 2) 268 42 [some (.ref 105), some (.int i1), some (.int i2), some (.int i3), some (.int i4), some (.int i5), some (.int (i6 + 1)), none, none, none, none] [] ac_SK V ac_SK K) ∧
      (¬ i9 = 0 →
        (i7 < i1 →
          ab_J G (ac_ST L xs) l (d + 2) 268 42 [some (.ref 105), some (.int i1), some (.int i2), some (.int i3), some (.int i4), some (.int i5), some (.int (i6 + 1)), none, none, none, none] [] ac_SK V ac_SK K) ∧
        (¬ i7 < i1 →
          (i8 < i2 →
            ab_J G (ac_ST L xs) l (d + 2) 268 42 [some (.ref 105), some (.int i1), some (.int i2), some (.int i3), some (.int i4), some (.int i5), some (.int (i6 + 1)), none, none, none, none] [] ac_SK V ac_SK K) ∧
          (¬ i8 < i2 →
            (i3 < 0 →
              ab_J G (ac_ST L xs) l (d + 2) 268 42 [some (.ref 105), some (.int i1), some (.int i2), some (.int i6), some (.int i7), some (.int i8), some (.int (i6 + 1)), none, none, none, none] [] ac_SK V ac_SK K) ∧
            (¬ i3 < 0 →
              (i5 < i8 →
                ab_J G (ac_ST L xs) l (d + 2) 268 42 [some (.ref 105), some (.int i1), some (.int i2), some (.int i6), some (.int i7), some (.int i8), some (.int (i6 + 1)), none, none, none, none] [] ac_SK V ac_SK K) ∧
              (¬ i5 < i8 →
                (i8 = i5 →
                  (i4 < i7 →
                    ab_J G (ac_ST L xs) l (d + 2) 268 42 [some (.ref 105), some (.int i1), some (.int i2), some (.int i6), some (.int i7), some (.int i8), some (.int (i6 + 1)), none, none, none, none] [] ac_SK V ac_SK K) ∧
                  (¬ i4 < i7 →
                    (i7 = i4 →
                      ab_E G (ac_ST L xs) l (d + 1) ac_SK 261 [.int i6] V (aa_rI (fun x1 V1 =>
                        ab_E G (ac_ST L xs) l (d + 1) ac_SK 261 [.int i3] V1 (aa_rI (fun x2 V2 =>
                          (x1 < x2 →
                            ab_J G (ac_ST L xs) l (d + 2) 268 42 [some (.ref 105), some (.int i1), some (.int i2), some (.int i6), some (.int i7), some (.int i8), some (.int (i6 + 1)), none, none, none, none] [] ac_SK V2 ac_SK K) ∧
                          (¬ x1 < x2 →
                            ab_J G (ac_ST L xs) l (d + 2) 268 42 [some (.ref 105), some (.int i1), some (.int i2), some (.int i3), some (.int i4), some (.int i5), some (.int (i6 + 1)), none, none, none, none] [] ac_SK V2 ac_SK K)))))) ∧
                    (¬ i7 = i4 →
                      ab_J G (ac_ST L xs) l (d + 2) 268 42 [some (.ref 105), some (.int i1), some (.int i2), some (.int i3), some (.int i4), some (.int i5), some (.int (i6 + 1)), none, none, none, none] [] ac_SK V ac_SK K))) ∧
                (¬ i8 = i5 →
                  ab_J G (ac_ST L xs) l (d + 2) 268 42 [some (.ref 105), some (.int i1), some (.int i2), some (.int i3), some (.int i4), some (.int i5), some (.int (i6 + 1)), none, none, none, none] [] ac_SK V ac_SK K)))))))) :
    ab_J G (ac_ST L xs) l (d + 2) 268 65 [some (.ref 105), some (.int i1), some (.int i2), some (.int i3), some (.int i4), some (.int i5), some (.int i6), some (.int i7), some (.int i8), some (.int i9), some (.int i10)] [] ac_SK V ac_SK K := by
  refine vc_268_65 ?_
  refine ⟨fun c => ?_, fun c => ?_⟩
  · replace h := h.1 c
    exact h
  · replace h := h.2 c
    refine ⟨fun c => ?_, fun c => ?_⟩
    · replace h := h.1 c
      exact h
    · replace h := h.2 c
      refine ⟨fun c => ?_, fun c => ?_⟩
      · replace h := h.1 c
        exact h
      · replace h := h.2 c
        refine ⟨fun c => ?_, fun c => ?_⟩
        · replace h := h.1 c
          exact h
        · replace h := h.2 c
          refine ⟨fun c => ?_, fun c => ?_⟩
          · replace h := h.1 c
            refine ⟨fun q => absurd q (by decide), fun q => ?_⟩
            exact h
          · replace h := h.2 c
            refine ⟨fun c => ?_, fun c => ?_⟩
            · replace h := h.1 c
              refine ⟨fun q => absurd q (by decide), fun q => ?_⟩
              exact h
            · replace h := h.2 c
              refine ⟨fun c => ?_, fun c => ?_⟩
              · replace h := h.1 c
                refine ⟨fun c => ?_, fun c => ?_⟩
                · replace h := h.1 c
                  refine ⟨fun q => absurd q (by decide), fun q => ?_⟩
                  exact h
                · replace h := h.2 c
                  refine ⟨fun c => ?_, fun c => ?_⟩
                  · replace h := h.1 c
                    refine ab_EmI (fun x1 V1 h => ?_) h
                    refine ab_EmI (fun x2 V2 h => ?_) h
                    refine ⟨fun c => ?_, fun c => ?_⟩
                    · replace h := h.1 c
                      refine ⟨fun q => absurd q (by decide), fun q => ?_⟩
                      exact h
                    · replace h := h.2 c
                      refine ⟨fun q => ?_, fun q => absurd rfl q⟩
                      exact h
                  · replace h := h.2 c
                    refine ⟨fun q => ?_, fun q => absurd rfl q⟩
                    exact h
              · replace h := h.2 c
                refine ⟨fun q => ?_, fun q => absurd rfl q⟩
                exact h

set_option maxRecDepth 20000 in
/-- FrameCountyModel row(J)I, from 0 -/
theorem iv_269_0 {G : ab_G} {L : Nat} {xs : Nat → Int32} {l : Launch} {d : Nat} {l1 : Int64} {V : aa_V} {K : aa_K} (h :
    ab_E G (ac_ST L xs) l (d + 1) ac_SK 192 [.long l1, .long (0 : Int64), .long (9999999999 : Int64)] V (aa_rI (fun x1 V1 =>
      (x1 = 0 →
        K (some (.int (-2 : Int32))) V1) ∧
      (¬ x1 = 0 →
        ((V1 105 60) = (6 : Int32) →
          K (some (.int (-4 : Int32))) V1) ∧
        (¬ (V1 105 60) = (6 : Int32) →
          ab_J G (ac_ST L xs) l (d + 2) 269 31 [some (.ref 105), none, none, some (.long l1), none, some (.int (0 : Int32))] [] ac_SK V1 ac_SK K))))) :
    ab_E G (ac_ST L xs) l (d + 2) ac_SK 269 [.ref 105, .long l1] V K := by
  refine vc_269_0 ?_
  exact h

set_option maxRecDepth 20000 in
/-- FrameCountyModel row(J)I, from 31 -/
theorem iv_269_31 {G : ab_G} {L : Nat} {xs : Nat → Int32} {l : Launch} {d : Nat} {l3 : Int64} {i5 : Int32} {V : aa_V} {K : aa_K} (h :
    (i5 < (5 : Int32) →
      ¬ (100 : Int64) = 0 ∧
      vp_in (((5 : Int32) * (V 105 60)) + i5) 30 ∧
      ¬ (100 : Int64) = 0 ∧
      ab_J G (ac_ST L xs) l (d + 2) 269 31 [some (.ref 105), none, none, some (.long (l3 / (100 : Int64))), none, some (.int (i5 + 1))] [] ac_SK (aa_up V 146 (((((5 : Int32) * (V 105 60)) + i5)).toNatClampNeg) ((l3 - l3 / (100 : Int64) * (100 : Int64)).toInt32)) ac_SK K) ∧
    (¬ i5 < (5 : Int32) →
      K (some (.int (((V 105 60) + (1 : Int32)) - (1 : Int32)))) (aa_up V 105 60 ((V 105 60) + (1 : Int32))))) :
    ab_J G (ac_ST L xs) l (d + 2) 269 31 [some (.ref 105), none, none, some (.long l3), none, some (.int i5)] [] ac_SK V ac_SK K := by
  refine vc_269_31 ?_
  exact h

set_option maxRecDepth 20000 in
/-- FrameCountyModel three(I)I, from 0 -/
theorem iv_270_0 {G : ab_G} {L : Nat} {xs : Nat → Int32} {l : Launch} {d : Nat} {i0 : Int32} {V : aa_V} {K : aa_K} (h :
    ab_J G (ac_ST L xs) l (d + 1) 270 4 [some (.int i0), some (.int (1 : Int32)), some (.int (0 : Int32))] [] ac_SK V ac_SK K) :
    ab_E G (ac_ST L xs) l (d + 1) ac_SK 270 [.int i0] V K := by
  refine vc_270_0 ?_
  exact h

set_option maxRecDepth 20000 in
/-- FrameCountyModel three(I)I, from 4 -/
theorem iv_270_4 {G : ab_G} {L : Nat} {xs : Nat → Int32} {l : Launch} {d : Nat} {i0 : Int32} {i1 : Int32} {i2 : Int32} {V : aa_V} {K : aa_K} (h :
    (i2 < i0 →
      ab_J G (ac_ST L xs) l (d + 1) 270 4 [some (.int i0), some (.int (i1 * (3 : Int32))), some (.int (i2 + 1))] [] ac_SK V ac_SK K) ∧
    (¬ i2 < i0 →
      K (some (.int i1)) V)) :
    ab_J G (ac_ST L xs) l (d + 1) 270 4 [some (.int i0), some (.int i1), some (.int i2)] [] ac_SK V ac_SK K := by
  refine vc_270_4 ?_
  exact h

set_option maxRecDepth 20000 in
/-- FrameCountyModel broken(III)I, from 0 -/
theorem iv_272_0 {G : ab_G} {L : Nat} {xs : Nat → Int32} {l : Launch} {d : Nat} {i1 : Int32} {i2 : Int32} {i3 : Int32} {V : aa_V} {K : aa_K} (h :
    ab_J G (ac_ST L xs) l (d + 3) 272 6 [some (.ref 105), some (.int i1), some (.int i2), some (.int i3), some (.int (0 : Int32)), some (.int (0 : Int32)), none, none, none] [] ac_SK V ac_SK K) :
    ab_E G (ac_ST L xs) l (d + 3) ac_SK 272 [.ref 105, .int i1, .int i2, .int i3] V K := by
  refine vc_272_0 ?_
  exact h

set_option maxRecDepth 20000 in
/-- FrameCountyModel broken(III)I, from 6 -/
theorem iv_272_6 {G : ab_G} {L : Nat} {xs : Nat → Int32} {l : Launch} {d : Nat} {i1 : Int32} {i2 : Int32} {i3 : Int32} {i4 : Int32} {i5 : Int32} {V : aa_V} {K : aa_K} (h :
    (i5 < i3 →
      vp_in (((5 : Int32) * i1) + i5) 30 ∧
      ab_E G (ac_ST L xs) l (d + 1) ac_SK 270 [.int ((i3 - (1 : Int32)) - i5)] V (aa_rI (fun x1 V1 =>
        ¬ x1 = 0 ∧
        ¬ (3 : Int32) = 0 ∧
        (((i2 / x1) - (i2 / x1) / (3 : Int32) * (3 : Int32)) = (2 : Int32) →
          (0 < i5 →
            ab_E G (ac_ST L xs) l (d + 1) ac_SK 270 [.int ((i3 - (1 : Int32)) - (i5 - (1 : Int32)))] V1 (aa_rI (fun x2 V2 =>
              ¬ x2 = 0 ∧
              ¬ (3 : Int32) = 0 ∧
              (((i2 / x2) - (i2 / x2) / (3 : Int32) * (3 : Int32)) = (2 : Int32) →
                (((i2 / x1) - (i2 / x1) / (3 : Int32) * (3 : Int32)) = 0 →
                  ab_J G (ac_ST L xs) l (d + 3) 272 6 [some (.ref 105), some (.int i1), some (.int i2), some (.int i3), some (.int (i4 + (V 146 (((((5 : Int32) * i1) + i5)).toNatClampNeg)))), some (.int (i5 + 1)), none, none, none] [] ac_SK V2 ac_SK K) ∧
                (¬ ((i2 / x1) - (i2 / x1) / (3 : Int32) * (3 : Int32)) = 0 →
                  ab_J G (ac_ST L xs) l (d + 3) 272 6 [some (.ref 105), some (.int i1), some (.int i2), some (.int i3), some (.int (i4 + (V 146 (((((5 : Int32) * i1) + i5)).toNatClampNeg)))), some (.int (i5 + 1)), none, none, none] [] ac_SK V2 ac_SK K)) ∧
              (¬ ((i2 / x2) - (i2 / x2) / (3 : Int32) * (3 : Int32)) = (2 : Int32) →
                (((i2 / x1) - (i2 / x1) / (3 : Int32) * (3 : Int32)) = 0 →
                  ab_J G (ac_ST L xs) l (d + 3) 272 6 [some (.ref 105), some (.int i1), some (.int i2), some (.int i3), some (.int (i4 + (V 146 (((((5 : Int32) * i1) + i5)).toNatClampNeg)))), some (.int (i5 + 1)), none, none, none] [] ac_SK V2 ac_SK K) ∧
                (¬ ((i2 / x1) - (i2 / x1) / (3 : Int32) * (3 : Int32)) = 0 →
                  (((i2 / x1) - (i2 / x1) / (3 : Int32) * (3 : Int32)) = (1 : Int32) →
                    ¬ (2 : Int32) = 0 ∧
                    ab_J G (ac_ST L xs) l (d + 3) 272 6 [some (.ref 105), some (.int i1), some (.int i2), some (.int i3), some (.int (i4 + (((V 146 (((((5 : Int32) * i1) + i5)).toNatClampNeg)) + (1 : Int32)) / (2 : Int32)))), some (.int (i5 + 1)), none, none, none] [] ac_SK V2 ac_SK K) ∧
                  (¬ ((i2 / x1) - (i2 / x1) / (3 : Int32) * (3 : Int32)) = (1 : Int32) →
                    ¬ (3 : Int32) = 0 ∧
                    ab_J G (ac_ST L xs) l (d + 3) 272 6 [some (.ref 105), some (.int i1), some (.int i2), some (.int i3), some (.int (i4 + (((V 146 (((((5 : Int32) * i1) + i5)).toNatClampNeg)) + (2 : Int32)) / (3 : Int32)))), some (.int (i5 + 1)), none, none, none] [] ac_SK V2 ac_SK K)))))) ∧
          (¬ 0 < i5 →
            (((i2 / x1) - (i2 / x1) / (3 : Int32) * (3 : Int32)) = 0 →
              ab_J G (ac_ST L xs) l (d + 3) 272 6 [some (.ref 105), some (.int i1), some (.int i2), some (.int i3), some (.int (i4 + (V 146 (((((5 : Int32) * i1) + i5)).toNatClampNeg)))), some (.int (i5 + 1)), none, none, none] [] ac_SK V1 ac_SK K) ∧
            (¬ ((i2 / x1) - (i2 / x1) / (3 : Int32) * (3 : Int32)) = 0 →
              (((i2 / x1) - (i2 / x1) / (3 : Int32) * (3 : Int32)) = (1 : Int32) →
                ¬ (2 : Int32) = 0 ∧
                ab_J G (ac_ST L xs) l (d + 3) 272 6 [some (.ref 105), some (.int i1), some (.int i2), some (.int i3), some (.int (i4 + (((V 146 (((((5 : Int32) * i1) + i5)).toNatClampNeg)) + (1 : Int32)) / (2 : Int32)))), some (.int (i5 + 1)), none, none, none] [] ac_SK V1 ac_SK K) ∧
              (¬ ((i2 / x1) - (i2 / x1) / (3 : Int32) * (3 : Int32)) = (1 : Int32) →
                ¬ (3 : Int32) = 0 ∧
                ab_J G (ac_ST L xs) l (d + 3) 272 6 [some (.ref 105), some (.int i1), some (.int i2), some (.int i3), some (.int (i4 + (((V 146 (((((5 : Int32) * i1) + i5)).toNatClampNeg)) + (2 : Int32)) / (3 : Int32)))), some (.int (i5 + 1)), none, none, none] [] ac_SK V1 ac_SK K)))) ∧
        (¬ ((i2 / x1) - (i2 / x1) / (3 : Int32) * (3 : Int32)) = (2 : Int32) →
          (((i2 / x1) - (i2 / x1) / (3 : Int32) * (3 : Int32)) = 0 →
            ab_J G (ac_ST L xs) l (d + 3) 272 6 [some (.ref 105), some (.int i1), some (.int i2), some (.int i3), some (.int (i4 + (V 146 (((((5 : Int32) * i1) + i5)).toNatClampNeg)))), some (.int (i5 + 1)), none, none, none] [] ac_SK V1 ac_SK K) ∧
          (¬ ((i2 / x1) - (i2 / x1) / (3 : Int32) * (3 : Int32)) = 0 →
            (((i2 / x1) - (i2 / x1) / (3 : Int32) * (3 : Int32)) = (1 : Int32) →
              ¬ (2 : Int32) = 0 ∧
              ab_J G (ac_ST L xs) l (d + 3) 272 6 [some (.ref 105), some (.int i1), some (.int i2), some (.int i3), some (.int (i4 + (((V 146 (((((5 : Int32) * i1) + i5)).toNatClampNeg)) + (1 : Int32)) / (2 : Int32)))), some (.int (i5 + 1)), none, none, none] [] ac_SK V1 ac_SK K) ∧
            (¬ ((i2 / x1) - (i2 / x1) / (3 : Int32) * (3 : Int32)) = (1 : Int32) →
              ¬ (3 : Int32) = 0 ∧
              ab_J G (ac_ST L xs) l (d + 3) 272 6 [some (.ref 105), some (.int i1), some (.int i2), some (.int i3), some (.int (i4 + (((V 146 (((((5 : Int32) * i1) + i5)).toNatClampNeg)) + (2 : Int32)) / (3 : Int32)))), some (.int (i5 + 1)), none, none, none] [] ac_SK V1 ac_SK K)))))) ∧
    (¬ i5 < i3 →
      K (some (.int i4)) V)) :
    ab_J G (ac_ST L xs) l (d + 3) 272 6 [some (.ref 105), some (.int i1), some (.int i2), some (.int i3), some (.int i4), some (.int i5), none, none, none] [] ac_SK V ac_SK K := by
  refine vc_272_6 ?_
  refine ⟨fun c => ?_, fun c => ?_⟩
  · replace h := h.1 c
    refine ⟨h.1, ?_⟩
    replace h := h.2
    refine vc_271_0 ?_
    refine ab_EmI (fun x1 V1 h => ?_) h
    refine ⟨h.1, ?_⟩
    replace h := h.2
    refine ⟨h.1, ?_⟩
    replace h := h.2
    refine ⟨fun c => ?_, fun c => ?_⟩
    · replace h := h.1 c
      refine ⟨fun c => ?_, fun c => ?_⟩
      · replace h := h.1 c
        refine vc_271_0 ?_
        refine ab_EmI (fun x2 V2 h => ?_) h
        refine ⟨h.1, ?_⟩
        replace h := h.2
        refine ⟨h.1, ?_⟩
        replace h := h.2
        refine ⟨fun c => ?_, fun c => ?_⟩
        · replace h := h.1 c
          refine ⟨fun c => ?_, fun c => ?_⟩
          · replace h := h.1 c
            exact h
          · replace h := h.2 c
            refine ⟨fun q => absurd q (by decide), fun q => ?_⟩
            exact h
        · replace h := h.2 c
          refine ⟨fun c => ?_, fun c => ?_⟩
          · replace h := h.1 c
            exact h
          · replace h := h.2 c
            refine ⟨fun q => ?_, fun q => absurd rfl q⟩
            exact h
      · replace h := h.2 c
        refine ⟨fun c => ?_, fun c => ?_⟩
        · replace h := h.1 c
          exact h
        · replace h := h.2 c
          refine ⟨fun q => ?_, fun q => absurd rfl q⟩
          exact h
    · replace h := h.2 c
      refine ⟨fun c => ?_, fun c => ?_⟩
      · replace h := h.1 c
        exact h
      · replace h := h.2 c
        refine ⟨fun q => ?_, fun q => absurd rfl q⟩
        exact h
  · replace h := h.2 c
    exact h

set_option maxRecDepth 20000 in
/-- FrameCountyModel findPlan(I)V, from 0 -/
theorem iv_273_0 {G : ab_G} {L : Nat} {xs : Nat → Int32} {l : Launch} {d : Nat} {i1 : Int32} {V : aa_V} {K : aa_K} (h :
    ab_J G (ac_ST L xs) l (d + 3) 273 9 [some (.ref 105), some (.int i1), some (.int (0 : Int32)), some (.int (0 : Int32)), none, none, none] [] ac_SK (aa_up V 105 62 (-1 : Int32)) ac_SK K) :
    ab_E G (ac_ST L xs) l (d + 3) ac_SK 273 [.ref 105, .int i1] V K := by
  refine vc_273_0 ?_
  exact h

set_option maxRecDepth 20000 in
/-- FrameCountyModel findPlan(I)V, from 9 -/
theorem iv_273_9 {G : ab_G} {L : Nat} {xs : Nat → Int32} {l : Launch} {d : Nat} {i1 : Int32} {i2 : Int32} {i3 : Int32} {V : aa_V} {K : aa_K} (h :
    ab_E G (ac_ST L xs) l (d + 2) ac_SK 270 [.int i1] V (aa_rI (fun x1 V1 =>
      (i3 < x1 →
        ab_J G (ac_ST L xs) l (d + 3) 273 26 [some (.ref 105), some (.int i1), some (.int i2), some (.int i3), some (.int (0 : Int32)), some (.int (0 : Int32)), some (.int (0 : Int32))] [] ac_SK V1 ac_SK K) ∧
      (¬ i3 < x1 →
        K none V1)))) :
    ab_J G (ac_ST L xs) l (d + 3) 273 9 [some (.ref 105), some (.int i1), some (.int i2), some (.int i3), none, none, none] [] ac_SK V ac_SK K := by
  refine vc_273_9 ?_
  exact h

set_option maxRecDepth 20000 in
/-- FrameCountyModel findPlan(I)V, from 26 -/
theorem iv_273_26 {G : ab_G} {L : Nat} {xs : Nat → Int32} {l : Launch} {d : Nat} {i1 : Int32} {i2 : Int32} {i3 : Int32} {i4 : Int32} {i5 : Int32} {i6 : Int32} {V : aa_V} {K : aa_K} (h :
    (i6 < (V 105 60) →
      ab_E G (ac_ST L xs) l (d + 2) ac_SK 272 [.ref 105, .int i6, .int i3, .int i1] V (aa_rI (fun x1 V1 =>
        (i4 < x1 →
          ab_E G (ac_ST L xs) l (d + 2) ac_SK 272 [.ref 105, .int i6, .int i3, .int i1] V1 (aa_rI (fun x2 V2 =>
            ab_J G (ac_ST L xs) l (d + 3) 273 26 [some (.ref 105), some (.int i1), some (.int i2), some (.int i3), some (.int x2), some (.int i5), some (.int (i6 + 1))] [] ac_SK V2 ac_SK K))) ∧
        (¬ i4 < x1 →
          ab_J G (ac_ST L xs) l (d + 3) 273 26 [some (.ref 105), some (.int i1), some (.int i2), some (.int i3), some (.int i4), some (.int i5), some (.int (i6 + 1))] [] ac_SK V1 ac_SK K)))) ∧
    (¬ i6 < (V 105 60) →
      ab_J G (ac_ST L xs) l (d + 3) 273 72 [some (.ref 105), some (.int i1), some (.int i2), some (.int i3), some (.int i4), some (.int i5), some (.int (0 : Int32))] [] ac_SK V ac_SK K)) :
    ab_J G (ac_ST L xs) l (d + 3) 273 26 [some (.ref 105), some (.int i1), some (.int i2), some (.int i3), some (.int i4), some (.int i5), some (.int i6)] [] ac_SK V ac_SK K := by
  refine vc_273_26 ?_
  exact h

set_option maxRecDepth 20000 in
/-- FrameCountyModel findPlan(I)V, from 72 -/
theorem iv_273_72 {G : ab_G} {L : Nat} {xs : Nat → Int32} {l : Launch} {d : Nat} {i1 : Int32} {i2 : Int32} {i3 : Int32} {i4 : Int32} {i5 : Int32} {i6 : Int32} {V : aa_V} {K : aa_K} (h :
    (i6 < i1 →
      ab_E G (ac_ST L xs) l (d + 1) ac_SK 270 [.int ((i1 - (1 : Int32)) - i6)] V (aa_rI (fun x1 V1 =>
        ¬ x1 = 0 ∧
        ¬ (3 : Int32) = 0 ∧
        (((i3 / x1) - (i3 / x1) / (3 : Int32) * (3 : Int32)) = (1 : Int32) →
          ab_J G (ac_ST L xs) l (d + 3) 273 72 [some (.ref 105), some (.int i1), some (.int i2), some (.int i3), some (.int i4), some (.int (i5 + (1 : Int32))), some (.int (i6 + 1))] [] ac_SK V1 ac_SK K) ∧
        (¬ ((i3 / x1) - (i3 / x1) / (3 : Int32) * (3 : Int32)) = (1 : Int32) →
          ab_J G (ac_ST L xs) l (d + 3) 273 72 [some (.ref 105), some (.int i1), some (.int i2), some (.int i3), some (.int i4), some (.int (i5 + (0 : Int32))), some (.int (i6 + 1))] [] ac_SK V1 ac_SK K)))) ∧
    (¬ i6 < i1 →
      ((V 105 62) < 0 →
        ab_J G (ac_ST L xs) l (d + 3) 273 9 [some (.ref 105), some (.int i1), some (.int i5), some (.int (i3 + 1)), none, none, none] [] ac_SK (aa_up (aa_up V 105 62 i3) 105 61 i4) ac_SK K) ∧
      (¬ (V 105 62) < 0 →
        ((V 105 61) < i4 →
          ab_J G (ac_ST L xs) l (d + 3) 273 9 [some (.ref 105), some (.int i1), some (.int i2), some (.int (i3 + 1)), none, none, none] [] ac_SK V ac_SK K) ∧
        (¬ (V 105 61) < i4 →
          (i4 = (V 105 61) →
            (i5 < i2 →
              ab_J G (ac_ST L xs) l (d + 3) 273 9 [some (.ref 105), some (.int i1), some (.int i5), some (.int (i3 + 1)), none, none, none] [] ac_SK (aa_up (aa_up V 105 62 i3) 105 61 i4) ac_SK K) ∧
            (¬ i5 < i2 →
              ab_J G (ac_ST L xs) l (d + 3) 273 9 [some (.ref 105), some (.int i1), some (.int i2), some (.int (i3 + 1)), none, none, none] [] ac_SK V ac_SK K)) ∧
          (¬ i4 = (V 105 61) →
            ab_J G (ac_ST L xs) l (d + 3) 273 9 [some (.ref 105), some (.int i1), some (.int i5), some (.int (i3 + 1)), none, none, none] [] ac_SK (aa_up (aa_up V 105 62 i3) 105 61 i4) ac_SK K))))) :
    ab_J G (ac_ST L xs) l (d + 3) 273 72 [some (.ref 105), some (.int i1), some (.int i2), some (.int i3), some (.int i4), some (.int i5), some (.int i6)] [] ac_SK V ac_SK K := by
  refine vc_273_72 ?_
  refine ⟨fun c => ?_, fun c => ?_⟩
  · replace h := h.1 c
    refine vc_271_0 ?_
    refine ab_EmI (fun x1 V1 h => ?_) h
    refine ⟨h.1, ?_⟩
    replace h := h.2
    refine ⟨h.1, ?_⟩
    replace h := h.2
    exact h
  · replace h := h.2 c
    exact h

set_option maxRecDepth 20000 in
/-- FrameCountyModel plan(II)I, from 0 -/
theorem iv_274_0 {G : ab_G} {L : Nat} {xs : Nat → Int32} {l : Launch} {d : Nat} {i1 : Int32} {i2 : Int32} {V : aa_V} {K : aa_K} (h :
    (i1 < (1 : Int32) →
      K (some (.int (-2 : Int32))) V) ∧
    (¬ i1 < (1 : Int32) →
      ((5 : Int32) < i1 →
        K (some (.int (-2 : Int32))) V) ∧
      (¬ (5 : Int32) < i1 →
        (i2 < (-1 : Int32) →
          K (some (.int (-1 : Int32))) V) ∧
        (¬ i2 < (-1 : Int32) →
          ((i1 - (1 : Int32)) < i2 →
            K (some (.int (-1 : Int32))) V) ∧
          (¬ (i1 - (1 : Int32)) < i2 →
            ab_E G (ac_ST L xs) l (d + 2) ac_SK 273 [.ref 105, .int i1] V (aa_rV (fun V1 =>
              (i2 < 0 →
                K (some (.int (V1 105 61))) V1) ∧
              (¬ i2 < 0 →
                ab_E G (ac_ST L xs) l (d + 1) ac_SK 270 [.int ((i1 - (1 : Int32)) - i2)] V1 (aa_rI (fun x2 V2 =>
                  ¬ x2 = 0 ∧
                  ¬ (3 : Int32) = 0 ∧
                  K (some (.int (((V1 105 62) / x2) - ((V1 105 62) / x2) / (3 : Int32) * (3 : Int32)))) V2)))))))))) :
    ab_E G (ac_ST L xs) l (d + 3) ac_SK 274 [.ref 105, .int i1, .int i2] V K := by
  refine vc_274_0 ?_
  refine iv_isIn (a := i1) (b := (1 : Int32)) (c := (5 : Int32)) (by decide +kernel) (by decide +kernel) ?_
  refine ⟨fun c => ?_, fun c => ?_⟩
  · replace h := h.1 c
    refine ⟨fun q => ?_, fun q => absurd rfl q⟩
    exact h
  · replace h := h.2 c
    refine ⟨fun c => ?_, fun c => ?_⟩
    · replace h := h.1 c
      refine ⟨fun q => ?_, fun q => absurd rfl q⟩
      exact h
    · replace h := h.2 c
      refine ⟨fun q => absurd q (by decide), fun q => ?_⟩
      refine iv_isIn (a := i2) (b := (-1 : Int32)) (c := (i1 - (1 : Int32))) (by decide +kernel) rfl ?_
      refine ⟨fun c => ?_, fun c => ?_⟩
      · replace h := h.1 c
        refine ⟨fun q => ?_, fun q => absurd rfl q⟩
        exact h
      · replace h := h.2 c
        refine ⟨fun c => ?_, fun c => ?_⟩
        · replace h := h.1 c
          refine ⟨fun q => ?_, fun q => absurd rfl q⟩
          exact h
        · replace h := h.2 c
          refine ⟨fun q => absurd q (by decide), fun q => ?_⟩
          refine ab_EmV (fun V1 h => ?_) h
          refine ⟨fun c => ?_, fun c => ?_⟩
          · replace h := h.1 c
            exact h
          · replace h := h.2 c
            refine vc_271_0 ?_
            refine ab_EmI (fun x2 V2 h => ?_) h
            refine ⟨h.1, ?_⟩
            replace h := h.2
            refine ⟨h.1, ?_⟩
            replace h := h.2
            exact h

set_option maxRecDepth 20000 in
/-- FrameCountyModel thatAre(I)I, from 0 -/
theorem iv_275_0 {G : ab_G} {L : Nat} {xs : Nat → Int32} {l : Launch} {d : Nat} {i1 : Int32} {V : aa_V} {K : aa_K} (h :
    ab_J G (ac_ST L xs) l (d + 1) 275 4 [some (.ref 105), some (.int i1), some (.int (0 : Int32)), some (.int (0 : Int32))] [] ac_SK V ac_SK K) :
    ab_E G (ac_ST L xs) l (d + 1) ac_SK 275 [.ref 105, .int i1] V K := by
  refine vc_275_0 ?_
  exact h

set_option maxRecDepth 20000 in
/-- FrameCountyModel thatAre(I)I, from 4 -/
theorem iv_275_4 {G : ab_G} {L : Nat} {xs : Nat → Int32} {l : Launch} {d : Nat} {i1 : Int32} {i2 : Int32} {i3 : Int32} {V : aa_V} {K : aa_K} (h :
    (i3 < (V 105 12) →
      vp_in i3 20 ∧
      ((V 114 ((i3).toNatClampNeg)) = i1 →
        ab_J G (ac_ST L xs) l (d + 1) 275 4 [some (.ref 105), some (.int i1), some (.int (i2 + (1 : Int32))), some (.int (i3 + 1))] [] ac_SK V ac_SK K) ∧
      (¬ (V 114 ((i3).toNatClampNeg)) = i1 →
        ab_J G (ac_ST L xs) l (d + 1) 275 4 [some (.ref 105), some (.int i1), some (.int (i2 + (0 : Int32))), some (.int (i3 + 1))] [] ac_SK V ac_SK K)) ∧
    (¬ i3 < (V 105 12) →
      K (some (.int i2)) V)) :
    ab_J G (ac_ST L xs) l (d + 1) 275 4 [some (.ref 105), some (.int i1), some (.int i2), some (.int i3)] [] ac_SK V ac_SK K := by
  refine vc_275_4 ?_
  exact h

set_option maxRecDepth 20000 in
/-- FrameCountyModel count(I)I, from 0 -/
theorem iv_276_0 {G : ab_G} {L : Nat} {xs : Nat → Int32} {l : Launch} {d : Nat} {i1 : Int32} {V : aa_V} {K : aa_K} (h :
    (i1 = 0 →
      K (some (.int (V 105 2))) V) ∧
    (¬ i1 = 0 →
    (i1 = 1 →
      K (some (.int (V 105 11))) V) ∧
    (¬ i1 = 1 →
    (i1 = 2 →
      K (some (.int (V 105 12))) V) ∧
    (¬ i1 = 2 →
    (i1 = 3 →
      K (some (.int (V 105 34))) V) ∧
    (¬ i1 = 3 →
    (i1 = 4 →
      K (some (.int (V 105 46))) V) ∧
    (¬ i1 = 4 →
    (i1 = 5 →
      K (some (.int (V 105 47))) V) ∧
    (¬ i1 = 5 →
    (i1 = 6 →
      K (some (.int (V 105 48))) V) ∧
    (¬ i1 = 6 →
    (i1 = 7 →
      K (some (.int (V 105 54))) V) ∧
    (¬ i1 = 7 →
    (i1 = 8 →
      K (some (.int (V 105 58))) V) ∧
    (¬ i1 = 8 →
    (i1 = 9 →
      K (some (.int (V 105 60))) V) ∧
    (¬ i1 = 9 →
    (i1 = 10 →
      K (some (.int (V 105 20))) V) ∧
    (¬ i1 = 10 →
    (i1 = 11 →
      K (some (.int (V 105 19))) V) ∧
    (¬ i1 = 11 →
    (i1 = 12 →
      K (some (.int (V 105 21))) V) ∧
    (¬ i1 = 12 →
    (i1 = 13 →
      ab_E G (ac_ST L xs) l (d + 1) ac_SK 275 [.ref 105, .int (i1 - (13 : Int32))] V (aa_rI (fun x1 V1 =>
        K (some (.int x1)) V1))) ∧
    (¬ i1 = 13 →
    (i1 = 14 →
      ab_E G (ac_ST L xs) l (d + 1) ac_SK 275 [.ref 105, .int (i1 - (13 : Int32))] V (aa_rI (fun x1 V1 =>
        K (some (.int x1)) V1))) ∧
    (¬ i1 = 14 →
    (i1 = 15 →
      ab_E G (ac_ST L xs) l (d + 1) ac_SK 275 [.ref 105, .int (i1 - (13 : Int32))] V (aa_rI (fun x1 V1 =>
        K (some (.int x1)) V1))) ∧
    (¬ i1 = 15 →
    K (some (.int (-2 : Int32))) V))))))))))))))))) :
    ab_E G (ac_ST L xs) l (d + 2) ac_SK 276 [.ref 105, .int i1] V K := by
  refine vc_276_0 ?_
  exact h

set_option maxRecDepth 20000 in
/-- FrameCountyModel sheet(III)I, from 0 -/
theorem iv_278_0 {G : ab_G} {L : Nat} {xs : Nat → Int32} {l : Launch} {d : Nat} {i1 : Int32} {i2 : Int32} {i3 : Int32} {V : aa_V} {K : aa_K} (h :
    (i1 < 0 →
      K (some (.int (-2 : Int32))) V) ∧
    (¬ i1 < 0 →
      (i1 < (4 : Int32) →
        (i2 < (-1 : Int32) →
          K (some (.int (-2 : Int32))) V) ∧
        (¬ i2 < (-1 : Int32) →
          ((2 : Int32) < i2 →
            K (some (.int (-2 : Int32))) V) ∧
          (¬ (2 : Int32) < i2 →
            (i2 < 0 →
              (i2 < 0 →
                vp_in i1 4 ∧
                (i2 < 0 →
                  vp_in i1 4 ∧
                  ab_J G (ac_ST L xs) l (d + 2) 278 70 [some (.ref 105), some (.int i1), none, none, some (.int (0 : Int32))] [] ac_SK (aa_up (aa_up V 147 ((i1).toNatClampNeg) i2) 148 ((i1).toNatClampNeg) (0 : Int32)) ac_SK K) ∧
                (¬ i2 < 0 →
                  vp_in i1 4 ∧
                  ab_J G (ac_ST L xs) l (d + 2) 278 70 [some (.ref 105), some (.int i1), none, none, some (.int (0 : Int32))] [] ac_SK (aa_up (aa_up V 147 ((i1).toNatClampNeg) i2) 148 ((i1).toNatClampNeg) i3) ac_SK K)) ∧
              (¬ i2 < 0 →
                (i3 < 0 →
                  K (some (.int (-14 : Int32))) V) ∧
                (¬ i3 < 0 →
                  vp_in i1 4 ∧
                  (i2 < 0 →
                    vp_in i1 4 ∧
                    ab_J G (ac_ST L xs) l (d + 2) 278 70 [some (.ref 105), some (.int i1), none, none, some (.int (0 : Int32))] [] ac_SK (aa_up (aa_up V 147 ((i1).toNatClampNeg) i2) 148 ((i1).toNatClampNeg) (0 : Int32)) ac_SK K) ∧
                  (¬ i2 < 0 →
                    vp_in i1 4 ∧
                    ab_J G (ac_ST L xs) l (d + 2) 278 70 [some (.ref 105), some (.int i1), none, none, some (.int (0 : Int32))] [] ac_SK (aa_up (aa_up V 147 ((i1).toNatClampNeg) i2) 148 ((i1).toNatClampNeg) i3) ac_SK K)))) ∧
            (¬ i2 < 0 →
              ((40 : Int32) < i3 →
                K (some (.int (-2 : Int32))) V) ∧
              (¬ (40 : Int32) < i3 →
                (i2 < 0 →
                  vp_in i1 4 ∧
                  (i2 < 0 →
                    vp_in i1 4 ∧
                    ab_J G (ac_ST L xs) l (d + 2) 278 70 [some (.ref 105), some (.int i1), none, none, some (.int (0 : Int32))] [] ac_SK (aa_up (aa_up V 147 ((i1).toNatClampNeg) i2) 148 ((i1).toNatClampNeg) (0 : Int32)) ac_SK K) ∧
                  (¬ i2 < 0 →
                    vp_in i1 4 ∧
                    ab_J G (ac_ST L xs) l (d + 2) 278 70 [some (.ref 105), some (.int i1), none, none, some (.int (0 : Int32))] [] ac_SK (aa_up (aa_up V 147 ((i1).toNatClampNeg) i2) 148 ((i1).toNatClampNeg) i3) ac_SK K)) ∧
                (¬ i2 < 0 →
                  (i3 < 0 →
                    K (some (.int (-14 : Int32))) V) ∧
                  (¬ i3 < 0 →
                    vp_in i1 4 ∧
                    (i2 < 0 →
                      vp_in i1 4 ∧
                      ab_J G (ac_ST L xs) l (d + 2) 278 70 [some (.ref 105), some (.int i1), none, none, some (.int (0 : Int32))] [] ac_SK (aa_up (aa_up V 147 ((i1).toNatClampNeg) i2) 148 ((i1).toNatClampNeg) (0 : Int32)) ac_SK K) ∧
                    (¬ i2 < 0 →
                      vp_in i1 4 ∧
                      ab_J G (ac_ST L xs) l (d + 2) 278 70 [some (.ref 105), some (.int i1), none, none, some (.int (0 : Int32))] [] ac_SK (aa_up (aa_up V 147 ((i1).toNatClampNeg) i2) 148 ((i1).toNatClampNeg) i3) ac_SK K)))))))) ∧
      (¬ i1 < (4 : Int32) →
        K (some (.int (-2 : Int32))) V))) :
    ab_E G (ac_ST L xs) l (d + 2) ac_SK 278 [.ref 105, .int i1, .int i2, .int i3] V K := by
  refine vc_278_0 ?_
  refine vc_277_0 ?_
  refine ⟨fun c => ?_, fun c => ?_⟩
  · replace h := h.1 c
    refine ⟨Or.inl rfl, ?_⟩
    refine ⟨fun q => ?_, fun q => absurd rfl q⟩
    exact h
  · replace h := h.2 c
    refine ⟨fun c => ?_, fun c => ?_⟩
    · replace h := h.1 c
      refine ⟨Or.inr rfl, ?_⟩
      refine ⟨fun q => absurd q (by decide), fun q => ?_⟩
      refine iv_isIn (a := i2) (b := (-1 : Int32)) (c := (2 : Int32)) (by decide +kernel) (by decide +kernel) ?_
      refine ⟨fun c => ?_, fun c => ?_⟩
      · replace h := h.1 c
        refine ⟨fun q => ?_, fun q => absurd rfl q⟩
        exact h
      · replace h := h.2 c
        refine ⟨fun c => ?_, fun c => ?_⟩
        · replace h := h.1 c
          refine ⟨fun q => ?_, fun q => absurd rfl q⟩
          exact h
        · replace h := h.2 c
          refine ⟨fun q => absurd q (by decide), fun q => ?_⟩
          exact h
    · replace h := h.2 c
      refine ⟨Or.inl rfl, ?_⟩
      refine ⟨fun q => ?_, fun q => absurd rfl q⟩
      exact h

set_option maxRecDepth 20000 in
/-- FrameCountyModel sheet(III)I, from 70 -/
theorem iv_278_70 {G : ab_G} {L : Nat} {xs : Nat → Int32} {l : Launch} {d : Nat} {i1 : Int32} {i4 : Int32} {V : aa_V} {K : aa_K} (h :
    (i4 < (40 : Int32) →
      vp_in (((40 : Int32) * i1) + i4) 160 ∧
      ab_J G (ac_ST L xs) l (d + 2) 278 70 [some (.ref 105), some (.int i1), none, none, some (.int (i4 + 1))] [] ac_SK (aa_up V 149 (((((40 : Int32) * i1) + i4)).toNatClampNeg) (0 : Int32)) ac_SK K) ∧
    (¬ i4 < (40 : Int32) →
      K (some (.int (1 : Int32))) V)) :
    ab_J G (ac_ST L xs) l (d + 2) 278 70 [some (.ref 105), some (.int i1), none, none, some (.int i4)] [] ac_SK V ac_SK K := by
  refine vc_278_70 ?_
  exact h

set_option maxRecDepth 20000 in
/-- FrameCountyModel cell(III)I, from 0 -/
theorem iv_280_0 {G : ab_G} {L : Nat} {xs : Nat → Int32} {l : Launch} {d : Nat} {i1 : Int32} {i2 : Int32} {i3 : Int32} {V : aa_V} {K : aa_K} (h :
    (i1 < 0 →
      K (some (.int (-2 : Int32))) V) ∧
    (¬ i1 < 0 →
      (i1 < (4 : Int32) →
        vp_in i1 4 ∧
        ((V 147 ((i1).toNatClampNeg)) < 0 →
          K (some (.int (-11 : Int32))) V) ∧
        (¬ (V 147 ((i1).toNatClampNeg)) < 0 →
          vp_in i1 4 ∧
          (i2 < (0 : Int32) →
            K (some (.int (-12 : Int32))) V) ∧
          (¬ i2 < (0 : Int32) →
            (((V 148 ((i1).toNatClampNeg)) - (1 : Int32)) < i2 →
              K (some (.int (-12 : Int32))) V) ∧
            (¬ ((V 148 ((i1).toNatClampNeg)) - (1 : Int32)) < i2 →
              vp_in i1 4 ∧
              ((V 147 ((i1).toNatClampNeg)) = 0 →
                vp_in (((40 : Int32) * i1) + i2) 160 ∧
                K (some (.int (1 : Int32))) (aa_up V 149 (((((40 : Int32) * i1) + i2)).toNatClampNeg) (i3.toInt8.toInt32))) ∧
              (¬ (V 147 ((i1).toNatClampNeg)) = 0 →
                ((V 147 ((i1).toNatClampNeg)) = (1 : Int32) →
                  vp_in (((40 : Int32) * i1) + i2) 160 ∧
                  K (some (.int (1 : Int32))) (aa_up V 149 (((((40 : Int32) * i1) + i2)).toNatClampNeg) (i3.toInt16.toInt32))) ∧
                (¬ (V 147 ((i1).toNatClampNeg)) = (1 : Int32) →
                  vp_in (((40 : Int32) * i1) + i2) 160 ∧
                  K (some (.int (1 : Int32))) (aa_up V 149 (((((40 : Int32) * i1) + i2)).toNatClampNeg) i3))))))) ∧
      (¬ i1 < (4 : Int32) →
        K (some (.int (-2 : Int32))) V))) :
    ab_E G (ac_ST L xs) l (d + 2) ac_SK 280 [.ref 105, .int i1, .int i2, .int i3] V K := by
  refine vc_280_0 ?_
  refine vc_277_0 ?_
  refine ⟨fun c => ?_, fun c => ?_⟩
  · replace h := h.1 c
    refine ⟨Or.inl rfl, ?_⟩
    refine ⟨fun q => ?_, fun q => absurd rfl q⟩
    exact h
  · replace h := h.2 c
    refine ⟨fun c => ?_, fun c => ?_⟩
    · replace h := h.1 c
      refine ⟨Or.inr rfl, ?_⟩
      refine ⟨fun q => absurd q (by decide), fun q => ?_⟩
      refine ⟨h.1, ?_⟩
      replace h := h.2
      refine ⟨fun c => ?_, fun c => ?_⟩
      · replace h := h.1 c
        exact h
      · replace h := h.2 c
        refine ⟨h.1, ?_⟩
        replace h := h.2
        refine iv_isIn (a := i2) (b := (0 : Int32)) (c := ((V 148 ((i1).toNatClampNeg)) - (1 : Int32))) (by decide +kernel) rfl ?_
        refine ⟨fun c => ?_, fun c => ?_⟩
        · replace h := h.1 c
          refine ⟨fun q => ?_, fun q => absurd rfl q⟩
          exact h
        · replace h := h.2 c
          refine ⟨fun c => ?_, fun c => ?_⟩
          · replace h := h.1 c
            refine ⟨fun q => ?_, fun q => absurd rfl q⟩
            exact h
          · replace h := h.2 c
            refine ⟨fun q => absurd q (by decide), fun q => ?_⟩
            refine ⟨h.1, ?_⟩
            replace h := h.2
            refine vc_279_0 ?_
            refine ⟨fun c => ?_, fun c => ?_⟩
            · replace h := h.1 c
              refine ⟨h.1, ?_⟩
              replace h := h.2
              exact h
            · replace h := h.2 c
              refine ⟨fun c => ?_, fun c => ?_⟩
              · replace h := h.1 c
                refine ⟨h.1, ?_⟩
                replace h := h.2
                exact h
              · replace h := h.2 c
                refine ⟨h.1, ?_⟩
                replace h := h.2
                exact h
    · replace h := h.2 c
      refine ⟨Or.inl rfl, ?_⟩
      refine ⟨fun q => ?_, fun q => absurd rfl q⟩
      exact h

set_option maxRecDepth 20000 in
/-- FrameCountyModel copy(IIIII)I, from 0 -/
theorem iv_281_0 {G : ab_G} {L : Nat} {xs : Nat → Int32} {l : Launch} {d : Nat} {i1 : Int32} {i2 : Int32} {i3 : Int32} {i4 : Int32} {i5 : Int32} {V : aa_V} {K : aa_K} (h :
    (i1 < 0 →
      K (some (.int (-2 : Int32))) V) ∧
    (¬ i1 < 0 →
      (i1 < (4 : Int32) →
        (i3 < 0 →
          K (some (.int (-2 : Int32))) V) ∧
        (¬ i3 < 0 →
          (i3 < (4 : Int32) →
            vp_in i1 4 ∧
            ((V 147 ((i1).toNatClampNeg)) < 0 →
              K (some (.int (-11 : Int32))) V) ∧
            (¬ (V 147 ((i1).toNatClampNeg)) < 0 →
              vp_in i3 4 ∧
              ((V 147 ((i3).toNatClampNeg)) < 0 →
                K (some (.int (-11 : Int32))) V) ∧
              (¬ (V 147 ((i3).toNatClampNeg)) < 0 →
                vp_in i1 4 ∧
                vp_in i3 4 ∧
                ((V 147 ((i1).toNatClampNeg)) = (V 147 ((i3).toNatClampNeg)) →
                  (i5 < 0 →
                    K (some (.int (-12 : Int32))) V) ∧
                  (¬ i5 < 0 →
                    (i2 < 0 →
                      K (some (.int (-12 : Int32))) V) ∧
                    (¬ i2 < 0 →
                      (i4 < 0 →
                        K (some (.int (-12 : Int32))) V) ∧
                      (¬ i4 < 0 →
                        vp_in i1 4 ∧
                        (0 < (lg_cmp ((i2.toInt64) + (i5.toInt64)) ((V 148 ((i1).toNatClampNeg)).toInt64)) →
                          K (some (.int (-12 : Int32))) V) ∧
                        (¬ 0 < (lg_cmp ((i2.toInt64) + (i5.toInt64)) ((V 148 ((i1).toNatClampNeg)).toInt64)) →
                          vp_in i3 4 ∧
                          (0 < (lg_cmp ((i4.toInt64) + (i5.toInt64)) ((V 148 ((i3).toNatClampNeg)).toInt64)) →
                            K (some (.int (-12 : Int32))) V) ∧
                          (¬ 0 < (lg_cmp ((i4.toInt64) + (i5.toInt64)) ((V 148 ((i3).toNatClampNeg)).toInt64)) →
                            ab_J G (ac_ST L xs) l (d + 2) 281 111 [some (.ref 105), some (.int i1), some (.int i2), some (.int i3), some (.int i4), some (.int i5), some (.int (0 : Int32))] [] ac_SK V ac_SK K)))))) ∧
                (¬ (V 147 ((i1).toNatClampNeg)) = (V 147 ((i3).toNatClampNeg)) →
                  K (some (.int (-13 : Int32))) V)))) ∧
          (¬ i3 < (4 : Int32) →
            K (some (.int (-2 : Int32))) V))) ∧
      (¬ i1 < (4 : Int32) →
        K (some (.int (-2 : Int32))) V))) :
    ab_E G (ac_ST L xs) l (d + 2) ac_SK 281 [.ref 105, .int i1, .int i2, .int i3, .int i4, .int i5] V K := by
  refine vc_281_0 ?_
  refine vc_277_0 ?_
  refine ⟨fun c => ?_, fun c => ?_⟩
  · replace h := h.1 c
    refine ⟨Or.inl rfl, ?_⟩
    refine ⟨fun q => ?_, fun q => absurd rfl q⟩
    exact h
  · replace h := h.2 c
    refine ⟨fun c => ?_, fun c => ?_⟩
    · replace h := h.1 c
      refine ⟨Or.inr rfl, ?_⟩
      refine ⟨fun q => absurd q (by decide), fun q => ?_⟩
      refine vc_277_0 ?_
      refine ⟨fun c => ?_, fun c => ?_⟩
      · replace h := h.1 c
        refine ⟨Or.inl rfl, ?_⟩
        refine ⟨fun q => ?_, fun q => absurd rfl q⟩
        exact h
      · replace h := h.2 c
        refine ⟨fun c => ?_, fun c => ?_⟩
        · replace h := h.1 c
          refine ⟨Or.inr rfl, ?_⟩
          refine ⟨fun q => absurd q (by decide), fun q => ?_⟩
          refine ⟨h.1, ?_⟩
          replace h := h.2
          exact h
        · replace h := h.2 c
          refine ⟨Or.inl rfl, ?_⟩
          refine ⟨fun q => ?_, fun q => absurd rfl q⟩
          exact h
    · replace h := h.2 c
      refine ⟨Or.inl rfl, ?_⟩
      refine ⟨fun q => ?_, fun q => absurd rfl q⟩
      exact h

set_option maxRecDepth 20000 in
/-- FrameCountyModel copy(IIIII)I, from 111 -/
theorem iv_281_111 {G : ab_G} {L : Nat} {xs : Nat → Int32} {l : Launch} {d : Nat} {i1 : Int32} {i2 : Int32} {i3 : Int32} {i4 : Int32} {i5 : Int32} {i6 : Int32} {V : aa_V} {K : aa_K} (h :
    (i6 < i5 →
      vp_in ((((40 : Int32) * i1) + i2) + i6) 160 ∧
      vp_in i6 40 ∧
      ab_J G (ac_ST L xs) l (d + 2) 281 111 [some (.ref 105), some (.int i1), some (.int i2), some (.int i3), some (.int i4), some (.int i5), some (.int (i6 + 1))] [] ac_SK (aa_up V 150 ((i6).toNatClampNeg) (V 149 ((((((40 : Int32) * i1) + i2) + i6)).toNatClampNeg))) ac_SK K) ∧
    (¬ i6 < i5 →
      ab_J G (ac_ST L xs) l (d + 2) 281 148 [some (.ref 105), none, none, some (.int i3), some (.int i4), some (.int i5), some (.int (0 : Int32))] [] ac_SK V ac_SK K)) :
    ab_J G (ac_ST L xs) l (d + 2) 281 111 [some (.ref 105), some (.int i1), some (.int i2), some (.int i3), some (.int i4), some (.int i5), some (.int i6)] [] ac_SK V ac_SK K := by
  refine vc_281_111 ?_
  exact h

set_option maxRecDepth 20000 in
/-- FrameCountyModel copy(IIIII)I, from 148 -/
theorem iv_281_148 {G : ab_G} {L : Nat} {xs : Nat → Int32} {l : Launch} {d : Nat} {i3 : Int32} {i4 : Int32} {i5 : Int32} {i6 : Int32} {V : aa_V} {K : aa_K} (h :
    (i6 < i5 →
      vp_in i6 40 ∧
      vp_in ((((40 : Int32) * i3) + i4) + i6) 160 ∧
      ab_J G (ac_ST L xs) l (d + 2) 281 148 [some (.ref 105), none, none, some (.int i3), some (.int i4), some (.int i5), some (.int (i6 + 1))] [] ac_SK (aa_up V 149 ((((((40 : Int32) * i3) + i4) + i6)).toNatClampNeg) (V 150 ((i6).toNatClampNeg))) ac_SK K) ∧
    (¬ i6 < i5 →
      K (some (.int i5)) V)) :
    ab_J G (ac_ST L xs) l (d + 2) 281 148 [some (.ref 105), none, none, some (.int i3), some (.int i4), some (.int i5), some (.int i6)] [] ac_SK V ac_SK K := by
  refine vc_281_148 ?_
  exact h

set_option maxRecDepth 20000 in
/-- FrameCountyModel paysRow(IIII)I, from 0 -/
theorem iv_282_0 {G : ab_G} {L : Nat} {xs : Nat → Int32} {l : Launch} {d : Nat} {i1 : Int32} {i2 : Int32} {i3 : Int32} {i4 : Int32} {V : aa_V} {K : aa_K} (h :
    (i1 < 0 →
      K (some (.int (-2 : Int32))) V) ∧
    (¬ i1 < 0 →
      (i1 < (4 : Int32) →
        (i2 < (0 : Int32) →
          K (some (.int (-2 : Int32))) V) ∧
        (¬ i2 < (0 : Int32) →
          ((2 : Int32) < i2 →
            K (some (.int (-2 : Int32))) V) ∧
          (¬ (2 : Int32) < i2 →
            (i4 < (0 : Int32) →
              K (some (.int (-2 : Int32))) V) ∧
            (¬ i4 < (0 : Int32) →
              ((8 : Int32) < i4 →
                K (some (.int (-2 : Int32))) V) ∧
              (¬ (8 : Int32) < i4 →
                vp_in i1 4 ∧
                ((V 147 ((i1).toNatClampNeg)) < 0 →
                  vp_in i1 4 ∧
                  ((V 147 ((i1).toNatClampNeg)) < 0 →
                    K (some (.int (-11 : Int32))) V) ∧
                  (¬ (V 147 ((i1).toNatClampNeg)) < 0 →
                    ab_J G (ac_ST L xs) l (d + 2) 282 75 [some (.ref 105), some (.int i1), none, some (.int i3), some (.int i4), some (.int (0 : Int32)), some (.int (0 : Int32)), none, none, none] [] ac_SK V ac_SK K)) ∧
                (¬ (V 147 ((i1).toNatClampNeg)) < 0 →
                  vp_in i1 4 ∧
                  ((V 147 ((i1).toNatClampNeg)) = i2 →
                    vp_in i1 4 ∧
                    ((V 147 ((i1).toNatClampNeg)) < 0 →
                      K (some (.int (-11 : Int32))) V) ∧
                    (¬ (V 147 ((i1).toNatClampNeg)) < 0 →
                      ab_J G (ac_ST L xs) l (d + 2) 282 75 [some (.ref 105), some (.int i1), none, some (.int i3), some (.int i4), some (.int (0 : Int32)), some (.int (0 : Int32)), none, none, none] [] ac_SK V ac_SK K)) ∧
                  (¬ (V 147 ((i1).toNatClampNeg)) = i2 →
                    K (some (.int (-13 : Int32))) V))))))) ∧
      (¬ i1 < (4 : Int32) →
        K (some (.int (-2 : Int32))) V))) :
    ab_E G (ac_ST L xs) l (d + 2) ac_SK 282 [.ref 105, .int i1, .int i2, .int i3, .int i4] V K := by
  refine vc_282_0 ?_
  refine vc_277_0 ?_
  refine ⟨fun c => ?_, fun c => ?_⟩
  · replace h := h.1 c
    refine ⟨Or.inl rfl, ?_⟩
    refine ⟨fun q => ?_, fun q => absurd rfl q⟩
    exact h
  · replace h := h.2 c
    refine ⟨fun c => ?_, fun c => ?_⟩
    · replace h := h.1 c
      refine ⟨Or.inr rfl, ?_⟩
      refine ⟨fun q => absurd q (by decide), fun q => ?_⟩
      refine iv_isIn (a := i2) (b := (0 : Int32)) (c := (2 : Int32)) (by decide +kernel) (by decide +kernel) ?_
      refine ⟨fun c => ?_, fun c => ?_⟩
      · replace h := h.1 c
        refine ⟨fun q => ?_, fun q => absurd rfl q⟩
        exact h
      · replace h := h.2 c
        refine ⟨fun c => ?_, fun c => ?_⟩
        · replace h := h.1 c
          refine ⟨fun q => ?_, fun q => absurd rfl q⟩
          exact h
        · replace h := h.2 c
          refine ⟨fun q => absurd q (by decide), fun q => ?_⟩
          refine iv_isIn (a := i4) (b := (0 : Int32)) (c := (8 : Int32)) (by decide +kernel) (by decide +kernel) ?_
          refine ⟨fun c => ?_, fun c => ?_⟩
          · replace h := h.1 c
            refine ⟨fun q => ?_, fun q => absurd rfl q⟩
            exact h
          · replace h := h.2 c
            refine ⟨fun c => ?_, fun c => ?_⟩
            · replace h := h.1 c
              refine ⟨fun q => ?_, fun q => absurd rfl q⟩
              exact h
            · replace h := h.2 c
              refine ⟨fun q => absurd q (by decide), fun q => ?_⟩
              refine ⟨h.1, ?_⟩
              replace h := h.2
              exact h
    · replace h := h.2 c
      refine ⟨Or.inl rfl, ?_⟩
      refine ⟨fun q => ?_, fun q => absurd rfl q⟩
      exact h

set_option maxRecDepth 20000 in
/-- FrameCountyModel paysRow(IIII)I, from 75 -/
theorem iv_282_75 {G : ab_G} {L : Nat} {xs : Nat → Int32} {l : Launch} {d : Nat} {i1 : Int32} {i3 : Int32} {i4 : Int32} {i5 : Int32} {i6 : Int32} {V : aa_V} {K : aa_K} (h :
    (i6 < i4 →
      vp_in i1 4 ∧
      ab_E G (ac_ST L xs) l (d + 1) ac_SK 192 [.long ((i3.toInt64) + (i6.toInt64)), .long (0 : Int64), .long (((V 148 ((i1).toNatClampNeg)) - (1 : Int32)).toInt64)] V (aa_rI (fun x1 V1 =>
        (x1 = 0 →
          K (some (.int (-12 : Int32))) V1) ∧
        (¬ x1 = 0 →
          vp_in (((40 : Int32) * i1) + (((i3.toInt64) + (i6.toInt64)).toInt32)) 160 ∧
          (i6 < 0 →
            ab_J G (ac_ST L xs) l (d + 2) 282 75 [some (.ref 105), some (.int i1), none, some (.int i3), some (.int i4), some (.int i5), some (.int (i6 + 1)), none, none, none] [] ac_SK V1 ac_SK K) ∧
          (¬ i6 < 0 →
            (i6 < (V1 105 11) →
              ((V1 149 (((((40 : Int32) * i1) + (((i3.toInt64) + (i6.toInt64)).toInt32))).toNatClampNeg)) < (0 : Int32) →
                ab_J G (ac_ST L xs) l (d + 2) 282 75 [some (.ref 105), some (.int i1), none, some (.int i3), some (.int i4), some (.int i5), some (.int (i6 + 1)), none, none, none] [] ac_SK V1 ac_SK K) ∧
              (¬ (V1 149 (((((40 : Int32) * i1) + (((i3.toInt64) + (i6.toInt64)).toInt32))).toNatClampNeg)) < (0 : Int32) →
                ((99 : Int32) < (V1 149 (((((40 : Int32) * i1) + (((i3.toInt64) + (i6.toInt64)).toInt32))).toNatClampNeg)) →
                  ab_J G (ac_ST L xs) l (d + 2) 282 75 [some (.ref 105), some (.int i1), none, some (.int i3), some (.int i4), some (.int i5), some (.int (i6 + 1)), none, none, none] [] ac_SK V1 ac_SK K) ∧
                (¬ (99 : Int32) < (V1 149 (((((40 : Int32) * i1) + (((i3.toInt64) + (i6.toInt64)).toInt32))).toNatClampNeg)) →
                  vp_in i6 8 ∧
                  ab_J G (ac_ST L xs) l (d + 2) 282 75 [some (.ref 105), some (.int i1), none, some (.int i3), some (.int i4), some (.int (i5 + 1)), some (.int (i6 + 1)), none, none, none] [] ac_SK (aa_up V1 109 ((i6).toNatClampNeg) (V1 149 (((((40 : Int32) * i1) + (((i3.toInt64) + (i6.toInt64)).toInt32))).toNatClampNeg))) ac_SK K))) ∧
            (¬ i6 < (V1 105 11) →
              ab_J G (ac_ST L xs) l (d + 2) 282 75 [some (.ref 105), some (.int i1), none, some (.int i3), some (.int i4), some (.int i5), some (.int (i6 + 1)), none, none, none] [] ac_SK V1 ac_SK K)))))) ∧
    (¬ i6 < i4 →
      K (some (.int i5)) V)) :
    ab_J G (ac_ST L xs) l (d + 2) 282 75 [some (.ref 105), some (.int i1), none, some (.int i3), some (.int i4), some (.int i5), some (.int i6), none, none, none] [] ac_SK V ac_SK K := by
  refine vc_282_75 ?_
  refine ⟨fun c => ?_, fun c => ?_⟩
  · replace h := h.1 c
    refine ⟨h.1, ?_⟩
    replace h := h.2
    refine ab_EmI (fun x1 V1 h => ?_) h
    refine ⟨fun c => ?_, fun c => ?_⟩
    · replace h := h.1 c
      exact h
    · replace h := h.2 c
      refine ⟨h.1, ?_⟩
      replace h := h.2
      refine vc_199_0 ?_
      refine ⟨fun c => ?_, fun c => ?_⟩
      · replace h := h.1 c
        refine ⟨Or.inl rfl, ?_⟩
        refine ⟨fun q => ?_, fun q => absurd rfl q⟩
        exact h
      · replace h := h.2 c
        refine ⟨fun c => ?_, fun c => ?_⟩
        · replace h := h.1 c
          refine ⟨Or.inr rfl, ?_⟩
          refine ⟨fun q => absurd q (by decide), fun q => ?_⟩
          refine iv_isIn (a := (V1 149 (((((40 : Int32) * i1) + (((i3.toInt64) + (i6.toInt64)).toInt32))).toNatClampNeg))) (b := (0 : Int32)) (c := (99 : Int32)) (by decide +kernel) (by decide +kernel) ?_
          refine ⟨fun c => ?_, fun c => ?_⟩
          · replace h := h.1 c
            refine ⟨fun q => ?_, fun q => absurd rfl q⟩
            exact h
          · replace h := h.2 c
            refine ⟨fun c => ?_, fun c => ?_⟩
            · replace h := h.1 c
              refine ⟨fun q => ?_, fun q => absurd rfl q⟩
              exact h
            · replace h := h.2 c
              refine ⟨fun q => absurd q (by decide), fun q => ?_⟩
              refine ⟨h.1, ?_⟩
              replace h := h.2
              exact h
        · replace h := h.2 c
          refine ⟨Or.inl rfl, ?_⟩
          refine ⟨fun q => ?_, fun q => absurd rfl q⟩
          exact h
  · replace h := h.2 c
    exact h

set_option maxRecDepth 20000 in
/-- FrameCountyModel parent(I)I, from 0 -/
theorem iv_283_0 {G : ab_G} {L : Nat} {xs : Nat → Int32} {l : Launch} {d : Nat} {i0 : Int32} {V : aa_V} {K : aa_K} (h :
    (i0 < (3 : Int32) →
      (i0 = 0 →
        K (some (.int (-1 : Int32))) V) ∧
      (¬ i0 = 0 →
        K (some (.int (0 : Int32))) V)) ∧
    (¬ i0 < (3 : Int32) →
      (i0 = (4 : Int32) →
        K (some (.int (2 : Int32))) V) ∧
      (¬ i0 = (4 : Int32) →
        K (some (.int (1 : Int32))) V))) :
    ab_E G (ac_ST L xs) l (d + 1) ac_SK 283 [.int i0] V K := by
  refine vc_283_0 ?_
  exact h

set_option maxRecDepth 20000 in
/-- FrameCountyModel taken(II)I, from 0 -/
theorem iv_284_0 {G : ab_G} {L : Nat} {xs : Nat → Int32} {l : Launch} {d : Nat} {i1 : Int32} {i2 : Int32} {V : aa_V} {K : aa_K} (h :
    (i2 < (0 : Int32) →
      K (some (.int (-2 : Int32))) V) ∧
    (¬ i2 < (0 : Int32) →
      ((5 : Int32) < i2 →
        K (some (.int (-2 : Int32))) V) ∧
      (¬ (5 : Int32) < i2 →
        (i1 < 0 →
          K (some (.int (-11 : Int32))) V) ∧
        (¬ i1 < 0 →
          (i1 < (V 105 12) →
            vp_in i1 20 ∧
            ab_J G (ac_ST L xs) l (d + 2) 284 33 [some (.ref 105), some (.int i1), some (.int i2), some (.int (V 110 ((i1).toNatClampNeg)))] [] ac_SK V ac_SK K) ∧
          (¬ i1 < (V 105 12) →
            K (some (.int (-11 : Int32))) V))))) :
    ab_E G (ac_ST L xs) l (d + 2) ac_SK 284 [.ref 105, .int i1, .int i2] V K := by
  refine vc_284_0 ?_
  refine iv_isIn (a := i2) (b := (0 : Int32)) (c := (5 : Int32)) (by decide +kernel) (by decide +kernel) ?_
  refine ⟨fun c => ?_, fun c => ?_⟩
  · replace h := h.1 c
    refine ⟨fun q => ?_, fun q => absurd rfl q⟩
    exact h
  · replace h := h.2 c
    refine ⟨fun c => ?_, fun c => ?_⟩
    · replace h := h.1 c
      refine ⟨fun q => ?_, fun q => absurd rfl q⟩
      exact h
    · replace h := h.2 c
      refine ⟨fun q => absurd q (by decide), fun q => ?_⟩
      refine vc_200_0 ?_
      refine ⟨fun c => ?_, fun c => ?_⟩
      · replace h := h.1 c
        refine ⟨Or.inl rfl, ?_⟩
        refine ⟨fun q => ?_, fun q => absurd rfl q⟩
        exact h
      · replace h := h.2 c
        refine ⟨fun c => ?_, fun c => ?_⟩
        · replace h := h.1 c
          refine ⟨Or.inr rfl, ?_⟩
          refine ⟨fun q => absurd q (by decide), fun q => ?_⟩
          refine ⟨h.1, ?_⟩
          replace h := h.2
          exact h
        · replace h := h.2 c
          refine ⟨Or.inl rfl, ?_⟩
          refine ⟨fun q => ?_, fun q => absurd rfl q⟩
          exact h

set_option maxRecDepth 20000 in
/-- FrameCountyModel taken(II)I, from 33 -/
theorem iv_284_33 {G : ab_G} {L : Nat} {xs : Nat → Int32} {l : Launch} {d : Nat} {i1 : Int32} {i2 : Int32} {i3 : Int32} {V : aa_V} {K : aa_K} (h :
    (i3 < 0 →
      (i3 < 0 →
        K (some (.int (-13 : Int32))) V) ∧
      (¬ i3 < 0 →
        vp_in i1 20 ∧
        K (some (.int (V 112 ((i1).toNatClampNeg)))) V)) ∧
    (¬ i3 < 0 →
      (i3 = i2 →
        (i3 < 0 →
          K (some (.int (-13 : Int32))) V) ∧
        (¬ i3 < 0 →
          vp_in i1 20 ∧
          K (some (.int (V 112 ((i1).toNatClampNeg)))) V)) ∧
      (¬ i3 = i2 →
        ab_E G (ac_ST L xs) l (d + 1) ac_SK 283 [.int i3] V (aa_rI (fun x1 V1 =>
          ab_J G (ac_ST L xs) l (d + 2) 284 33 [some (.ref 105), some (.int i1), some (.int i2), some (.int x1)] [] ac_SK V1 ac_SK K))))) :
    ab_J G (ac_ST L xs) l (d + 2) 284 33 [some (.ref 105), some (.int i1), some (.int i2), some (.int i3)] [] ac_SK V ac_SK K := by
  refine vc_284_33 ?_
  exact h
