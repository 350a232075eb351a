/-! stretches, with the small methods gone into -/
set_option maxRecDepth 20000 in
/-- FrameCountyModel isIn(JJJ)Z, from 0 -/
theorem iv_192_0 {G : ab_G} {L : Nat} {xs : Nat → Int32} {l : Launch} {d : Nat} {l0 : Int64} {l2 : Int64} {l4 : Int64} {V : aa_V} {K : aa_K} (h :
    ((lg_cmp l0 l2) < 0 →
      K (some (.int (0 : Int32))) V) ∧
    (¬ (lg_cmp l0 l2) < 0 →
      (0 < (lg_cmp l0 l4) →
        K (some (.int (0 : Int32))) V) ∧
      (¬ 0 < (lg_cmp l0 l4) →
        K (some (.int (1 : Int32))) V))) :
    ab_E G (ac_ST L xs) l (d + 1) ac_SK 192 [.long l0, .long l2, .long l4] V K := by
  refine vc_192_0 ?_
  refine ⟨fun c => ?_, fun c => ?_⟩
  · replace h := h.1 c
    exact ⟨Or.inl rfl, h⟩
  · replace h := h.2 c
    refine ⟨fun c => ?_, fun c => ?_⟩
    · replace h := h.1 c
      exact ⟨Or.inl rfl, h⟩
    · replace h := h.2 c
      exact ⟨Or.inr rfl, h⟩

set_option maxRecDepth 20000 in
/-- FrameCountyModel pass(I)I, from 0 -/
theorem iv_195_0 {G : ab_G} {L : Nat} {xs : Nat → Int32} {l : Launch} {d : Nat} {i1 : Int32} {V : aa_V} {K : aa_K} (h :
    (i1 < (1 : Int32) →
      K (some (.int (-2 : Int32))) V) ∧
    (¬ i1 < (1 : Int32) →
      ((60 : Int32) < i1 →
        K (some (.int (-2 : Int32))) V) ∧
      (¬ (60 : Int32) < i1 →
        ((399 : Int32) < ((V 105 2) + i1) →
          K (some (.int (-4 : Int32))) V) ∧
        (¬ (399 : Int32) < ((V 105 2) + i1) →
          K (some (.int ((V 105 2) + i1))) (aa_up V 105 2 ((V 105 2) + i1)))))) :
    ab_E G (ac_ST L xs) l (d + 2) ac_SK 195 [.ref 105, .int i1] V K := by
  refine vc_195_0 ?_
  refine iv_isIn (a := i1) (b := (1 : Int32)) (c := (60 : Int32)) (by decide +kernel) (by decide +kernel) ?_
  refine ⟨fun c => ?_, fun c => ?_⟩
  · replace h := h.1 c
    refine ⟨fun q => ?_, fun q => absurd rfl q⟩
    exact h
  · replace h := h.2 c
    refine ⟨fun c => ?_, fun c => ?_⟩
    · replace h := h.1 c
      refine ⟨fun q => ?_, fun q => absurd rfl q⟩
      exact h
    · replace h := h.2 c
      refine ⟨fun q => absurd q (by decide), fun q => ?_⟩
      exact h

set_option maxRecDepth 20000 in
/-- FrameCountyModel road(III)I, from 0 -/
theorem iv_196_0 {G : ab_G} {L : Nat} {xs : Nat → Int32} {l : Launch} {d : Nat} {i1 : Int32} {i2 : Int32} {i3 : Int32} {V : aa_V} {K : aa_K} (h :
    (i1 < 0 →
      K (some (.int (-2 : Int32))) V) ∧
    (¬ i1 < 0 →
      (i1 < (8 : Int32) →
        (i2 < 0 →
          K (some (.int (-2 : Int32))) V) ∧
        (¬ i2 < 0 →
          (i2 < (8 : Int32) →
            (i1 = i2 →
              K (some (.int (-2 : Int32))) V) ∧
            (¬ i1 = i2 →
              (i3 < (1 : Int32) →
                (i3 = (99 : Int32) →
                  vp_in (((8 : Int32) * i1) + i2) 64 ∧
                  vp_in (((8 : Int32) * i1) + i2) 64 ∧
                  vp_in (((8 : Int32) * i2) + i1) 64 ∧
                  K (some (.int (V 106 (((((8 : Int32) * i1) + i2)).toNatClampNeg)))) (aa_up (aa_up V 106 (((((8 : Int32) * i1) + i2)).toNatClampNeg) i3) 106 (((((8 : Int32) * i2) + i1)).toNatClampNeg) i3)) ∧
                (¬ i3 = (99 : Int32) →
                  K (some (.int (-2 : Int32))) V)) ∧
              (¬ i3 < (1 : Int32) →
                ((9 : Int32) < i3 →
                  (i3 = (99 : Int32) →
                    vp_in (((8 : Int32) * i1) + i2) 64 ∧
                    vp_in (((8 : Int32) * i1) + i2) 64 ∧
                    vp_in (((8 : Int32) * i2) + i1) 64 ∧
                    K (some (.int (V 106 (((((8 : Int32) * i1) + i2)).toNatClampNeg)))) (aa_up (aa_up V 106 (((((8 : Int32) * i1) + i2)).toNatClampNeg) i3) 106 (((((8 : Int32) * i2) + i1)).toNatClampNeg) i3)) ∧
                  (¬ i3 = (99 : Int32) →
                    K (some (.int (-2 : Int32))) V)) ∧
                (¬ (9 : Int32) < i3 →
                  vp_in (((8 : Int32) * i1) + i2) 64 ∧
                  vp_in (((8 : Int32) * i1) + i2) 64 ∧
                  vp_in (((8 : Int32) * i2) + i1) 64 ∧
                  K (some (.int (V 106 (((((8 : Int32) * i1) + i2)).toNatClampNeg)))) (aa_up (aa_up V 106 (((((8 : Int32) * i1) + i2)).toNatClampNeg) i3) 106 (((((8 : Int32) * i2) + i1)).toNatClampNeg) i3))))) ∧
          (¬ i2 < (8 : Int32) →
            K (some (.int (-2 : Int32))) V))) ∧
      (¬ i1 < (8 : Int32) →
        K (some (.int (-2 : Int32))) V))) :
    ab_E G (ac_ST L xs) l (d + 2) ac_SK 196 [.ref 105, .int i1, .int i2, .int i3] V K := by
  refine vc_196_0 ?_
  refine vc_193_0 ?_
  refine ⟨fun c => ?_, fun c => ?_⟩
  · replace h := h.1 c
    refine ⟨Or.inl rfl, ?_⟩
    refine ⟨fun q => ?_, fun q => absurd rfl q⟩
    exact h
  · replace h := h.2 c
    refine ⟨fun c => ?_, fun c => ?_⟩
    · replace h := h.1 c
      refine ⟨Or.inr rfl, ?_⟩
      refine ⟨fun q => absurd q (by decide), fun q => ?_⟩
      refine vc_193_0 ?_
      refine ⟨fun c => ?_, fun c => ?_⟩
      · replace h := h.1 c
        refine ⟨Or.inl rfl, ?_⟩
        refine ⟨fun q => ?_, fun q => absurd rfl q⟩
        exact h
      · replace h := h.2 c
        refine ⟨fun c => ?_, fun c => ?_⟩
        · replace h := h.1 c
          refine ⟨Or.inr rfl, ?_⟩
          refine ⟨fun q => absurd q (by decide), fun q => ?_⟩
          refine ⟨fun c => ?_, fun c => ?_⟩
          · replace h := h.1 c
            exact h
          · replace h := h.2 c
            refine iv_isIn (a := i3) (b := (1 : Int32)) (c := (9 : Int32)) (by decide +kernel) (by decide +kernel) ?_
            refine ⟨fun c => ?_, fun c => ?_⟩
            · replace h := h.1 c
              refine ⟨fun q => ?_, fun q => absurd rfl q⟩
              exact h
            · replace h := h.2 c
              refine ⟨fun c => ?_, fun c => ?_⟩
              · replace h := h.1 c
                refine ⟨fun q => ?_, fun q => absurd rfl q⟩
                exact h
              · replace h := h.2 c
                refine ⟨fun q => absurd q (by decide), fun q => ?_⟩
                refine ⟨h.1, ?_⟩
                replace h := h.2
                refine ⟨h.1, ?_⟩
                replace h := h.2
                refine ⟨h.1, ?_⟩
                replace h := h.2
                exact h
        · replace h := h.2 c
          refine ⟨Or.inl rfl, ?_⟩
          refine ⟨fun q => ?_, fun q => absurd rfl q⟩
          exact h
    · replace h := h.2 c
      refine ⟨Or.inl rfl, ?_⟩
      refine ⟨fun q => ?_, fun q => absurd rfl q⟩
      exact h

set_option maxRecDepth 20000 in
/-- FrameCountyModel findFar(I)V, from 0 -/
theorem iv_197_0 {G : ab_G} {L : Nat} {xs : Nat → Int32} {l : Launch} {d : Nat} {i1 : Int32} {V : aa_V} {K : aa_K} (h :
    ¬ (30 : Int32) = 0 ∧
    ((i1 - i1 / (30 : Int32) * (30 : Int32)) < (8 : Int32) →
      ab_J G (ac_ST L xs) l (d + 2) 197 25 [some (.ref 105), none, some (.int (1 : Int32)), some (.int (0 : Int32)), none, none, none] [] ac_SK V ac_SK K) ∧
    (¬ (i1 - i1 / (30 : Int32) * (30 : Int32)) < (8 : Int32) →
      ((22 : Int32) < (i1 - i1 / (30 : Int32) * (30 : Int32)) →
        ab_J G (ac_ST L xs) l (d + 2) 197 25 [some (.ref 105), none, some (.int (1 : Int32)), some (.int (0 : Int32)), none, none, none] [] ac_SK V ac_SK K) ∧
      (¬ (22 : Int32) < (i1 - i1 / (30 : Int32) * (30 : Int32)) →
        ab_J G (ac_ST L xs) l (d + 2) 197 25 [some (.ref 105), none, some (.int (0 : Int32)), some (.int (0 : Int32)), none, none, none] [] ac_SK V ac_SK K))) :
    ab_E G (ac_ST L xs) l (d + 2) ac_SK 197 [.ref 105, .int i1] V K := by
  refine vc_197_0 ?_
  refine ⟨h.1, ?_⟩
  replace h := h.2
  refine iv_isIn (a := (i1 - i1 / (30 : Int32) * (30 : Int32))) (b := (8 : Int32)) (c := (22 : Int32)) (by decide +kernel) (by decide +kernel) ?_
  refine ⟨fun c => ?_, fun c => ?_⟩
  · replace h := h.1 c
    refine ⟨fun q => ?_, fun q => absurd rfl q⟩
    exact h
  · replace h := h.2 c
    refine ⟨fun c => ?_, fun c => ?_⟩
    · replace h := h.1 c
      refine ⟨fun q => ?_, fun q => absurd rfl q⟩
      exact h
    · replace h := h.2 c
      refine ⟨fun q => absurd q (by decide), fun q => ?_⟩
      exact h

set_option maxRecDepth 20000 in
/-- FrameCountyModel findFar(I)V, from 25 -/
theorem iv_197_25 {G : ab_G} {L : Nat} {xs : Nat → Int32} {l : Launch} {d : Nat} {i2 : Int32} {i3 : Int32} {V : aa_V} {K : aa_K} (h :
    (i3 < (64 : Int32) →
      ¬ (9 : Int32) = 0 ∧
      ((i3 - i3 / (9 : Int32) * (9 : Int32)) = 0 →
        vp_in i3 64 ∧
        ab_J G (ac_ST L xs) l (d + 2) 197 25 [some (.ref 105), none, some (.int i2), some (.int (i3 + 1)), none, none, none] [] ac_SK (aa_up V 107 ((i3).toNatClampNeg) (0 : Int32)) ac_SK K) ∧
      (¬ (i3 - i3 / (9 : Int32) * (9 : Int32)) = 0 →
        vp_in i3 64 ∧
        ((V 106 ((i3).toNatClampNeg)) = (99 : Int32) →
          vp_in i3 64 ∧
          ab_J G (ac_ST L xs) l (d + 2) 197 25 [some (.ref 105), none, some (.int i2), some (.int (i3 + 1)), none, none, none] [] ac_SK (aa_up V 107 ((i3).toNatClampNeg) (99 : Int32)) ac_SK K) ∧
        (¬ (V 106 ((i3).toNatClampNeg)) = (99 : Int32) →
          vp_in i3 64 ∧
          vp_in i3 64 ∧
          ab_J G (ac_ST L xs) l (d + 2) 197 25 [some (.ref 105), none, some (.int i2), some (.int (i3 + 1)), none, none, none] [] ac_SK (aa_up V 107 ((i3).toNatClampNeg) ((V 106 ((i3).toNatClampNeg)) + i2)) ac_SK K))) ∧
    (¬ i3 < (64 : Int32) →
      ab_J G (ac_ST L xs) l (d + 2) 197 80 [some (.ref 105), none, none, some (.int (0 : Int32)), none, none, none] [] ac_SK V ac_SK K)) :
    ab_J G (ac_ST L xs) l (d + 2) 197 25 [some (.ref 105), none, some (.int i2), some (.int i3), none, none, none] [] ac_SK V ac_SK K := by
  refine vc_197_25 ?_
  exact h

set_option maxRecDepth 20000 in
/-- FrameCountyModel findFar(I)V, from 80 -/
theorem iv_197_80 {G : ab_G} {L : Nat} {xs : Nat → Int32} {l : Launch} {d : Nat} {i3 : Int32} {V : aa_V} {K : aa_K} (h :
    (i3 < (8 : Int32) →
      ab_J G (ac_ST L xs) l (d + 2) 197 89 [some (.ref 105), none, none, some (.int i3), some (.int (0 : Int32)), none, none] [] ac_SK V ac_SK K) ∧
    (¬ i3 < (8 : Int32) →
      K none V)) :
    ab_J G (ac_ST L xs) l (d + 2) 197 80 [some (.ref 105), none, none, some (.int i3), none, none, none] [] ac_SK V ac_SK K := by
  refine vc_197_80 ?_
  exact h

set_option maxRecDepth 20000 in
/-- FrameCountyModel findFar(I)V, from 89 -/
theorem iv_197_89 {G : ab_G} {L : Nat} {xs : Nat → Int32} {l : Launch} {d : Nat} {i3 : Int32} {i4 : Int32} {V : aa_V} {K : aa_K} (h :
    (i4 < (8 : Int32) →
      ab_J G (ac_ST L xs) l (d + 2) 197 99 [some (.ref 105), none, none, some (.int i3), some (.int i4), some (.int (0 : Int32)), none] [] ac_SK V ac_SK K) ∧
    (¬ i4 < (8 : Int32) →
      ab_J G (ac_ST L xs) l (d + 2) 197 80 [some (.ref 105), none, none, some (.int (i3 + 1)), none, none, none] [] ac_SK V ac_SK K)) :
    ab_J G (ac_ST L xs) l (d + 2) 197 89 [some (.ref 105), none, none, some (.int i3), some (.int i4), none, none] [] ac_SK V ac_SK K := by
  refine vc_197_89 ?_
  exact h

set_option maxRecDepth 20000 in
/-- FrameCountyModel findFar(I)V, from 99 -/
theorem iv_197_99 {G : ab_G} {L : Nat} {xs : Nat → Int32} {l : Launch} {d : Nat} {i3 : Int32} {i4 : Int32} {i5 : Int32} {V : aa_V} {K : aa_K} (h :
    (i5 < (8 : Int32) →
      vp_in (((8 : Int32) * i4) + i3) 64 ∧
      vp_in (((8 : Int32) * i3) + i5) 64 ∧
      vp_in (((8 : Int32) * i4) + i3) 64 ∧
      ((V 107 (((((8 : Int32) * i4) + i3)).toNatClampNeg)) < (99 : Int32) →
        vp_in (((8 : Int32) * i3) + i5) 64 ∧
        ((V 107 (((((8 : Int32) * i3) + i5)).toNatClampNeg)) < (99 : Int32) →
          vp_in (((8 : Int32) * i4) + i5) 64 ∧
          (((V 107 (((((8 : Int32) * i4) + i3)).toNatClampNeg)) + (V 107 (((((8 : Int32) * i3) + i5)).toNatClampNeg))) < (V 107 (((((8 : Int32) * i4) + i5)).toNatClampNeg)) →
            vp_in (((8 : Int32) * i4) + i5) 64 ∧
            ab_J G (ac_ST L xs) l (d + 2) 197 99 [some (.ref 105), none, none, some (.int i3), some (.int i4), some (.int (i5 + 1)), none] [] ac_SK (aa_up V 107 (((((8 : Int32) * i4) + i5)).toNatClampNeg) ((V 107 (((((8 : Int32) * i4) + i3)).toNatClampNeg)) + (V 107 (((((8 : Int32) * i3) + i5)).toNatClampNeg)))) ac_SK K) ∧
          (¬ ((V 107 (((((8 : Int32) * i4) + i3)).toNatClampNeg)) + (V 107 (((((8 : Int32) * i3) + i5)).toNatClampNeg))) < (V 107 (((((8 : Int32) * i4) + i5)).toNatClampNeg)) →
            ab_J G (ac_ST L xs) l (d + 2) 197 99 [some (.ref 105), none, none, some (.int i3), some (.int i4), some (.int (i5 + 1)), none] [] ac_SK V ac_SK K)) ∧
        (¬ (V 107 (((((8 : Int32) * i3) + i5)).toNatClampNeg)) < (99 : Int32) →
          ab_J G (ac_ST L xs) l (d + 2) 197 99 [some (.ref 105), none, none, some (.int i3), some (.int i4), some (.int (i5 + 1)), none] [] ac_SK V ac_SK K)) ∧
      (¬ (V 107 (((((8 : Int32) * i4) + i3)).toNatClampNeg)) < (99 : Int32) →
        ab_J G (ac_ST L xs) l (d + 2) 197 99 [some (.ref 105), none, none, some (.int i3), some (.int i4), some (.int (i5 + 1)), none] [] ac_SK V ac_SK K)) ∧
    (¬ i5 < (8 : Int32) →
      ab_J G (ac_ST L xs) l (d + 2) 197 89 [some (.ref 105), none, none, some (.int i3), some (.int (i4 + 1)), none, none] [] ac_SK V ac_SK K)) :
    ab_J G (ac_ST L xs) l (d + 2) 197 99 [some (.ref 105), none, none, some (.int i3), some (.int i4), some (.int i5), none] [] ac_SK V ac_SK K := by
  refine vc_197_99 ?_
  exact h

set_option maxRecDepth 20000 in
/-- FrameCountyModel far(III)I, from 0 -/
theorem iv_198_0 {G : ab_G} {L : Nat} {xs : Nat → Int32} {l : Launch} {d : Nat} {i1 : Int32} {i2 : Int32} {i3 : Int32} {V : aa_V} {K : aa_K} (h :
    (i1 < 0 →
      K (some (.int (-2 : Int32))) V) ∧
    (¬ i1 < 0 →
      (i1 < (8 : Int32) →
        (i2 < 0 →
          K (some (.int (-2 : Int32))) V) ∧
        (¬ i2 < 0 →
          (i2 < (8 : Int32) →
            (i3 < (0 : Int32) →
              K (some (.int (-2 : Int32))) V) ∧
            (¬ i3 < (0 : Int32) →
              ((399 : Int32) < i3 →
                K (some (.int (-2 : Int32))) V) ∧
              (¬ (399 : Int32) < i3 →
                ab_E G (ac_ST L xs) l (d + 2) ac_SK 197 [.ref 105, .int i3] V (aa_rV (fun V1 =>
                  vp_in (((8 : Int32) * i1) + i2) 64 ∧
                  K (some (.int (V1 107 (((((8 : Int32) * i1) + i2)).toNatClampNeg)))) V1))))) ∧
          (¬ i2 < (8 : Int32) →
            K (some (.int (-2 : Int32))) V))) ∧
      (¬ i1 < (8 : Int32) →
        K (some (.int (-2 : Int32))) V))) :
    ab_E G (ac_ST L xs) l (d + 3) ac_SK 198 [.ref 105, .int i1, .int i2, .int i3] V K := by
  refine vc_198_0 ?_
  refine vc_193_0 ?_
  refine ⟨fun c => ?_, fun c => ?_⟩
  · replace h := h.1 c
    refine ⟨Or.inl rfl, ?_⟩
    refine ⟨fun q => ?_, fun q => absurd rfl q⟩
    exact h
  · replace h := h.2 c
    refine ⟨fun c => ?_, fun c => ?_⟩
    · replace h := h.1 c
      refine ⟨Or.inr rfl, ?_⟩
      refine ⟨fun q => absurd q (by decide), fun q => ?_⟩
      refine vc_193_0 ?_
      refine ⟨fun c => ?_, fun c => ?_⟩
      · replace h := h.1 c
        refine ⟨Or.inl rfl, ?_⟩
        refine ⟨fun q => ?_, fun q => absurd rfl q⟩
        exact h
      · replace h := h.2 c
        refine ⟨fun c => ?_, fun c => ?_⟩
        · replace h := h.1 c
          refine ⟨Or.inr rfl, ?_⟩
          refine ⟨fun q => absurd q (by decide), fun q => ?_⟩
          refine vc_194_0 ?_
          refine iv_isIn (a := i3) (b := (0 : Int32)) (c := (399 : Int32)) (by decide +kernel) (by decide +kernel) ?_
          refine ⟨fun c => ?_, fun c => ?_⟩
          · replace h := h.1 c
            refine ⟨Or.inl rfl, ?_⟩
            refine ⟨fun q => ?_, fun q => absurd rfl q⟩
            exact h
          · replace h := h.2 c
            refine ⟨fun c => ?_, fun c => ?_⟩
            · replace h := h.1 c
              refine ⟨Or.inl rfl, ?_⟩
              refine ⟨fun q => ?_, fun q => absurd rfl q⟩
              exact h
            · replace h := h.2 c
              refine ⟨Or.inr rfl, ?_⟩
              refine ⟨fun q => absurd q (by decide), fun q => ?_⟩
              exact h
        · replace h := h.2 c
          refine ⟨Or.inl rfl, ?_⟩
          refine ⟨fun q => ?_, fun q => absurd rfl q⟩
          exact h
    · replace h := h.2 c
      refine ⟨Or.inl rfl, ?_⟩
      refine ⟨fun q => ?_, fun q => absurd rfl q⟩
      exact h

set_option maxRecDepth 20000 in
/-- FrameCountyModel shop(II)I, from 0 -/
theorem iv_201_0 {G : ab_G} {L : Nat} {xs : Nat → Int32} {l : Launch} {d : Nat} {i1 : Int32} {i2 : Int32} {V : aa_V} {K : aa_K} (h :
    (i1 < 0 →
      K (some (.int (-2 : Int32))) V) ∧
    (¬ i1 < 0 →
      (i1 < (8 : Int32) →
        (i2 < (0 : Int32) →
          K (some (.int (-2 : Int32))) V) ∧
        (¬ i2 < (0 : Int32) →
          ((99 : Int32) < i2 →
            K (some (.int (-2 : Int32))) V) ∧
          (¬ (99 : Int32) < i2 →
            ((V 105 11) = (8 : Int32) →
              K (some (.int (-4 : Int32))) V) ∧
            (¬ (V 105 11) = (8 : Int32) →
              vp_in (V 105 11) 8 ∧
              vp_in (V 105 11) 8 ∧
              K (some (.int (((V 105 11) + (1 : Int32)) - (1 : Int32)))) (aa_up (aa_up (aa_up V 108 (((V 105 11)).toNatClampNeg) i1) 109 (((V 105 11)).toNatClampNeg) i2) 105 11 ((V 105 11) + (1 : Int32))))))) ∧
      (¬ i1 < (8 : Int32) →
        K (some (.int (-2 : Int32))) V))) :
    ab_E G (ac_ST L xs) l (d + 2) ac_SK 201 [.ref 105, .int i1, .int i2] V K := by
  refine vc_201_0 ?_
  refine vc_193_0 ?_
  refine ⟨fun c => ?_, fun c => ?_⟩
  · replace h := h.1 c
    refine ⟨Or.inl rfl, ?_⟩
    refine ⟨fun q => ?_, fun q => absurd rfl q⟩
    exact h
  · replace h := h.2 c
    refine ⟨fun c => ?_, fun c => ?_⟩
    · replace h := h.1 c
      refine ⟨Or.inr rfl, ?_⟩
      refine ⟨fun q => absurd q (by decide), fun q => ?_⟩
      refine iv_isIn (a := i2) (b := (0 : Int32)) (c := (99 : Int32)) (by decide +kernel) (by decide +kernel) ?_
      refine ⟨fun c => ?_, fun c => ?_⟩
      · replace h := h.1 c
        refine ⟨fun q => ?_, fun q => absurd rfl q⟩
        exact h
      · replace h := h.2 c
        refine ⟨fun c => ?_, fun c => ?_⟩
        · replace h := h.1 c
          refine ⟨fun q => ?_, fun q => absurd rfl q⟩
          exact h
        · replace h := h.2 c
          refine ⟨fun q => absurd q (by decide), fun q => ?_⟩
          exact h
    · replace h := h.2 c
      refine ⟨Or.inl rfl, ?_⟩
      refine ⟨fun q => ?_, fun q => absurd rfl q⟩
      exact h

set_option maxRecDepth 20000 in
/-- FrameCountyModel pays(II)I, from 0 -/
theorem iv_202_0 {G : ab_G} {L : Nat} {xs : Nat → Int32} {l : Launch} {d : Nat} {i1 : Int32} {i2 : Int32} {V : aa_V} {K : aa_K} (h :
    (i1 < 0 →
      K (some (.int (-2 : Int32))) V) ∧
    (¬ i1 < 0 →
      (i1 < (V 105 11) →
        (i2 < (0 : Int32) →
          K (some (.int (-2 : Int32))) V) ∧
        (¬ i2 < (0 : Int32) →
          ((99 : Int32) < i2 →
            K (some (.int (-2 : Int32))) V) ∧
          (¬ (99 : Int32) < i2 →
            vp_in i1 8 ∧
            vp_in i1 8 ∧
            K (some (.int (V 109 ((i1).toNatClampNeg)))) (aa_up V 109 ((i1).toNatClampNeg) i2)))) ∧
      (¬ i1 < (V 105 11) →
        K (some (.int (-2 : Int32))) V))) :
    ab_E G (ac_ST L xs) l (d + 2) ac_SK 202 [.ref 105, .int i1, .int i2] V K := by
  refine vc_202_0 ?_
  refine vc_199_0 ?_
  refine ⟨fun c => ?_, fun c => ?_⟩
  · replace h := h.1 c
    refine ⟨Or.inl rfl, ?_⟩
    refine ⟨fun q => ?_, fun q => absurd rfl q⟩
    exact h
  · replace h := h.2 c
    refine ⟨fun c => ?_, fun c => ?_⟩
    · replace h := h.1 c
      refine ⟨Or.inr rfl, ?_⟩
      refine ⟨fun q => absurd q (by decide), fun q => ?_⟩
      refine iv_isIn (a := i2) (b := (0 : Int32)) (c := (99 : Int32)) (by decide +kernel) (by decide +kernel) ?_
      refine ⟨fun c => ?_, fun c => ?_⟩
      · replace h := h.1 c
        refine ⟨fun q => ?_, fun q => absurd rfl q⟩
        exact h
      · replace h := h.2 c
        refine ⟨fun c => ?_, fun c => ?_⟩
        · replace h := h.1 c
          refine ⟨fun q => ?_, fun q => absurd rfl q⟩
          exact h
        · replace h := h.2 c
          refine ⟨fun q => absurd q (by decide), fun q => ?_⟩
          refine ⟨h.1, ?_⟩
          replace h := h.2
          refine ⟨h.1, ?_⟩
          replace h := h.2
          exact h
    · replace h := h.2 c
      refine ⟨Or.inl rfl, ?_⟩
      refine ⟨fun q => ?_, fun q => absurd rfl q⟩
      exact h

set_option maxRecDepth 20000 in
/-- FrameCountyModel frame(IIII)I, from 0 -/
theorem iv_203_0 {G : ab_G} {L : Nat} {xs : Nat → Int32} {l : Launch} {d : Nat} {i1 : Int32} {i2 : Int32} {i3 : Int32} {i4 : Int32} {V : aa_V} {K : aa_K} (h :
    (i1 < (0 : Int32) →
      K (some (.int (-2 : Int32))) V) ∧
    (¬ i1 < (0 : Int32) →
      ((5 : Int32) < i1 →
        K (some (.int (-2 : Int32))) V) ∧
      (¬ (5 : Int32) < i1 →
        (i2 < 0 →
          K (some (.int (-2 : Int32))) V) ∧
        (¬ i2 < 0 →
          (i2 < (V 105 11) →
            (i3 < (10 : Int32) →
              K (some (.int (-2 : Int32))) V) ∧
            (¬ i3 < (10 : Int32) →
              ((60 : Int32) < i3 →
                K (some (.int (-2 : Int32))) V) ∧
              (¬ (60 : Int32) < i3 →
                (i4 < (0 : Int32) →
                  K (some (.int (-2 : Int32))) V) ∧
                (¬ i4 < (0 : Int32) →
                  ((99 : Int32) < i4 →
                    K (some (.int (-2 : Int32))) V) ∧
                  (¬ (99 : Int32) < i4 →
                    ((V 105 12) = (20 : Int32) →
                      K (some (.int (-4 : Int32))) V) ∧
                    (¬ (V 105 12) = (20 : Int32) →
                      vp_in (V 105 12) 20 ∧
                      vp_in (V 105 12) 20 ∧
                      vp_in (V 105 12) 20 ∧
                      vp_in (V 105 12) 20 ∧
                      K (some (.int (((V 105 12) + (1 : Int32)) - (1 : Int32)))) (aa_up (aa_up (aa_up (aa_up (aa_up V 110 (((V 105 12)).toNatClampNeg) i1) 111 (((V 105 12)).toNatClampNeg) i2) 112 (((V 105 12)).toNatClampNeg) i3) 113 (((V 105 12)).toNatClampNeg) i4) 105 12 ((V 105 12) + (1 : Int32))))))))) ∧
          (¬ i2 < (V 105 11) →
            K (some (.int (-2 : Int32))) V))))) :
    ab_E G (ac_ST L xs) l (d + 2) ac_SK 203 [.ref 105, .int i1, .int i2, .int i3, .int i4] V K := by
  refine vc_203_0 ?_
  refine iv_isIn (a := i1) (b := (0 : Int32)) (c := (5 : Int32)) (by decide +kernel) (by decide +kernel) ?_
  refine ⟨fun c => ?_, fun c => ?_⟩
  · replace h := h.1 c
    refine ⟨fun q => ?_, fun q => absurd rfl q⟩
    exact h
  · replace h := h.2 c
    refine ⟨fun c => ?_, fun c => ?_⟩
    · replace h := h.1 c
      refine ⟨fun q => ?_, fun q => absurd rfl q⟩
      exact h
    · replace h := h.2 c
      refine ⟨fun q => absurd q (by decide), fun q => ?_⟩
      refine vc_199_0 ?_
      refine ⟨fun c => ?_, fun c => ?_⟩
      · replace h := h.1 c
        refine ⟨Or.inl rfl, ?_⟩
        refine ⟨fun q => ?_, fun q => absurd rfl q⟩
        exact h
      · replace h := h.2 c
        refine ⟨fun c => ?_, fun c => ?_⟩
        · replace h := h.1 c
          refine ⟨Or.inr rfl, ?_⟩
          refine ⟨fun q => absurd q (by decide), fun q => ?_⟩
          refine iv_isIn (a := i3) (b := (10 : Int32)) (c := (60 : Int32)) (by decide +kernel) (by decide +kernel) ?_
          refine ⟨fun c => ?_, fun c => ?_⟩
          · replace h := h.1 c
            refine ⟨fun q => ?_, fun q => absurd rfl q⟩
            exact h
          · replace h := h.2 c
            refine ⟨fun c => ?_, fun c => ?_⟩
            · replace h := h.1 c
              refine ⟨fun q => ?_, fun q => absurd rfl q⟩
              exact h
            · replace h := h.2 c
              refine ⟨fun q => absurd q (by decide), fun q => ?_⟩
              refine iv_isIn (a := i4) (b := (0 : Int32)) (c := (99 : Int32)) (by decide +kernel) (by decide +kernel) ?_
              refine ⟨fun c => ?_, fun c => ?_⟩
              · replace h := h.1 c
                refine ⟨fun q => ?_, fun q => absurd rfl q⟩
                exact h
              · replace h := h.2 c
                refine ⟨fun c => ?_, fun c => ?_⟩
                · replace h := h.1 c
                  refine ⟨fun q => ?_, fun q => absurd rfl q⟩
                  exact h
                · replace h := h.2 c
                  refine ⟨fun q => absurd q (by decide), fun q => ?_⟩
                  exact h
        · replace h := h.2 c
          refine ⟨Or.inl rfl, ?_⟩
          refine ⟨fun q => ?_, fun q => absurd rfl q⟩
          exact h

set_option maxRecDepth 20000 in
/-- FrameCountyModel makes(I)I, from 0 -/
theorem iv_204_0 {G : ab_G} {L : Nat} {xs : Nat → Int32} {l : Launch} {d : Nat} {i1 : Int32} {V : aa_V} {K : aa_K} (h :
    vp_in i1 20 ∧
    ¬ (10 : Int32) = 0 ∧
    vp_in i1 20 ∧
    ((V 110 ((i1).toNatClampNeg)) = 0 →
      K (some (.int ((V 112 ((i1).toNatClampNeg)) / (10 : Int32)))) V) ∧
    (¬ (V 110 ((i1).toNatClampNeg)) = 0 →
    ((V 110 ((i1).toNatClampNeg)) = 1 →
      K (some (.int (((V 112 ((i1).toNatClampNeg)) / (10 : Int32)) + (3 : Int32)))) V) ∧
    (¬ (V 110 ((i1).toNatClampNeg)) = 1 →
    ((V 110 ((i1).toNatClampNeg)) = 2 →
      K (some (.int (((V 112 ((i1).toNatClampNeg)) / (10 : Int32)) - (1 : Int32)))) V) ∧
    (¬ (V 110 ((i1).toNatClampNeg)) = 2 →
    ((V 110 ((i1).toNatClampNeg)) = 3 →
      K (some (.int ((2 : Int32) * (((V 112 ((i1).toNatClampNeg)) / (10 : Int32)) + (3 : Int32))))) V) ∧
    (¬ (V 110 ((i1).toNatClampNeg)) = 3 →
    ((V 110 ((i1).toNatClampNeg)) = 4 →
      ¬ (2 : Int32) = 0 ∧
      K (some (.int ((((V 112 ((i1).toNatClampNeg)) / (10 : Int32)) - (1 : Int32)) / (2 : Int32)))) V) ∧
    (¬ (V 110 ((i1).toNatClampNeg)) = 4 →
    K (some (.int ((4 : Int32) * ((V 112 ((i1).toNatClampNeg)) / (10 : Int32))))) V)))))) :
    ab_E G (ac_ST L xs) l (d + 1) ac_SK 204 [.ref 105, .int i1] V K := by
  refine vc_204_0 ?_
  refine ⟨h.1, ?_⟩
  replace h := h.2
  refine ⟨h.1, ?_⟩
  replace h := h.2
  refine ⟨h.1, ?_⟩
  replace h := h.2
  exact h

set_option maxRecDepth 20000 in
/-- FrameCountyModel paidRent(I)I, from 0 -/
theorem iv_205_0 {G : ab_G} {L : Nat} {xs : Nat → Int32} {l : Launch} {d : Nat} {i1 : Int32} {V : aa_V} {K : aa_K} (h :
    vp_in i1 20 ∧
    ((V 110 ((i1).toNatClampNeg)) = (2 : Int32) →
      vp_in i1 20 ∧
      ¬ (2 : Int32) = 0 ∧
      K (some (.int ((V 113 ((i1).toNatClampNeg)) / (2 : Int32)))) V) ∧
    (¬ (V 110 ((i1).toNatClampNeg)) = (2 : Int32) →
      vp_in i1 20 ∧
      ((V 110 ((i1).toNatClampNeg)) = (4 : Int32) →
        vp_in i1 20 ∧
        ¬ (2 : Int32) = 0 ∧
        K (some (.int ((V 113 ((i1).toNatClampNeg)) / (2 : Int32)))) V) ∧
      (¬ (V 110 ((i1).toNatClampNeg)) = (4 : Int32) →
        vp_in i1 20 ∧
        ((V 110 ((i1).toNatClampNeg)) = (3 : Int32) →
          vp_in i1 20 ∧
          K (some (.int ((V 113 ((i1).toNatClampNeg)) + (2 : Int32)))) V) ∧
        (¬ (V 110 ((i1).toNatClampNeg)) = (3 : Int32) →
          vp_in i1 20 ∧
          ((V 110 ((i1).toNatClampNeg)) = (5 : Int32) →
            vp_in i1 20 ∧
            vp_in i1 20 ∧
            K (some (.int ((V 113 ((i1).toNatClampNeg)) + (V 112 ((i1).toNatClampNeg))))) V) ∧
          (¬ (V 110 ((i1).toNatClampNeg)) = (5 : Int32) →
            vp_in i1 20 ∧
            K (some (.int (V 113 ((i1).toNatClampNeg)))) V))))) :
    ab_E G (ac_ST L xs) l (d + 1) ac_SK 205 [.ref 105, .int i1] V K := by
  refine vc_205_0 ?_
  refine ⟨h.1, ?_⟩
  replace h := h.2
  exact h

set_option maxRecDepth 20000 in
/-- FrameCountyModel frameTold(II)J, from 0 -/
theorem iv_207_0 {G : ab_G} {L : Nat} {xs : Nat → Int32} {l : Launch} {d : Nat} {i1 : Int32} {i2 : Int32} {V : aa_V} {K : aa_K} (h :
    (i1 < 0 →
      K (some (.long (-4611686018427387904 : Int64))) V) ∧
    (¬ i1 < 0 →
      (i1 < (V 105 12) →
        (i2 = 0 →
          vp_in i1 20 ∧
          K (some (.long ((V 110 ((i1).toNatClampNeg)).toInt64))) V) ∧
        (¬ i2 = 0 →
        (i2 = 1 →
          vp_in i1 20 ∧
          K (some (.long ((V 111 ((i1).toNatClampNeg)).toInt64))) V) ∧
        (¬ i2 = 1 →
        (i2 = 2 →
          vp_in i1 20 ∧
          K (some (.long ((V 112 ((i1).toNatClampNeg)).toInt64))) V) ∧
        (¬ i2 = 2 →
        (i2 = 3 →
          vp_in i1 20 ∧
          K (some (.long ((V 113 ((i1).toNatClampNeg)).toInt64))) V) ∧
        (¬ i2 = 3 →
        (i2 = 4 →
          vp_in i1 20 ∧
          K (some (.long ((V 114 ((i1).toNatClampNeg)).toInt64))) V) ∧
        (¬ i2 = 4 →
        (i2 = 5 →
          ab_E G (ac_ST L xs) l (d + 2) ac_SK 204 [.ref 105, .int i1] V (aa_rI (fun x1 V1 =>
            K (some (.long (x1.toInt64))) V1))) ∧
        (¬ i2 = 5 →
        (i2 = 6 →
          ab_E G (ac_ST L xs) l (d + 2) ac_SK 205 [.ref 105, .int i1] V (aa_rI (fun x1 V1 =>
            K (some (.long (x1.toInt64))) V1))) ∧
        (¬ i2 = 6 →
        (i2 = 7 →
          vp_in i1 20 ∧
          ((V 114 ((i1).toNatClampNeg)) = 0 →
            ab_E G (ac_ST L xs) l (d + 1) ac_SK 204 [.ref 105, .int i1] V (aa_rI (fun x1 V1 =>
              vp_in i1 20 ∧
              vp_in (V1 111 ((i1).toNatClampNeg)) 8 ∧
              ab_E G (ac_ST L xs) l (d + 1) ac_SK 205 [.ref 105, .int i1] V1 (aa_rI (fun x2 V2 =>
                K (some (.long (((x1 * (V1 109 (((V1 111 ((i1).toNatClampNeg))).toNatClampNeg))) - x2).toInt64))) V2))))) ∧
          (¬ (V 114 ((i1).toNatClampNeg)) = 0 →
            ab_E G (ac_ST L xs) l (d + 1) ac_SK 205 [.ref 105, .int i1] V (aa_rI (fun x1 V1 =>
              K (some (.long (((0 : Int32) - x1).toInt64))) V1)))) ∧
        (¬ i2 = 7 →
        K (some (.long (-4611686018427387904 : Int64))) V))))))))) ∧
      (¬ i1 < (V 105 12) →
        K (some (.long (-4611686018427387904 : Int64))) V))) :
    ab_E G (ac_ST L xs) l (d + 3) ac_SK 207 [.ref 105, .int i1, .int i2] V K := by
  refine vc_207_0 ?_
  refine vc_200_0 ?_
  refine ⟨fun c => ?_, fun c => ?_⟩
  · replace h := h.1 c
    refine ⟨Or.inl rfl, ?_⟩
    refine ⟨fun q => ?_, fun q => absurd rfl q⟩
    exact h
  · replace h := h.2 c
    refine ⟨fun c => ?_, fun c => ?_⟩
    · replace h := h.1 c
      refine ⟨Or.inr rfl, ?_⟩
      refine ⟨fun q => absurd q (by decide), fun q => ?_⟩
      refine ⟨fun c => ?_, fun c => ?_⟩
      · replace h := h.1 c
        refine ⟨h.1, ?_⟩
        replace h := h.2
        exact h
      · replace h := h.2 c
        refine ⟨fun c => ?_, fun c => ?_⟩
        · replace h := h.1 c
          refine ⟨h.1, ?_⟩
          replace h := h.2
          exact h
        · replace h := h.2 c
          refine ⟨fun c => ?_, fun c => ?_⟩
          · replace h := h.1 c
            refine ⟨h.1, ?_⟩
            replace h := h.2
            exact h
          · replace h := h.2 c
            refine ⟨fun c => ?_, fun c => ?_⟩
            · replace h := h.1 c
              refine ⟨h.1, ?_⟩
              replace h := h.2
              exact h
            · replace h := h.2 c
              refine ⟨fun c => ?_, fun c => ?_⟩
              · replace h := h.1 c
                refine ⟨h.1, ?_⟩
                replace h := h.2
                exact h
              · replace h := h.2 c
                refine ⟨fun c => ?_, fun c => ?_⟩
                · replace h := h.1 c
                  exact h
                · replace h := h.2 c
                  refine ⟨fun c => ?_, fun c => ?_⟩
                  · replace h := h.1 c
                    exact h
                  · replace h := h.2 c
                    refine ⟨fun c => ?_, fun c => ?_⟩
                    · replace h := h.1 c
                      refine vc_206_0 ?_
                      refine ⟨h.1, ?_⟩
                      replace h := h.2
                      refine ⟨fun c => ?_, fun c => ?_⟩
                      · replace h := h.1 c
                        refine ab_EmI (fun x1 V1 h => ?_) h
                        refine ⟨h.1, ?_⟩
                        replace h := h.2
                        refine ⟨h.1, ?_⟩
                        replace h := h.2
                        refine ab_EmI (fun x2 V2 h => ?_) h
                        exact h
                      · replace h := h.2 c
                        refine ab_EmI (fun x1 V1 h => ?_) h
                        exact h
                    · replace h := h.2 c
                      exact h
    · replace h := h.2 c
      refine ⟨Or.inl rfl, ?_⟩
      refine ⟨fun q => ?_, fun q => absurd rfl q⟩
      exact h

set_option maxRecDepth 20000 in
/-- FrameCountyModel mend(II)I, from 0 -/
theorem iv_208_0 {G : ab_G} {L : Nat} {xs : Nat → Int32} {l : Launch} {d : Nat} {i1 : Int32} {i2 : Int32} {V : aa_V} {K : aa_K} (h :
    (i1 < 0 →
      K (some (.int (-2 : Int32))) V) ∧
    (¬ i1 < 0 →
      (i1 < (V 105 12) →
        (i2 < (0 : Int32) →
          K (some (.int (-2 : Int32))) V) ∧
        (¬ i2 < (0 : Int32) →
          ((2 : Int32) < i2 →
            K (some (.int (-2 : Int32))) V) ∧
          (¬ (2 : Int32) < i2 →
            (i2 = 0 →
              vp_in i1 20 ∧
              ((V 114 ((i1).toNatClampNeg)) = (1 : Int32) →
                (i2 = (2 : Int32) →
                  vp_in i1 20 ∧
                  K (some (.int (1 : Int32))) (aa_up V 114 ((i1).toNatClampNeg) (2 : Int32))) ∧
                (¬ i2 = (2 : Int32) →
                  vp_in i1 20 ∧
                  K (some (.int (1 : Int32))) (aa_up V 114 ((i1).toNatClampNeg) (0 : Int32)))) ∧
              (¬ (V 114 ((i1).toNatClampNeg)) = (1 : Int32) →
                K (some (.int (-3 : Int32))) V)) ∧
            (¬ i2 = 0 →
              (i2 = (1 : Int32) →
                vp_in i1 20 ∧
                ((V 114 ((i1).toNatClampNeg)) = (2 : Int32) →
                  (i2 = (2 : Int32) →
                    vp_in i1 20 ∧
                    K (some (.int (1 : Int32))) (aa_up V 114 ((i1).toNatClampNeg) (2 : Int32))) ∧
                  (¬ i2 = (2 : Int32) →
                    vp_in i1 20 ∧
                    K (some (.int (1 : Int32))) (aa_up V 114 ((i1).toNatClampNeg) (0 : Int32)))) ∧
                (¬ (V 114 ((i1).toNatClampNeg)) = (2 : Int32) →
                  K (some (.int (-3 : Int32))) V)) ∧
              (¬ i2 = (1 : Int32) →
                vp_in i1 20 ∧
                ((V 114 ((i1).toNatClampNeg)) = (0 : Int32) →
                  (i2 = (2 : Int32) →
                    vp_in i1 20 ∧
                    K (some (.int (1 : Int32))) (aa_up V 114 ((i1).toNatClampNeg) (2 : Int32))) ∧
                  (¬ i2 = (2 : Int32) →
                    vp_in i1 20 ∧
                    K (some (.int (1 : Int32))) (aa_up V 114 ((i1).toNatClampNeg) (0 : Int32)))) ∧
                (¬ (V 114 ((i1).toNatClampNeg)) = (0 : Int32) →
                  K (some (.int (-3 : Int32))) V)))))) ∧
      (¬ i1 < (V 105 12) →
        K (some (.int (-2 : Int32))) V))) :
    ab_E G (ac_ST L xs) l (d + 2) ac_SK 208 [.ref 105, .int i1, .int i2] V K := by
  refine vc_208_0 ?_
  refine vc_200_0 ?_
  refine ⟨fun c => ?_, fun c => ?_⟩
  · replace h := h.1 c
    refine ⟨Or.inl rfl, ?_⟩
    refine ⟨fun q => ?_, fun q => absurd rfl q⟩
    exact h
  · replace h := h.2 c
    refine ⟨fun c => ?_, fun c => ?_⟩
    · replace h := h.1 c
      refine ⟨Or.inr rfl, ?_⟩
      refine ⟨fun q => absurd q (by decide), fun q => ?_⟩
      refine iv_isIn (a := i2) (b := (0 : Int32)) (c := (2 : Int32)) (by decide +kernel) (by decide +kernel) ?_
      refine ⟨fun c => ?_, fun c => ?_⟩
      · replace h := h.1 c
        refine ⟨fun q => ?_, fun q => absurd rfl q⟩
        exact h
      · replace h := h.2 c
        refine ⟨fun c => ?_, fun c => ?_⟩
        · replace h := h.1 c
          refine ⟨fun q => ?_, fun q => absurd rfl q⟩
          exact h
        · replace h := h.2 c
          refine ⟨fun q => absurd q (by decide), fun q => ?_⟩
          exact h
    · replace h := h.2 c
      refine ⟨Or.inl rfl, ?_⟩
      refine ⟨fun q => ?_, fun q => absurd rfl q⟩
      exact h

set_option maxRecDepth 20000 in
/-- FrameCountyModel keeps(I)I, from 0 -/
theorem iv_209_0 {G : ab_G} {L : Nat} {xs : Nat → Int32} {l : Launch} {d : Nat} {i1 : Int32} {V : aa_V} {K : aa_K} (h :
    (i1 < 0 →
      K (some (.int (-2 : Int32))) V) ∧
    (¬ i1 < 0 →
      (i1 < (V 105 11) →
        ab_J G (ac_ST L xs) l (d + 3) 209 15 [some (.ref 105), some (.int i1), some (.int (1 : Int32)), some (.int (0 : Int32))] [] ac_SK V ac_SK K) ∧
      (¬ i1 < (V 105 11) →
        K (some (.int (-2 : Int32))) V))) :
    ab_E G (ac_ST L xs) l (d + 3) ac_SK 209 [.ref 105, .int i1] V K := by
  refine vc_209_0 ?_
  refine vc_199_0 ?_
  refine ⟨fun c => ?_, fun c => ?_⟩
  · replace h := h.1 c
    refine ⟨Or.inl rfl, ?_⟩
    refine ⟨fun q => ?_, fun q => absurd rfl q⟩
    exact h
  · replace h := h.2 c
    refine ⟨fun c => ?_, fun c => ?_⟩
    · replace h := h.1 c
      refine ⟨Or.inr rfl, ?_⟩
      refine ⟨fun q => absurd q (by decide), fun q => ?_⟩
      exact h
    · replace h := h.2 c
      refine ⟨Or.inl rfl, ?_⟩
      refine ⟨fun q => ?_, fun q => absurd rfl q⟩
      exact h

set_option maxRecDepth 20000 in
/-- FrameCountyModel keeps(I)I, from 15 -/
theorem iv_209_15 {G : ab_G} {L : Nat} {xs : Nat → Int32} {l : Launch} {d : Nat} {i1 : Int32} {i2 : Int32} {i3 : Int32} {V : aa_V} {K : aa_K} (h :
    (i3 < (V 105 12) →
      vp_in i3 20 ∧
      ((V 111 ((i3).toNatClampNeg)) = i1 →
        vp_in i3 20 ∧
        ((V 114 ((i3).toNatClampNeg)) = 0 →
          vp_in i1 8 ∧
          vp_in i3 20 ∧
          vp_in (0 : Int32) 6 ∧
          vp_in i3 20 ∧
          vp_in (1 : Int32) 6 ∧
          ab_E G (ac_ST L xs) l (d + 1) ac_SK 205 [.ref 105, .int i3] (aa_up (aa_up V 122 (((0 : Int32)).toNatClampNeg) (V 110 ((i3).toNatClampNeg))) 122 (((1 : Int32)).toNatClampNeg) (V 112 ((i3).toNatClampNeg))) (aa_rI (fun x1 V1 =>
            vp_in (3 : Int32) 6 ∧
            vp_in (4 : Int32) 6 ∧
            vp_in (5 : Int32) 6 ∧
            ab_E G (ac_ST L xs) l (d + 1) ac_SK 225 [.ref 105, .int (0 : Int32)] (aa_up (aa_up (aa_up V1 122 (((3 : Int32)).toNatClampNeg) x1) 122 (((4 : Int32)).toNatClampNeg) (0 : Int32)) 122 (((5 : Int32)).toNatClampNeg) (0 : Int32)) (aa_rI (fun x2 V2 =>
              ((V 109 ((i1).toNatClampNeg)) < x2 →
                ab_J G (ac_ST L xs) l (d + 3) 209 15 [some (.ref 105), some (.int i1), some (.int (0 : Int32)), some (.int (i3 + 1))] [] ac_SK V2 ac_SK K) ∧
              (¬ (V 109 ((i1).toNatClampNeg)) < x2 →
                ab_J G (ac_ST L xs) l (d + 3) 209 15 [some (.ref 105), some (.int i1), some (.int i2), some (.int (i3 + 1))] [] ac_SK V2 ac_SK K)))))) ∧
        (¬ (V 114 ((i3).toNatClampNeg)) = 0 →
          ab_J G (ac_ST L xs) l (d + 3) 209 15 [some (.ref 105), some (.int i1), some (.int i2), some (.int (i3 + 1))] [] ac_SK V ac_SK K)) ∧
      (¬ (V 111 ((i3).toNatClampNeg)) = i1 →
        ab_J G (ac_ST L xs) l (d + 3) 209 15 [some (.ref 105), some (.int i1), some (.int i2), some (.int (i3 + 1))] [] ac_SK V ac_SK K)) ∧
    (¬ i3 < (V 105 12) →
      K (some (.int i2)) V)) :
    ab_J G (ac_ST L xs) l (d + 3) 209 15 [some (.ref 105), some (.int i1), some (.int i2), some (.int i3)] [] ac_SK V ac_SK K := by
  refine vc_209_15 ?_
  refine ⟨fun c => ?_, fun c => ?_⟩
  · replace h := h.1 c
    refine ⟨h.1, ?_⟩
    replace h := h.2
    refine ⟨fun c => ?_, fun c => ?_⟩
    · replace h := h.1 c
      refine ⟨h.1, ?_⟩
      replace h := h.2
      refine ⟨fun c => ?_, fun c => ?_⟩
      · replace h := h.1 c
        refine ⟨h.1, ?_⟩
        replace h := h.2
        refine vc_227_0 ?_
        refine ⟨h.1, ?_⟩
        replace h := h.2
        refine ⟨h.1, ?_⟩
        replace h := h.2
        refine ⟨h.1, ?_⟩
        replace h := h.2
        refine ⟨h.1, ?_⟩
        replace h := h.2
        refine ab_EmI (fun x1 V1 h => ?_) h
        refine ⟨h.1, ?_⟩
        replace h := h.2
        refine ⟨h.1, ?_⟩
        replace h := h.2
        refine ⟨h.1, ?_⟩
        replace h := h.2
        refine ab_EmI (fun x2 V2 h => ?_) h
        exact h
      · replace h := h.2 c
        exact h
    · replace h := h.2 c
      exact h
  · replace h := h.2 c
    exact h

set_option maxRecDepth 20000 in
/-- FrameCountyModel earns(I)J, from 0 -/
theorem iv_210_0 {G : ab_G} {L : Nat} {xs : Nat → Int32} {l : Launch} {d : Nat} {i1 : Int32} {V : aa_V} {K : aa_K} (h :
    (i1 < 0 →
      K (some (.long (-4611686018427387904 : Int64))) V) ∧
    (¬ i1 < 0 →
      (i1 < (V 105 11) →
        ab_J G (ac_ST L xs) l (d + 3) 210 17 [some (.ref 105), some (.int i1), some (.long (0 : Int64)), none, some (.int (0 : Int32))] [] ac_SK V ac_SK K) ∧
      (¬ i1 < (V 105 11) →
        K (some (.long (-4611686018427387904 : Int64))) V))) :
    ab_E G (ac_ST L xs) l (d + 3) ac_SK 210 [.ref 105, .int i1] V K := by
  refine vc_210_0 ?_
  refine vc_199_0 ?_
  refine ⟨fun c => ?_, fun c => ?_⟩
  · replace h := h.1 c
    refine ⟨Or.inl rfl, ?_⟩
    refine ⟨fun q => ?_, fun q => absurd rfl q⟩
    exact h
  · replace h := h.2 c
    refine ⟨fun c => ?_, fun c => ?_⟩
    · replace h := h.1 c
      refine ⟨Or.inr rfl, ?_⟩
      refine ⟨fun q => absurd q (by decide), fun q => ?_⟩
      exact h
    · replace h := h.2 c
      refine ⟨Or.inl rfl, ?_⟩
      refine ⟨fun q => ?_, fun q => absurd rfl q⟩
      exact h

set_option maxRecDepth 20000 in
/-- FrameCountyModel earns(I)J, from 17 -/
theorem iv_210_17 {G : ab_G} {L : Nat} {xs : Nat → Int32} {l : Launch} {d : Nat} {i1 : Int32} {l2 : Int64} {i4 : Int32} {V : aa_V} {K : aa_K} (h :
    (i4 < (V 105 12) →
      vp_in i4 20 ∧
      ((V 111 ((i4).toNatClampNeg)) = i1 →
        vp_in i4 20 ∧
        ((V 114 ((i4).toNatClampNeg)) = 0 →
          ab_E G (ac_ST L xs) l (d + 1) ac_SK 204 [.ref 105, .int i4] V (aa_rI (fun x1 V1 =>
            vp_in i4 20 ∧
            vp_in (V1 111 ((i4).toNatClampNeg)) 8 ∧
            ab_E G (ac_ST L xs) l (d + 1) ac_SK 205 [.ref 105, .int i4] V1 (aa_rI (fun x2 V2 =>
              ab_J G (ac_ST L xs) l (d + 3) 210 17 [some (.ref 105), some (.int i1), some (.long (l2 + (((x1 * (V1 109 (((V1 111 ((i4).toNatClampNeg))).toNatClampNeg))) - x2).toInt64))), none, some (.int (i4 + 1))] [] ac_SK V2 ac_SK K))))) ∧
        (¬ (V 114 ((i4).toNatClampNeg)) = 0 →
          ab_E G (ac_ST L xs) l (d + 1) ac_SK 205 [.ref 105, .int i4] V (aa_rI (fun x1 V1 =>
            ab_J G (ac_ST L xs) l (d + 3) 210 17 [some (.ref 105), some (.int i1), some (.long (l2 + (((0 : Int32) - x1).toInt64))), none, some (.int (i4 + 1))] [] ac_SK V1 ac_SK K)))) ∧
      (¬ (V 111 ((i4).toNatClampNeg)) = i1 →
        ab_J G (ac_ST L xs) l (d + 3) 210 17 [some (.ref 105), some (.int i1), some (.long (l2 + (0 : Int64))), none, some (.int (i4 + 1))] [] ac_SK V ac_SK K)) ∧
    (¬ i4 < (V 105 12) →
      K (some (.long l2)) V)) :
    ab_J G (ac_ST L xs) l (d + 3) 210 17 [some (.ref 105), some (.int i1), some (.long l2), none, some (.int i4)] [] ac_SK V ac_SK K := by
  refine vc_210_17 ?_
  refine ⟨fun c => ?_, fun c => ?_⟩
  · replace h := h.1 c
    refine ⟨h.1, ?_⟩
    replace h := h.2
    refine ⟨fun c => ?_, fun c => ?_⟩
    · replace h := h.1 c
      refine vc_206_0 ?_
      refine ⟨h.1, ?_⟩
      replace h := h.2
      refine ⟨fun c => ?_, fun c => ?_⟩
      · replace h := h.1 c
        refine ab_EmI (fun x1 V1 h => ?_) h
        refine ⟨h.1, ?_⟩
        replace h := h.2
        refine ⟨h.1, ?_⟩
        replace h := h.2
        refine ab_EmI (fun x2 V2 h => ?_) h
        exact h
      · replace h := h.2 c
        refine ab_EmI (fun x1 V1 h => ?_) h
        exact h
    · replace h := h.2 c
      exact h
  · replace h := h.2 c
    exact h

set_option maxRecDepth 20000 in
/-- FrameCountyModel feed(IJ)I, from 0 -/
theorem iv_213_0 {G : ab_G} {L : Nat} {xs : Nat → Int32} {l : Launch} {d : Nat} {i1 : Int32} {l2 : Int64} {V : aa_V} {K : aa_K} (h :
    (i1 < (1 : Int32) →
      K (some (.int (-2 : Int32))) V) ∧
    (¬ i1 < (1 : Int32) →
      ((8 : Int32) < i1 →
        K (some (.int (-2 : Int32))) V) ∧
      (¬ (8 : Int32) < i1 →
        ((160 : Int32) < ((V 105 19) + i1) →
          K (some (.int (-4 : Int32))) V) ∧
        (¬ (160 : Int32) < ((V 105 19) + i1) →
          ab_J G (ac_ST L xs) l (d + 2) 213 33 [some (.ref 105), some (.int i1), some (.long l2), none, some (.int (0 : Int32))] [] ac_SK V ac_SK K)))) :
    ab_E G (ac_ST L xs) l (d + 2) ac_SK 213 [.ref 105, .int i1, .long l2] V K := by
  refine vc_213_0 ?_
  refine iv_isIn (a := i1) (b := (1 : Int32)) (c := (8 : Int32)) (by decide +kernel) (by decide +kernel) ?_
  refine ⟨fun c => ?_, fun c => ?_⟩
  · replace h := h.1 c
    refine ⟨fun q => ?_, fun q => absurd rfl q⟩
    exact h
  · replace h := h.2 c
    refine ⟨fun c => ?_, fun c => ?_⟩
    · replace h := h.1 c
      refine ⟨fun q => ?_, fun q => absurd rfl q⟩
      exact h
    · replace h := h.2 c
      refine ⟨fun q => absurd q (by decide), fun q => ?_⟩
      exact h

set_option maxRecDepth 20000 in
/-- FrameCountyModel feed(IJ)I, from 33 -/
theorem iv_213_33 {G : ab_G} {L : Nat} {xs : Nat → Int32} {l : Launch} {d : Nat} {i1 : Int32} {l2 : Int64} {i4 : Int32} {V : aa_V} {K : aa_K} (h :
    (i4 < i1 →
      vp_in (V 105 19) 160 ∧
      ab_J G (ac_ST L xs) l (d + 2) 213 33 [some (.ref 105), some (.int i1), some (.long l2), none, some (.int (i4 + 1))] [] ac_SK (aa_up (aa_up V 116 (((V 105 19)).toNatClampNeg) (((l2 >>> (((8 : Int32) * i4).toInt64 &&& 63)) &&& (255 : Int64)).toInt32)) 105 19 ((V 105 19) + (1 : Int32))) ac_SK K) ∧
    (¬ i4 < i1 →
      K (some (.int (V 105 19))) V)) :
    ab_J G (ac_ST L xs) l (d + 2) 213 33 [some (.ref 105), some (.int i1), some (.long l2), none, some (.int i4)] [] ac_SK V ac_SK K := by
  refine vc_213_33 ?_
  exact h

set_option maxRecDepth 20000 in
/-- FrameCountyModel isWord(JI)Z, from 0 -/
theorem iv_216_0 {G : ab_G} {L : Nat} {xs : Nat → Int32} {l : Launch} {d : Nat} {l1 : Int64} {i3 : Int32} {V : aa_V} {K : aa_K} (h :
    (((V 105 22) - (V 105 27)) = i3 →
      ab_J G (ac_ST L xs) l (d + 1) 216 18 [some (.ref 105), some (.long l1), none, some (.int i3), some (.int (0 : Int32))] [] ac_SK V ac_SK K) ∧
    (¬ ((V 105 22) - (V 105 27)) = i3 →
      K (some (.int (0 : Int32))) V)) :
    ab_E G (ac_ST L xs) l (d + 1) ac_SK 216 [.ref 105, .long l1, .int i3] V K := by
  refine vc_216_0 ?_
  refine ⟨fun c => ?_, fun c => ?_⟩
  · replace h := h.1 c
    exact h
  · replace h := h.2 c
    exact ⟨Or.inl rfl, h⟩

set_option maxRecDepth 20000 in
/-- FrameCountyModel isWord(JI)Z, from 18 -/
theorem iv_216_18 {G : ab_G} {L : Nat} {xs : Nat → Int32} {l : Launch} {d : Nat} {l1 : Int64} {i3 : Int32} {i4 : Int32} {V : aa_V} {K : aa_K} (h :
    (i4 < i3 →
      vp_in ((V 105 27) + i4) 160 ∧
      ((lg_cmp ((V 116 ((((V 105 27) + i4)).toNatClampNeg)).toInt64) ((l1 >>> (((8 : Int32) * ((i3 - (1 : Int32)) - i4)).toInt64 &&& 63)) &&& (255 : Int64))) = 0 →
        ab_J G (ac_ST L xs) l (d + 1) 216 18 [some (.ref 105), some (.long l1), none, some (.int i3), some (.int (i4 + 1))] [] ac_SK V ac_SK K) ∧
      (¬ (lg_cmp ((V 116 ((((V 105 27) + i4)).toNatClampNeg)).toInt64) ((l1 >>> (((8 : Int32) * ((i3 - (1 : Int32)) - i4)).toInt64 &&& 63)) &&& (255 : Int64))) = 0 →
        K (some (.int (0 : Int32))) V)) ∧
    (¬ i4 < i3 →
      K (some (.int (1 : Int32))) V)) :
    ab_J G (ac_ST L xs) l (d + 1) 216 18 [some (.ref 105), some (.long l1), none, some (.int i3), some (.int i4)] [] ac_SK V ac_SK K := by
  refine vc_216_18 ?_
  refine ⟨fun c => ?_, fun c => ?_⟩
  · replace h := h.1 c
    refine ⟨h.1, ?_⟩
    replace h := h.2
    refine ⟨fun c => ?_, fun c => ?_⟩
    · replace h := h.1 c
      exact h
    · replace h := h.2 c
      exact ⟨Or.inl rfl, h⟩
  · replace h := h.2 c
    exact ⟨Or.inr rfl, h⟩

set_option maxRecDepth 20000 in
/-- FrameCountyModel reads()V, from 0 -/
theorem iv_217_0 {G : ab_G} {L : Nat} {xs : Nat → Int32} {l : Launch} {d : Nat} {V : aa_V} {K : aa_K} (h :
    ((V 105 22) < (V 105 19) →
      vp_in (V 105 22) 160 ∧
      ((V 116 (((V 105 22)).toNatClampNeg)) = (32 : Int32) →
        ab_J G (ac_ST L xs) l (d + 2) 217 39 [some (.ref 105), none] [] ac_SK V ac_SK K) ∧
      (¬ (V 116 (((V 105 22)).toNatClampNeg)) = (32 : Int32) →
        vp_in (V 105 22) 160 ∧
        ((V 116 (((V 105 22)).toNatClampNeg)) = (10 : Int32) →
          ab_J G (ac_ST L xs) l (d + 2) 217 39 [some (.ref 105), none] [] ac_SK V ac_SK K) ∧
        (¬ (V 116 (((V 105 22)).toNatClampNeg)) = (10 : Int32) →
          ab_J G (ac_ST L xs) l (d + 2) 217 52 [some (.ref 105), none] [] ac_SK V ac_SK K))) ∧
    (¬ (V 105 22) < (V 105 19) →
      ab_J G (ac_ST L xs) l (d + 2) 217 52 [some (.ref 105), none] [] ac_SK V ac_SK K)) :
    ab_E G (ac_ST L xs) l (d + 2) ac_SK 217 [.ref 105] V K := by
  refine vc_217_0 ?_
  exact h

set_option maxRecDepth 20000 in
/-- FrameCountyModel reads()V, from 39 -/
theorem iv_217_39 {G : ab_G} {L : Nat} {xs : Nat → Int32} {l : Launch} {d : Nat} {V : aa_V} {K : aa_K} (h :
    ab_J G (ac_ST L xs) l (d + 2) 217 0 [some (.ref 105), none] [] ac_SK (aa_up V 105 22 ((V 105 22) + (1 : Int32))) ac_SK K) :
    ab_J G (ac_ST L xs) l (d + 2) 217 39 [some (.ref 105), none] [] ac_SK V ac_SK K := by
  refine vc_217_39 ?_
  exact h

set_option maxRecDepth 20000 in
/-- FrameCountyModel reads()V, from 52 -/
theorem iv_217_52 {G : ab_G} {L : Nat} {xs : Nat → Int32} {l : Launch} {d : Nat} {V : aa_V} {K : aa_K} (h :
    ((V 105 22) = (V 105 19) →
      ((V 105 22) = (V 105 19) →
        K none (aa_up (aa_up (aa_up V 105 27 (V 105 22)) 105 26 (0 : Int32)) 105 28 (0 : Int32))) ∧
      (¬ (V 105 22) = (V 105 19) →
        vp_in (V 105 22) 160 ∧
        ((V 116 (((V 105 22)).toNatClampNeg)) < (48 : Int32) →
          ((V 116 (((V 105 22)).toNatClampNeg)) < (97 : Int32) →
            ((V 116 (((V 105 22)).toNatClampNeg)) = (40 : Int32) →
              ab_J G (ac_ST L xs) l (d + 2) 217 327 [some (.ref 105), some (.int (V 116 (((V 105 22)).toNatClampNeg)))] [] ac_SK (aa_up (aa_up (aa_up V 105 27 (V 105 22)) 105 26 (0 : Int32)) 105 28 (0 : Int32)) ac_SK K) ∧
            (¬ (V 116 (((V 105 22)).toNatClampNeg)) = (40 : Int32) →
              ((V 116 (((V 105 22)).toNatClampNeg)) = (41 : Int32) →
                ab_J G (ac_ST L xs) l (d + 2) 217 327 [some (.ref 105), some (.int (V 116 (((V 105 22)).toNatClampNeg)))] [] ac_SK (aa_up (aa_up (aa_up V 105 27 (V 105 22)) 105 26 (0 : Int32)) 105 28 (0 : Int32)) ac_SK K) ∧
              (¬ (V 116 (((V 105 22)).toNatClampNeg)) = (41 : Int32) →
                ((V 116 (((V 105 22)).toNatClampNeg)) = (59 : Int32) →
                  ab_J G (ac_ST L xs) l (d + 2) 217 327 [some (.ref 105), some (.int (V 116 (((V 105 22)).toNatClampNeg)))] [] ac_SK (aa_up (aa_up (aa_up V 105 27 (V 105 22)) 105 26 (0 : Int32)) 105 28 (0 : Int32)) ac_SK K) ∧
                (¬ (V 116 (((V 105 22)).toNatClampNeg)) = (59 : Int32) →
                  ((V 116 (((V 105 22)).toNatClampNeg)) = (43 : Int32) →
                    ab_J G (ac_ST L xs) l (d + 2) 217 327 [some (.ref 105), some (.int (V 116 (((V 105 22)).toNatClampNeg)))] [] ac_SK (aa_up (aa_up (aa_up V 105 27 (V 105 22)) 105 26 (0 : Int32)) 105 28 (0 : Int32)) ac_SK K) ∧
                  (¬ (V 116 (((V 105 22)).toNatClampNeg)) = (43 : Int32) →
                    ((V 116 (((V 105 22)).toNatClampNeg)) = (45 : Int32) →
                      ab_J G (ac_ST L xs) l (d + 2) 217 327 [some (.ref 105), some (.int (V 116 (((V 105 22)).toNatClampNeg)))] [] ac_SK (aa_up (aa_up (aa_up V 105 27 (V 105 22)) 105 26 (0 : Int32)) 105 28 (0 : Int32)) ac_SK K) ∧
                    (¬ (V 116 (((V 105 22)).toNatClampNeg)) = (45 : Int32) →
                      ((V 116 (((V 105 22)).toNatClampNeg)) = (42 : Int32) →
                        ab_J G (ac_ST L xs) l (d + 2) 217 327 [some (.ref 105), some (.int (V 116 (((V 105 22)).toNatClampNeg)))] [] ac_SK (aa_up (aa_up (aa_up V 105 27 (V 105 22)) 105 26 (0 : Int32)) 105 28 (0 : Int32)) ac_SK K) ∧
                      (¬ (V 116 (((V 105 22)).toNatClampNeg)) = (42 : Int32) →
                        ((V 116 (((V 105 22)).toNatClampNeg)) = (60 : Int32) →
                          ab_J G (ac_ST L xs) l (d + 2) 217 327 [some (.ref 105), some (.int (V 116 (((V 105 22)).toNatClampNeg)))] [] ac_SK (aa_up (aa_up (aa_up V 105 27 (V 105 22)) 105 26 (0 : Int32)) 105 28 (0 : Int32)) ac_SK K) ∧
                        (¬ (V 116 (((V 105 22)).toNatClampNeg)) = (60 : Int32) →
                          ((V 116 (((V 105 22)).toNatClampNeg)) = (61 : Int32) →
                            ab_J G (ac_ST L xs) l (d + 2) 217 327 [some (.ref 105), some (.int (V 116 (((V 105 22)).toNatClampNeg)))] [] ac_SK (aa_up (aa_up (aa_up V 105 27 (V 105 22)) 105 26 (0 : Int32)) 105 28 (0 : Int32)) ac_SK K) ∧
                          (¬ (V 116 (((V 105 22)).toNatClampNeg)) = (61 : Int32) →
                            ab_J G (ac_ST L xs) l (d + 2) 217 342 [none, none] [] ac_SK (aa_up (aa_up (aa_up V 105 27 (V 105 22)) 105 26 (0 : Int32)) 105 28 (0 : Int32)) ac_SK K))))))))) ∧
          (¬ (V 116 (((V 105 22)).toNatClampNeg)) < (97 : Int32) →
            ((122 : Int32) < (V 116 (((V 105 22)).toNatClampNeg)) →
              ((V 116 (((V 105 22)).toNatClampNeg)) = (40 : Int32) →
                ab_J G (ac_ST L xs) l (d + 2) 217 327 [some (.ref 105), some (.int (V 116 (((V 105 22)).toNatClampNeg)))] [] ac_SK (aa_up (aa_up (aa_up V 105 27 (V 105 22)) 105 26 (0 : Int32)) 105 28 (0 : Int32)) ac_SK K) ∧
              (¬ (V 116 (((V 105 22)).toNatClampNeg)) = (40 : Int32) →
                ((V 116 (((V 105 22)).toNatClampNeg)) = (41 : Int32) →
                  ab_J G (ac_ST L xs) l (d + 2) 217 327 [some (.ref 105), some (.int (V 116 (((V 105 22)).toNatClampNeg)))] [] ac_SK (aa_up (aa_up (aa_up V 105 27 (V 105 22)) 105 26 (0 : Int32)) 105 28 (0 : Int32)) ac_SK K) ∧
                (¬ (V 116 (((V 105 22)).toNatClampNeg)) = (41 : Int32) →
                  ((V 116 (((V 105 22)).toNatClampNeg)) = (59 : Int32) →
                    ab_J G (ac_ST L xs) l (d + 2) 217 327 [some (.ref 105), some (.int (V 116 (((V 105 22)).toNatClampNeg)))] [] ac_SK (aa_up (aa_up (aa_up V 105 27 (V 105 22)) 105 26 (0 : Int32)) 105 28 (0 : Int32)) ac_SK K) ∧
                  (¬ (V 116 (((V 105 22)).toNatClampNeg)) = (59 : Int32) →
                    ((V 116 (((V 105 22)).toNatClampNeg)) = (43 : Int32) →
                      ab_J G (ac_ST L xs) l (d + 2) 217 327 [some (.ref 105), some (.int (V 116 (((V 105 22)).toNatClampNeg)))] [] ac_SK (aa_up (aa_up (aa_up V 105 27 (V 105 22)) 105 26 (0 : Int32)) 105 28 (0 : Int32)) ac_SK K) ∧
                    (¬ (V 116 (((V 105 22)).toNatClampNeg)) = (43 : Int32) →
                      ((V 116 (((V 105 22)).toNatClampNeg)) = (45 : Int32) →
                        ab_J G (ac_ST L xs) l (d + 2) 217 327 [some (.ref 105), some (.int (V 116 (((V 105 22)).toNatClampNeg)))] [] ac_SK (aa_up (aa_up (aa_up V 105 27 (V 105 22)) 105 26 (0 : Int32)) 105 28 (0 : Int32)) ac_SK K) ∧
                      (¬ (V 116 (((V 105 22)).toNatClampNeg)) = (45 : Int32) →
                        ((V 116 (((V 105 22)).toNatClampNeg)) = (42 : Int32) →
                          ab_J G (ac_ST L xs) l (d + 2) 217 327 [some (.ref 105), some (.int (V 116 (((V 105 22)).toNatClampNeg)))] [] ac_SK (aa_up (aa_up (aa_up V 105 27 (V 105 22)) 105 26 (0 : Int32)) 105 28 (0 : Int32)) ac_SK K) ∧
                        (¬ (V 116 (((V 105 22)).toNatClampNeg)) = (42 : Int32) →
                          ((V 116 (((V 105 22)).toNatClampNeg)) = (60 : Int32) →
                            ab_J G (ac_ST L xs) l (d + 2) 217 327 [some (.ref 105), some (.int (V 116 (((V 105 22)).toNatClampNeg)))] [] ac_SK (aa_up (aa_up (aa_up V 105 27 (V 105 22)) 105 26 (0 : Int32)) 105 28 (0 : Int32)) ac_SK K) ∧
                          (¬ (V 116 (((V 105 22)).toNatClampNeg)) = (60 : Int32) →
                            ((V 116 (((V 105 22)).toNatClampNeg)) = (61 : Int32) →
                              ab_J G (ac_ST L xs) l (d + 2) 217 327 [some (.ref 105), some (.int (V 116 (((V 105 22)).toNatClampNeg)))] [] ac_SK (aa_up (aa_up (aa_up V 105 27 (V 105 22)) 105 26 (0 : Int32)) 105 28 (0 : Int32)) ac_SK K) ∧
                            (¬ (V 116 (((V 105 22)).toNatClampNeg)) = (61 : Int32) →
                              ab_J G (ac_ST L xs) l (d + 2) 217 342 [none, none] [] ac_SK (aa_up (aa_up (aa_up V 105 27 (V 105 22)) 105 26 (0 : Int32)) 105 28 (0 : Int32)) ac_SK K))))))))) ∧
            (¬ (122 : Int32) < (V 116 (((V 105 22)).toNatClampNeg)) →
              ab_J G (ac_ST L xs) l (d + 2) 217 229 [some (.ref 105), none] [] ac_SK (aa_up (aa_up (aa_up V 105 27 (V 105 22)) 105 26 (0 : Int32)) 105 28 (0 : Int32)) ac_SK K))) ∧
        (¬ (V 116 (((V 105 22)).toNatClampNeg)) < (48 : Int32) →
          ((57 : Int32) < (V 116 (((V 105 22)).toNatClampNeg)) →
            ((V 116 (((V 105 22)).toNatClampNeg)) < (97 : Int32) →
              ((V 116 (((V 105 22)).toNatClampNeg)) = (40 : Int32) →
                ab_J G (ac_ST L xs) l (d + 2) 217 327 [some (.ref 105), some (.int (V 116 (((V 105 22)).toNatClampNeg)))] [] ac_SK (aa_up (aa_up (aa_up V 105 27 (V 105 22)) 105 26 (0 : Int32)) 105 28 (0 : Int32)) ac_SK K) ∧
              (¬ (V 116 (((V 105 22)).toNatClampNeg)) = (40 : Int32) →
                ((V 116 (((V 105 22)).toNatClampNeg)) = (41 : Int32) →
                  ab_J G (ac_ST L xs) l (d + 2) 217 327 [some (.ref 105), some (.int (V 116 (((V 105 22)).toNatClampNeg)))] [] ac_SK (aa_up (aa_up (aa_up V 105 27 (V 105 22)) 105 26 (0 : Int32)) 105 28 (0 : Int32)) ac_SK K) ∧
                (¬ (V 116 (((V 105 22)).toNatClampNeg)) = (41 : Int32) →
                  ((V 116 (((V 105 22)).toNatClampNeg)) = (59 : Int32) →
                    ab_J G (ac_ST L xs) l (d + 2) 217 327 [some (.ref 105), some (.int (V 116 (((V 105 22)).toNatClampNeg)))] [] ac_SK (aa_up (aa_up (aa_up V 105 27 (V 105 22)) 105 26 (0 : Int32)) 105 28 (0 : Int32)) ac_SK K) ∧
                  (¬ (V 116 (((V 105 22)).toNatClampNeg)) = (59 : Int32) →
                    ((V 116 (((V 105 22)).toNatClampNeg)) = (43 : Int32) →
                      ab_J G (ac_ST L xs) l (d + 2) 217 327 [some (.ref 105), some (.int (V 116 (((V 105 22)).toNatClampNeg)))] [] ac_SK (aa_up (aa_up (aa_up V 105 27 (V 105 22)) 105 26 (0 : Int32)) 105 28 (0 : Int32)) ac_SK K) ∧
                    (¬ (V 116 (((V 105 22)).toNatClampNeg)) = (43 : Int32) →
                      ((V 116 (((V 105 22)).toNatClampNeg)) = (45 : Int32) →
                        ab_J G (ac_ST L xs) l (d + 2) 217 327 [some (.ref 105), some (.int (V 116 (((V 105 22)).toNatClampNeg)))] [] ac_SK (aa_up (aa_up (aa_up V 105 27 (V 105 22)) 105 26 (0 : Int32)) 105 28 (0 : Int32)) ac_SK K) ∧
                      (¬ (V 116 (((V 105 22)).toNatClampNeg)) = (45 : Int32) →
                        ((V 116 (((V 105 22)).toNatClampNeg)) = (42 : Int32) →
                          ab_J G (ac_ST L xs) l (d + 2) 217 327 [some (.ref 105), some (.int (V 116 (((V 105 22)).toNatClampNeg)))] [] ac_SK (aa_up (aa_up (aa_up V 105 27 (V 105 22)) 105 26 (0 : Int32)) 105 28 (0 : Int32)) ac_SK K) ∧
                        (¬ (V 116 (((V 105 22)).toNatClampNeg)) = (42 : Int32) →
                          ((V 116 (((V 105 22)).toNatClampNeg)) = (60 : Int32) →
                            ab_J G (ac_ST L xs) l (d + 2) 217 327 [some (.ref 105), some (.int (V 116 (((V 105 22)).toNatClampNeg)))] [] ac_SK (aa_up (aa_up (aa_up V 105 27 (V 105 22)) 105 26 (0 : Int32)) 105 28 (0 : Int32)) ac_SK K) ∧
                          (¬ (V 116 (((V 105 22)).toNatClampNeg)) = (60 : Int32) →
                            ((V 116 (((V 105 22)).toNatClampNeg)) = (61 : Int32) →
                              ab_J G (ac_ST L xs) l (d + 2) 217 327 [some (.ref 105), some (.int (V 116 (((V 105 22)).toNatClampNeg)))] [] ac_SK (aa_up (aa_up (aa_up V 105 27 (V 105 22)) 105 26 (0 : Int32)) 105 28 (0 : Int32)) ac_SK K) ∧
                            (¬ (V 116 (((V 105 22)).toNatClampNeg)) = (61 : Int32) →
                              ab_J G (ac_ST L xs) l (d + 2) 217 342 [none, none] [] ac_SK (aa_up (aa_up (aa_up V 105 27 (V 105 22)) 105 26 (0 : Int32)) 105 28 (0 : Int32)) ac_SK K))))))))) ∧
            (¬ (V 116 (((V 105 22)).toNatClampNeg)) < (97 : Int32) →
              ((122 : Int32) < (V 116 (((V 105 22)).toNatClampNeg)) →
                ((V 116 (((V 105 22)).toNatClampNeg)) = (40 : Int32) →
                  ab_J G (ac_ST L xs) l (d + 2) 217 327 [some (.ref 105), some (.int (V 116 (((V 105 22)).toNatClampNeg)))] [] ac_SK (aa_up (aa_up (aa_up V 105 27 (V 105 22)) 105 26 (0 : Int32)) 105 28 (0 : Int32)) ac_SK K) ∧
                (¬ (V 116 (((V 105 22)).toNatClampNeg)) = (40 : Int32) →
                  ((V 116 (((V 105 22)).toNatClampNeg)) = (41 : Int32) →
                    ab_J G (ac_ST L xs) l (d + 2) 217 327 [some (.ref 105), some (.int (V 116 (((V 105 22)).toNatClampNeg)))] [] ac_SK (aa_up (aa_up (aa_up V 105 27 (V 105 22)) 105 26 (0 : Int32)) 105 28 (0 : Int32)) ac_SK K) ∧
                  (¬ (V 116 (((V 105 22)).toNatClampNeg)) = (41 : Int32) →
                    ((V 116 (((V 105 22)).toNatClampNeg)) = (59 : Int32) →
                      ab_J G (ac_ST L xs) l (d + 2) 217 327 [some (.ref 105), some (.int (V 116 (((V 105 22)).toNatClampNeg)))] [] ac_SK (aa_up (aa_up (aa_up V 105 27 (V 105 22)) 105 26 (0 : Int32)) 105 28 (0 : Int32)) ac_SK K) ∧
                    (¬ (V 116 (((V 105 22)).toNatClampNeg)) = (59 : Int32) →
                      ((V 116 (((V 105 22)).toNatClampNeg)) = (43 : Int32) →
                        ab_J G (ac_ST L xs) l (d + 2) 217 327 [some (.ref 105), some (.int (V 116 (((V 105 22)).toNatClampNeg)))] [] ac_SK (aa_up (aa_up (aa_up V 105 27 (V 105 22)) 105 26 (0 : Int32)) 105 28 (0 : Int32)) ac_SK K) ∧
                      (¬ (V 116 (((V 105 22)).toNatClampNeg)) = (43 : Int32) →
                        ((V 116 (((V 105 22)).toNatClampNeg)) = (45 : Int32) →
                          ab_J G (ac_ST L xs) l (d + 2) 217 327 [some (.ref 105), some (.int (V 116 (((V 105 22)).toNatClampNeg)))] [] ac_SK (aa_up (aa_up (aa_up V 105 27 (V 105 22)) 105 26 (0 : Int32)) 105 28 (0 : Int32)) ac_SK K) ∧
                        (¬ (V 116 (((V 105 22)).toNatClampNeg)) = (45 : Int32) →
                          ((V 116 (((V 105 22)).toNatClampNeg)) = (42 : Int32) →
                            ab_J G (ac_ST L xs) l (d + 2) 217 327 [some (.ref 105), some (.int (V 116 (((V 105 22)).toNatClampNeg)))] [] ac_SK (aa_up (aa_up (aa_up V 105 27 (V 105 22)) 105 26 (0 : Int32)) 105 28 (0 : Int32)) ac_SK K) ∧
                          (¬ (V 116 (((V 105 22)).toNatClampNeg)) = (42 : Int32) →
                            ((V 116 (((V 105 22)).toNatClampNeg)) = (60 : Int32) →
                              ab_J G (ac_ST L xs) l (d + 2) 217 327 [some (.ref 105), some (.int (V 116 (((V 105 22)).toNatClampNeg)))] [] ac_SK (aa_up (aa_up (aa_up V 105 27 (V 105 22)) 105 26 (0 : Int32)) 105 28 (0 : Int32)) ac_SK K) ∧
                            (¬ (V 116 (((V 105 22)).toNatClampNeg)) = (60 : Int32) →
                              ((V 116 (((V 105 22)).toNatClampNeg)) = (61 : Int32) →
                                ab_J G (ac_ST L xs) l (d + 2) 217 327 [some (.ref 105), some (.int (V 116 (((V 105 22)).toNatClampNeg)))] [] ac_SK (aa_up (aa_up (aa_up V 105 27 (V 105 22)) 105 26 (0 : Int32)) 105 28 (0 : Int32)) ac_SK K) ∧
                              (¬ (V 116 (((V 105 22)).toNatClampNeg)) = (61 : Int32) →
                                ab_J G (ac_ST L xs) l (d + 2) 217 342 [none, none] [] ac_SK (aa_up (aa_up (aa_up V 105 27 (V 105 22)) 105 26 (0 : Int32)) 105 28 (0 : Int32)) ac_SK K))))))))) ∧
              (¬ (122 : Int32) < (V 116 (((V 105 22)).toNatClampNeg)) →
                ab_J G (ac_ST L xs) l (d + 2) 217 229 [some (.ref 105), none] [] ac_SK (aa_up (aa_up (aa_up V 105 27 (V 105 22)) 105 26 (0 : Int32)) 105 28 (0 : Int32)) ac_SK K))) ∧
          (¬ (57 : Int32) < (V 116 (((V 105 22)).toNatClampNeg)) →
            ab_J G (ac_ST L xs) l (d + 2) 217 114 [some (.ref 105), none] [] ac_SK (aa_up (aa_up (aa_up V 105 27 (V 105 22)) 105 26 (0 : Int32)) 105 28 (0 : Int32)) ac_SK K)))) ∧
    (¬ (V 105 22) = (V 105 19) →
      ((V 105 22) = (V 105 19) →
        K none (aa_up (aa_up (aa_up V 105 27 (V 105 22)) 105 26 (-1 : Int32)) 105 28 (0 : Int32))) ∧
      (¬ (V 105 22) = (V 105 19) →
        vp_in (V 105 22) 160 ∧
        ((V 116 (((V 105 22)).toNatClampNeg)) < (48 : Int32) →
          ((V 116 (((V 105 22)).toNatClampNeg)) < (97 : Int32) →
            ((V 116 (((V 105 22)).toNatClampNeg)) = (40 : Int32) →
              ab_J G (ac_ST L xs) l (d + 2) 217 327 [some (.ref 105), some (.int (V 116 (((V 105 22)).toNatClampNeg)))] [] ac_SK (aa_up (aa_up (aa_up V 105 27 (V 105 22)) 105 26 (-1 : Int32)) 105 28 (0 : Int32)) ac_SK K) ∧
            (¬ (V 116 (((V 105 22)).toNatClampNeg)) = (40 : Int32) →
              ((V 116 (((V 105 22)).toNatClampNeg)) = (41 : Int32) →
                ab_J G (ac_ST L xs) l (d + 2) 217 327 [some (.ref 105), some (.int (V 116 (((V 105 22)).toNatClampNeg)))] [] ac_SK (aa_up (aa_up (aa_up V 105 27 (V 105 22)) 105 26 (-1 : Int32)) 105 28 (0 : Int32)) ac_SK K) ∧
              (¬ (V 116 (((V 105 22)).toNatClampNeg)) = (41 : Int32) →
                ((V 116 (((V 105 22)).toNatClampNeg)) = (59 : Int32) →
                  ab_J G (ac_ST L xs) l (d + 2) 217 327 [some (.ref 105), some (.int (V 116 (((V 105 22)).toNatClampNeg)))] [] ac_SK (aa_up (aa_up (aa_up V 105 27 (V 105 22)) 105 26 (-1 : Int32)) 105 28 (0 : Int32)) ac_SK K) ∧
                (¬ (V 116 (((V 105 22)).toNatClampNeg)) = (59 : Int32) →
                  ((V 116 (((V 105 22)).toNatClampNeg)) = (43 : Int32) →
                    ab_J G (ac_ST L xs) l (d + 2) 217 327 [some (.ref 105), some (.int (V 116 (((V 105 22)).toNatClampNeg)))] [] ac_SK (aa_up (aa_up (aa_up V 105 27 (V 105 22)) 105 26 (-1 : Int32)) 105 28 (0 : Int32)) ac_SK K) ∧
                  (¬ (V 116 (((V 105 22)).toNatClampNeg)) = (43 : Int32) →
                    ((V 116 (((V 105 22)).toNatClampNeg)) = (45 : Int32) →
                      ab_J G (ac_ST L xs) l (d + 2) 217 327 [some (.ref 105), some (.int (V 116 (((V 105 22)).toNatClampNeg)))] [] ac_SK (aa_up (aa_up (aa_up V 105 27 (V 105 22)) 105 26 (-1 : Int32)) 105 28 (0 : Int32)) ac_SK K) ∧
                    (¬ (V 116 (((V 105 22)).toNatClampNeg)) = (45 : Int32) →
                      ((V 116 (((V 105 22)).toNatClampNeg)) = (42 : Int32) →
                        ab_J G (ac_ST L xs) l (d + 2) 217 327 [some (.ref 105), some (.int (V 116 (((V 105 22)).toNatClampNeg)))] [] ac_SK (aa_up (aa_up (aa_up V 105 27 (V 105 22)) 105 26 (-1 : Int32)) 105 28 (0 : Int32)) ac_SK K) ∧
                      (¬ (V 116 (((V 105 22)).toNatClampNeg)) = (42 : Int32) →
                        ((V 116 (((V 105 22)).toNatClampNeg)) = (60 : Int32) →
                          ab_J G (ac_ST L xs) l (d + 2) 217 327 [some (.ref 105), some (.int (V 116 (((V 105 22)).toNatClampNeg)))] [] ac_SK (aa_up (aa_up (aa_up V 105 27 (V 105 22)) 105 26 (-1 : Int32)) 105 28 (0 : Int32)) ac_SK K) ∧
                        (¬ (V 116 (((V 105 22)).toNatClampNeg)) = (60 : Int32) →
                          ((V 116 (((V 105 22)).toNatClampNeg)) = (61 : Int32) →
                            ab_J G (ac_ST L xs) l (d + 2) 217 327 [some (.ref 105), some (.int (V 116 (((V 105 22)).toNatClampNeg)))] [] ac_SK (aa_up (aa_up (aa_up V 105 27 (V 105 22)) 105 26 (-1 : Int32)) 105 28 (0 : Int32)) ac_SK K) ∧
                          (¬ (V 116 (((V 105 22)).toNatClampNeg)) = (61 : Int32) →
                            ab_J G (ac_ST L xs) l (d + 2) 217 342 [none, none] [] ac_SK (aa_up (aa_up (aa_up V 105 27 (V 105 22)) 105 26 (-1 : Int32)) 105 28 (0 : Int32)) ac_SK K))))))))) ∧
          (¬ (V 116 (((V 105 22)).toNatClampNeg)) < (97 : Int32) →
            ((122 : Int32) < (V 116 (((V 105 22)).toNatClampNeg)) →
              ((V 116 (((V 105 22)).toNatClampNeg)) = (40 : Int32) →
                ab_J G (ac_ST L xs) l (d + 2) 217 327 [some (.ref 105), some (.int (V 116 (((V 105 22)).toNatClampNeg)))] [] ac_SK (aa_up (aa_up (aa_up V 105 27 (V 105 22)) 105 26 (-1 : Int32)) 105 28 (0 : Int32)) ac_SK K) ∧
              (¬ (V 116 (((V 105 22)).toNatClampNeg)) = (40 : Int32) →
                ((V 116 (((V 105 22)).toNatClampNeg)) = (41 : Int32) →
                  ab_J G (ac_ST L xs) l (d + 2) 217 327 [some (.ref 105), some (.int (V 116 (((V 105 22)).toNatClampNeg)))] [] ac_SK (aa_up (aa_up (aa_up V 105 27 (V 105 22)) 105 26 (-1 : Int32)) 105 28 (0 : Int32)) ac_SK K) ∧
                (¬ (V 116 (((V 105 22)).toNatClampNeg)) = (41 : Int32) →
                  ((V 116 (((V 105 22)).toNatClampNeg)) = (59 : Int32) →
                    ab_J G (ac_ST L xs) l (d + 2) 217 327 [some (.ref 105), some (.int (V 116 (((V 105 22)).toNatClampNeg)))] [] ac_SK (aa_up (aa_up (aa_up V 105 27 (V 105 22)) 105 26 (-1 : Int32)) 105 28 (0 : Int32)) ac_SK K) ∧
                  (¬ (V 116 (((V 105 22)).toNatClampNeg)) = (59 : Int32) →
                    ((V 116 (((V 105 22)).toNatClampNeg)) = (43 : Int32) →
                      ab_J G (ac_ST L xs) l (d + 2) 217 327 [some (.ref 105), some (.int (V 116 (((V 105 22)).toNatClampNeg)))] [] ac_SK (aa_up (aa_up (aa_up V 105 27 (V 105 22)) 105 26 (-1 : Int32)) 105 28 (0 : Int32)) ac_SK K) ∧
                    (¬ (V 116 (((V 105 22)).toNatClampNeg)) = (43 : Int32) →
                      ((V 116 (((V 105 22)).toNatClampNeg)) = (45 : Int32) →
                        ab_J G (ac_ST L xs) l (d + 2) 217 327 [some (.ref 105), some (.int (V 116 (((V 105 22)).toNatClampNeg)))] [] ac_SK (aa_up (aa_up (aa_up V 105 27 (V 105 22)) 105 26 (-1 : Int32)) 105 28 (0 : Int32)) ac_SK K) ∧
                      (¬ (V 116 (((V 105 22)).toNatClampNeg)) = (45 : Int32) →
                        ((V 116 (((V 105 22)).toNatClampNeg)) = (42 : Int32) →
                          ab_J G (ac_ST L xs) l (d + 2) 217 327 [some (.ref 105), some (.int (V 116 (((V 105 22)).toNatClampNeg)))] [] ac_SK (aa_up (aa_up (aa_up V 105 27 (V 105 22)) 105 26 (-1 : Int32)) 105 28 (0 : Int32)) ac_SK K) ∧
                        (¬ (V 116 (((V 105 22)).toNatClampNeg)) = (42 : Int32) →
                          ((V 116 (((V 105 22)).toNatClampNeg)) = (60 : Int32) →
                            ab_J G (ac_ST L xs) l (d + 2) 217 327 [some (.ref 105), some (.int (V 116 (((V 105 22)).toNatClampNeg)))] [] ac_SK (aa_up (aa_up (aa_up V 105 27 (V 105 22)) 105 26 (-1 : Int32)) 105 28 (0 : Int32)) ac_SK K) ∧
                          (¬ (V 116 (((V 105 22)).toNatClampNeg)) = (60 : Int32) →
                            ((V 116 (((V 105 22)).toNatClampNeg)) = (61 : Int32) →
                              ab_J G (ac_ST L xs) l (d + 2) 217 327 [some (.ref 105), some (.int (V 116 (((V 105 22)).toNatClampNeg)))] [] ac_SK (aa_up (aa_up (aa_up V 105 27 (V 105 22)) 105 26 (-1 : Int32)) 105 28 (0 : Int32)) ac_SK K) ∧
                            (¬ (V 116 (((V 105 22)).toNatClampNeg)) = (61 : Int32) →
                              ab_J G (ac_ST L xs) l (d + 2) 217 342 [none, none] [] ac_SK (aa_up (aa_up (aa_up V 105 27 (V 105 22)) 105 26 (-1 : Int32)) 105 28 (0 : Int32)) ac_SK K))))))))) ∧
            (¬ (122 : Int32) < (V 116 (((V 105 22)).toNatClampNeg)) →
              ab_J G (ac_ST L xs) l (d + 2) 217 229 [some (.ref 105), none] [] ac_SK (aa_up (aa_up (aa_up V 105 27 (V 105 22)) 105 26 (-1 : Int32)) 105 28 (0 : Int32)) ac_SK K))) ∧
        (¬ (V 116 (((V 105 22)).toNatClampNeg)) < (48 : Int32) →
          ((57 : Int32) < (V 116 (((V 105 22)).toNatClampNeg)) →
            ((V 116 (((V 105 22)).toNatClampNeg)) < (97 : Int32) →
              ((V 116 (((V 105 22)).toNatClampNeg)) = (40 : Int32) →
                ab_J G (ac_ST L xs) l (d + 2) 217 327 [some (.ref 105), some (.int (V 116 (((V 105 22)).toNatClampNeg)))] [] ac_SK (aa_up (aa_up (aa_up V 105 27 (V 105 22)) 105 26 (-1 : Int32)) 105 28 (0 : Int32)) ac_SK K) ∧
              (¬ (V 116 (((V 105 22)).toNatClampNeg)) = (40 : Int32) →
                ((V 116 (((V 105 22)).toNatClampNeg)) = (41 : Int32) →
                  ab_J G (ac_ST L xs) l (d + 2) 217 327 [some (.ref 105), some (.int (V 116 (((V 105 22)).toNatClampNeg)))] [] ac_SK (aa_up (aa_up (aa_up V 105 27 (V 105 22)) 105 26 (-1 : Int32)) 105 28 (0 : Int32)) ac_SK K) ∧
                (¬ (V 116 (((V 105 22)).toNatClampNeg)) = (41 : Int32) →
                  ((V 116 (((V 105 22)).toNatClampNeg)) = (59 : Int32) →
                    ab_J G (ac_ST L xs) l (d + 2) 217 327 [some (.ref 105), some (.int (V 116 (((V 105 22)).toNatClampNeg)))] [] ac_SK (aa_up (aa_up (aa_up V 105 27 (V 105 22)) 105 26 (-1 : Int32)) 105 28 (0 : Int32)) ac_SK K) ∧
                  (¬ (V 116 (((V 105 22)).toNatClampNeg)) = (59 : Int32) →
                    ((V 116 (((V 105 22)).toNatClampNeg)) = (43 : Int32) →
                      ab_J G (ac_ST L xs) l (d + 2) 217 327 [some (.ref 105), some (.int (V 116 (((V 105 22)).toNatClampNeg)))] [] ac_SK (aa_up (aa_up (aa_up V 105 27 (V 105 22)) 105 26 (-1 : Int32)) 105 28 (0 : Int32)) ac_SK K) ∧
                    (¬ (V 116 (((V 105 22)).toNatClampNeg)) = (43 : Int32) →
                      ((V 116 (((V 105 22)).toNatClampNeg)) = (45 : Int32) →
                        ab_J G (ac_ST L xs) l (d + 2) 217 327 [some (.ref 105), some (.int (V 116 (((V 105 22)).toNatClampNeg)))] [] ac_SK (aa_up (aa_up (aa_up V 105 27 (V 105 22)) 105 26 (-1 : Int32)) 105 28 (0 : Int32)) ac_SK K) ∧
                      (¬ (V 116 (((V 105 22)).toNatClampNeg)) = (45 : Int32) →
                        ((V 116 (((V 105 22)).toNatClampNeg)) = (42 : Int32) →
                          ab_J G (ac_ST L xs) l (d + 2) 217 327 [some (.ref 105), some (.int (V 116 (((V 105 22)).toNatClampNeg)))] [] ac_SK (aa_up (aa_up (aa_up V 105 27 (V 105 22)) 105 26 (-1 : Int32)) 105 28 (0 : Int32)) ac_SK K) ∧
                        (¬ (V 116 (((V 105 22)).toNatClampNeg)) = (42 : Int32) →
                          ((V 116 (((V 105 22)).toNatClampNeg)) = (60 : Int32) →
                            ab_J G (ac_ST L xs) l (d + 2) 217 327 [some (.ref 105), some (.int (V 116 (((V 105 22)).toNatClampNeg)))] [] ac_SK (aa_up (aa_up (aa_up V 105 27 (V 105 22)) 105 26 (-1 : Int32)) 105 28 (0 : Int32)) ac_SK K) ∧
                          (¬ (V 116 (((V 105 22)).toNatClampNeg)) = (60 : Int32) →
                            ((V 116 (((V 105 22)).toNatClampNeg)) = (61 : Int32) →
                              ab_J G (ac_ST L xs) l (d + 2) 217 327 [some (.ref 105), some (.int (V 116 (((V 105 22)).toNatClampNeg)))] [] ac_SK (aa_up (aa_up (aa_up V 105 27 (V 105 22)) 105 26 (-1 : Int32)) 105 28 (0 : Int32)) ac_SK K) ∧
                            (¬ (V 116 (((V 105 22)).toNatClampNeg)) = (61 : Int32) →
                              ab_J G (ac_ST L xs) l (d + 2) 217 342 [none, none] [] ac_SK (aa_up (aa_up (aa_up V 105 27 (V 105 22)) 105 26 (-1 : Int32)) 105 28 (0 : Int32)) ac_SK K))))))))) ∧
            (¬ (V 116 (((V 105 22)).toNatClampNeg)) < (97 : Int32) →
              ((122 : Int32) < (V 116 (((V 105 22)).toNatClampNeg)) →
                ((V 116 (((V 105 22)).toNatClampNeg)) = (40 : Int32) →
                  ab_J G (ac_ST L xs) l (d + 2) 217 327 [some (.ref 105), some (.int (V 116 (((V 105 22)).toNatClampNeg)))] [] ac_SK (aa_up (aa_up (aa_up V 105 27 (V 105 22)) 105 26 (-1 : Int32)) 105 28 (0 : Int32)) ac_SK K) ∧
                (¬ (V 116 (((V 105 22)).toNatClampNeg)) = (40 : Int32) →
                  ((V 116 (((V 105 22)).toNatClampNeg)) = (41 : Int32) →
                    ab_J G (ac_ST L xs) l (d + 2) 217 327 [some (.ref 105), some (.int (V 116 (((V 105 22)).toNatClampNeg)))] [] ac_SK (aa_up (aa_up (aa_up V 105 27 (V 105 22)) 105 26 (-1 : Int32)) 105 28 (0 : Int32)) ac_SK K) ∧
                  (¬ (V 116 (((V 105 22)).toNatClampNeg)) = (41 : Int32) →
                    ((V 116 (((V 105 22)).toNatClampNeg)) = (59 : Int32) →
                      ab_J G (ac_ST L xs) l (d + 2) 217 327 [some (.ref 105), some (.int (V 116 (((V 105 22)).toNatClampNeg)))] [] ac_SK (aa_up (aa_up (aa_up V 105 27 (V 105 22)) 105 26 (-1 : Int32)) 105 28 (0 : Int32)) ac_SK K) ∧
                    (¬ (V 116 (((V 105 22)).toNatClampNeg)) = (59 : Int32) →
                      ((V 116 (((V 105 22)).toNatClampNeg)) = (43 : Int32) →
                        ab_J G (ac_ST L xs) l (d + 2) 217 327 [some (.ref 105), some (.int (V 116 (((V 105 22)).toNatClampNeg)))] [] ac_SK (aa_up (aa_up (aa_up V 105 27 (V 105 22)) 105 26 (-1 : Int32)) 105 28 (0 : Int32)) ac_SK K) ∧
                      (¬ (V 116 (((V 105 22)).toNatClampNeg)) = (43 : Int32) →
                        ((V 116 (((V 105 22)).toNatClampNeg)) = (45 : Int32) →
                          ab_J G (ac_ST L xs) l (d + 2) 217 327 [some (.ref 105), some (.int (V 116 (((V 105 22)).toNatClampNeg)))] [] ac_SK (aa_up (aa_up (aa_up V 105 27 (V 105 22)) 105 26 (-1 : Int32)) 105 28 (0 : Int32)) ac_SK K) ∧
                        (¬ (V 116 (((V 105 22)).toNatClampNeg)) = (45 : Int32) →
                          ((V 116 (((V 105 22)).toNatClampNeg)) = (42 : Int32) →
                            ab_J G (ac_ST L xs) l (d + 2) 217 327 [some (.ref 105), some (.int (V 116 (((V 105 22)).toNatClampNeg)))] [] ac_SK (aa_up (aa_up (aa_up V 105 27 (V 105 22)) 105 26 (-1 : Int32)) 105 28 (0 : Int32)) ac_SK K) ∧
                          (¬ (V 116 (((V 105 22)).toNatClampNeg)) = (42 : Int32) →
                            ((V 116 (((V 105 22)).toNatClampNeg)) = (60 : Int32) →
                              ab_J G (ac_ST L xs) l (d + 2) 217 327 [some (.ref 105), some (.int (V 116 (((V 105 22)).toNatClampNeg)))] [] ac_SK (aa_up (aa_up (aa_up V 105 27 (V 105 22)) 105 26 (-1 : Int32)) 105 28 (0 : Int32)) ac_SK K) ∧
                            (¬ (V 116 (((V 105 22)).toNatClampNeg)) = (60 : Int32) →
                              ((V 116 (((V 105 22)).toNatClampNeg)) = (61 : Int32) →
                                ab_J G (ac_ST L xs) l (d + 2) 217 327 [some (.ref 105), some (.int (V 116 (((V 105 22)).toNatClampNeg)))] [] ac_SK (aa_up (aa_up (aa_up V 105 27 (V 105 22)) 105 26 (-1 : Int32)) 105 28 (0 : Int32)) ac_SK K) ∧
                              (¬ (V 116 (((V 105 22)).toNatClampNeg)) = (61 : Int32) →
                                ab_J G (ac_ST L xs) l (d + 2) 217 342 [none, none] [] ac_SK (aa_up (aa_up (aa_up V 105 27 (V 105 22)) 105 26 (-1 : Int32)) 105 28 (0 : Int32)) ac_SK K))))))))) ∧
              (¬ (122 : Int32) < (V 116 (((V 105 22)).toNatClampNeg)) →
                ab_J G (ac_ST L xs) l (d + 2) 217 229 [some (.ref 105), none] [] ac_SK (aa_up (aa_up (aa_up V 105 27 (V 105 22)) 105 26 (-1 : Int32)) 105 28 (0 : Int32)) ac_SK K))) ∧
          (¬ (57 : Int32) < (V 116 (((V 105 22)).toNatClampNeg)) →
            ab_J G (ac_ST L xs) l (d + 2) 217 114 [some (.ref 105), none] [] ac_SK (aa_up (aa_up (aa_up V 105 27 (V 105 22)) 105 26 (-1 : Int32)) 105 28 (0 : Int32)) ac_SK K))))) :
    ab_J G (ac_ST L xs) l (d + 2) 217 52 [some (.ref 105), none] [] ac_SK V ac_SK K := by
  refine vc_217_52 ?_
  refine ⟨fun c => ?_, fun c => ?_⟩
  · replace h := h.1 c
    refine ⟨fun c => ?_, fun c => ?_⟩
    · replace h := h.1 c
      exact h
    · replace h := h.2 c
      refine ⟨h.1, ?_⟩
      replace h := h.2
      refine vc_215_0 ?_
      refine ⟨fun c => ?_, fun c => ?_⟩
      · replace h := h.1 c
        refine ⟨Or.inl rfl, ?_⟩
        refine ⟨fun q => ?_, fun q => absurd rfl q⟩
        refine vc_214_0 ?_
        refine ⟨fun c => ?_, fun c => ?_⟩
        · replace h := h.1 c
          refine ⟨Or.inl rfl, ?_⟩
          refine ⟨fun q => ?_, fun q => absurd rfl q⟩
          exact h
        · replace h := h.2 c
          refine ⟨fun c => ?_, fun c => ?_⟩
          · replace h := h.1 c
            refine ⟨Or.inl rfl, ?_⟩
            refine ⟨fun q => ?_, fun q => absurd rfl q⟩
            exact h
          · replace h := h.2 c
            refine ⟨Or.inr rfl, ?_⟩
            refine ⟨fun q => absurd q (by decide), fun q => ?_⟩
            exact h
      · replace h := h.2 c
        refine ⟨fun c => ?_, fun c => ?_⟩
        · replace h := h.1 c
          refine ⟨Or.inl rfl, ?_⟩
          refine ⟨fun q => ?_, fun q => absurd rfl q⟩
          refine vc_214_0 ?_
          refine ⟨fun c => ?_, fun c => ?_⟩
          · replace h := h.1 c
            refine ⟨Or.inl rfl, ?_⟩
            refine ⟨fun q => ?_, fun q => absurd rfl q⟩
            exact h
          · replace h := h.2 c
            refine ⟨fun c => ?_, fun c => ?_⟩
            · replace h := h.1 c
              refine ⟨Or.inl rfl, ?_⟩
              refine ⟨fun q => ?_, fun q => absurd rfl q⟩
              exact h
            · replace h := h.2 c
              refine ⟨Or.inr rfl, ?_⟩
              refine ⟨fun q => absurd q (by decide), fun q => ?_⟩
              exact h
        · replace h := h.2 c
          refine ⟨Or.inr rfl, ?_⟩
          refine ⟨fun q => absurd q (by decide), fun q => ?_⟩
          exact h
  · replace h := h.2 c
    refine ⟨fun c => ?_, fun c => ?_⟩
    · replace h := h.1 c
      exact h
    · replace h := h.2 c
      refine ⟨h.1, ?_⟩
      replace h := h.2
      refine vc_215_0 ?_
      refine ⟨fun c => ?_, fun c => ?_⟩
      · replace h := h.1 c
        refine ⟨Or.inl rfl, ?_⟩
        refine ⟨fun q => ?_, fun q => absurd rfl q⟩
        refine vc_214_0 ?_
        refine ⟨fun c => ?_, fun c => ?_⟩
        · replace h := h.1 c
          refine ⟨Or.inl rfl, ?_⟩
          refine ⟨fun q => ?_, fun q => absurd rfl q⟩
          exact h
        · replace h := h.2 c
          refine ⟨fun c => ?_, fun c => ?_⟩
          · replace h := h.1 c
            refine ⟨Or.inl rfl, ?_⟩
            refine ⟨fun q => ?_, fun q => absurd rfl q⟩
            exact h
          · replace h := h.2 c
            refine ⟨Or.inr rfl, ?_⟩
            refine ⟨fun q => absurd q (by decide), fun q => ?_⟩
            exact h
      · replace h := h.2 c
        refine ⟨fun c => ?_, fun c => ?_⟩
        · replace h := h.1 c
          refine ⟨Or.inl rfl, ?_⟩
          refine ⟨fun q => ?_, fun q => absurd rfl q⟩
          refine vc_214_0 ?_
          refine ⟨fun c => ?_, fun c => ?_⟩
          · replace h := h.1 c
            refine ⟨Or.inl rfl, ?_⟩
            refine ⟨fun q => ?_, fun q => absurd rfl q⟩
            exact h
          · replace h := h.2 c
            refine ⟨fun c => ?_, fun c => ?_⟩
            · replace h := h.1 c
              refine ⟨Or.inl rfl, ?_⟩
              refine ⟨fun q => ?_, fun q => absurd rfl q⟩
              exact h
            · replace h := h.2 c
              refine ⟨Or.inr rfl, ?_⟩
              refine ⟨fun q => absurd q (by decide), fun q => ?_⟩
              exact h
        · replace h := h.2 c
          refine ⟨Or.inr rfl, ?_⟩
          refine ⟨fun q => absurd q (by decide), fun q => ?_⟩
          exact h

set_option maxRecDepth 20000 in
/-- FrameCountyModel reads()V, from 114 -/
theorem iv_217_114 {G : ab_G} {L : Nat} {xs : Nat → Int32} {l : Launch} {d : Nat} {V : aa_V} {K : aa_K} (h :
    ((V 105 22) < (V 105 19) →
      vp_in (V 105 22) 160 ∧
      ((V 116 (((V 105 22)).toNatClampNeg)) < (48 : Int32) →
        ab_J G (ac_ST L xs) l (d + 2) 217 197 [some (.ref 105), none] [] ac_SK V ac_SK K) ∧
      (¬ (V 116 (((V 105 22)).toNatClampNeg)) < (48 : Int32) →
        ((57 : Int32) < (V 116 (((V 105 22)).toNatClampNeg)) →
          ab_J G (ac_ST L xs) l (d + 2) 217 197 [some (.ref 105), none] [] ac_SK V ac_SK K) ∧
        (¬ (57 : Int32) < (V 116 (((V 105 22)).toNatClampNeg)) →
          (((V 105 22) - (V 105 27)) < (4 : Int32) →
            vp_in (V 105 22) 160 ∧
            ab_J G (ac_ST L xs) l (d + 2) 217 114 [some (.ref 105), none] [] ac_SK (aa_up (aa_up V 105 28 ((((10 : Int32) * (V 105 28)) + (V 116 (((V 105 22)).toNatClampNeg))) - (48 : Int32))) 105 22 ((V 105 22) + (1 : Int32))) ac_SK K) ∧
          (¬ ((V 105 22) - (V 105 27)) < (4 : Int32) →
            ab_J G (ac_ST L xs) l (d + 2) 217 114 [some (.ref 105), none] [] ac_SK (aa_up (aa_up V 105 28 (V 105 28)) 105 22 ((V 105 22) + (1 : Int32))) ac_SK K)))) ∧
    (¬ (V 105 22) < (V 105 19) →
      ab_J G (ac_ST L xs) l (d + 2) 217 197 [some (.ref 105), none] [] ac_SK V ac_SK K)) :
    ab_J G (ac_ST L xs) l (d + 2) 217 114 [some (.ref 105), none] [] ac_SK V ac_SK K := by
  refine vc_217_114 ?_
  refine ⟨fun c => ?_, fun c => ?_⟩
  · replace h := h.1 c
    refine ⟨h.1, ?_⟩
    replace h := h.2
    refine vc_215_0 ?_
    refine ⟨fun c => ?_, fun c => ?_⟩
    · replace h := h.1 c
      refine ⟨Or.inl rfl, ?_⟩
      refine ⟨fun q => ?_, fun q => absurd rfl q⟩
      exact h
    · replace h := h.2 c
      refine ⟨fun c => ?_, fun c => ?_⟩
      · replace h := h.1 c
        refine ⟨Or.inl rfl, ?_⟩
        refine ⟨fun q => ?_, fun q => absurd rfl q⟩
        exact h
      · replace h := h.2 c
        refine ⟨Or.inr rfl, ?_⟩
        refine ⟨fun q => absurd q (by decide), fun q => ?_⟩
        exact h
  · replace h := h.2 c
    exact h

set_option maxRecDepth 20000 in
/-- FrameCountyModel reads()V, from 197 -/
theorem iv_217_197 {G : ab_G} {L : Nat} {xs : Nat → Int32} {l : Launch} {d : Nat} {V : aa_V} {K : aa_K} (h :
    ((4 : Int32) < ((V 105 22) - (V 105 27)) →
      ab_J G (ac_ST L xs) l (d + 2) 217 342 [none, none] [] ac_SK (aa_up V 105 26 (-1 : Int32)) ac_SK K) ∧
    (¬ (4 : Int32) < ((V 105 22) - (V 105 27)) →
      ab_J G (ac_ST L xs) l (d + 2) 217 342 [none, none] [] ac_SK (aa_up V 105 26 (1 : Int32)) ac_SK K)) :
    ab_J G (ac_ST L xs) l (d + 2) 217 197 [some (.ref 105), none] [] ac_SK V ac_SK K := by
  refine vc_217_197 ?_
  exact h

set_option maxRecDepth 20000 in
/-- FrameCountyModel reads()V, from 229 -/
theorem iv_217_229 {G : ab_G} {L : Nat} {xs : Nat → Int32} {l : Launch} {d : Nat} {V : aa_V} {K : aa_K} (h :
    ((V 105 22) < (V 105 19) →
      vp_in (V 105 22) 160 ∧
      ((V 116 (((V 105 22)).toNatClampNeg)) < (97 : Int32) →
        ab_J G (ac_ST L xs) l (d + 2) 217 268 [some (.ref 105), none] [] ac_SK V ac_SK K) ∧
      (¬ (V 116 (((V 105 22)).toNatClampNeg)) < (97 : Int32) →
        ((122 : Int32) < (V 116 (((V 105 22)).toNatClampNeg)) →
          ab_J G (ac_ST L xs) l (d + 2) 217 268 [some (.ref 105), none] [] ac_SK V ac_SK K) ∧
        (¬ (122 : Int32) < (V 116 (((V 105 22)).toNatClampNeg)) →
          ab_J G (ac_ST L xs) l (d + 2) 217 229 [some (.ref 105), none] [] ac_SK (aa_up V 105 22 ((V 105 22) + (1 : Int32))) ac_SK K))) ∧
    (¬ (V 105 22) < (V 105 19) →
      ab_J G (ac_ST L xs) l (d + 2) 217 268 [some (.ref 105), none] [] ac_SK V ac_SK K)) :
    ab_J G (ac_ST L xs) l (d + 2) 217 229 [some (.ref 105), none] [] ac_SK V ac_SK K := by
  refine vc_217_229 ?_
  refine ⟨fun c => ?_, fun c => ?_⟩
  · replace h := h.1 c
    refine ⟨h.1, ?_⟩
    replace h := h.2
    refine vc_214_0 ?_
    refine ⟨fun c => ?_, fun c => ?_⟩
    · replace h := h.1 c
      refine ⟨Or.inl rfl, ?_⟩
      refine ⟨fun q => ?_, fun q => absurd rfl q⟩
      exact h
    · replace h := h.2 c
      refine ⟨fun c => ?_, fun c => ?_⟩
      · replace h := h.1 c
        refine ⟨Or.inl rfl, ?_⟩
        refine ⟨fun q => ?_, fun q => absurd rfl q⟩
        exact h
      · replace h := h.2 c
        refine ⟨Or.inr rfl, ?_⟩
        refine ⟨fun q => absurd q (by decide), fun q => ?_⟩
        exact h
  · replace h := h.2 c
    exact h

set_option maxRecDepth 20000 in
/-- FrameCountyModel reads()V, from 268 -/
theorem iv_217_268 {G : ab_G} {L : Nat} {xs : Nat → Int32} {l : Launch} {d : Nat} {V : aa_V} {K : aa_K} (h :
    ab_E G (ac_ST L xs) l (d + 1) ac_SK 218 [.ref 105] V (aa_rI (fun x1 V1 =>
      ab_J G (ac_ST L xs) l (d + 2) 217 342 [none, none] [] ac_SK (aa_up V1 105 26 x1) ac_SK K))) :
    ab_J G (ac_ST L xs) l (d + 2) 217 268 [some (.ref 105), none] [] ac_SK V ac_SK K := by
  refine vc_217_268 ?_
  exact h

set_option maxRecDepth 20000 in
/-- FrameCountyModel reads()V, from 327 -/
theorem iv_217_327 {G : ab_G} {L : Nat} {xs : Nat → Int32} {l : Launch} {d : Nat} {i1 : Int32} {V : aa_V} {K : aa_K} (h :
    ab_J G (ac_ST L xs) l (d + 2) 217 342 [none, none] [] ac_SK (aa_up (aa_up V 105 26 i1) 105 22 ((V 105 22) + (1 : Int32))) ac_SK K) :
    ab_J G (ac_ST L xs) l (d + 2) 217 327 [some (.ref 105), some (.int i1)] [] ac_SK V ac_SK K := by
  refine vc_217_327 ?_
  exact h

set_option maxRecDepth 20000 in
/-- FrameCountyModel reads()V, from 342 -/
theorem iv_217_342 {G : ab_G} {L : Nat} {xs : Nat → Int32} {l : Launch} {d : Nat} {V : aa_V} {K : aa_K} (h :
    K none V) :
    ab_J G (ac_ST L xs) l (d + 2) 217 342 [none, none] [] ac_SK V ac_SK K := by
  refine vc_217_342 ?_
  exact h

set_option maxRecDepth 20000 in
/-- FrameCountyModel word()I, from 0 -/
theorem iv_218_0 {G : ab_G} {L : Nat} {xs : Nat → Int32} {l : Launch} {d : Nat} {V : aa_V} {K : aa_K} (h :
    ab_E G (ac_ST L xs) l (d + 1) ac_SK 216 [.ref 105, .long (1802071652 : Int64), .int (4 : Int32)] V (aa_rI (fun x1 V1 =>
      (x1 = 0 →
        ab_E G (ac_ST L xs) l (d + 1) ac_SK 216 [.ref 105, .long (512869299304 : Int64), .int (5 : Int32)] V1 (aa_rI (fun x2 V2 =>
          (x2 = 0 →
            ab_E G (ac_ST L xs) l (d + 1) ac_SK 216 [.ref 105, .long (2003133803 : Int64), .int (4 : Int32)] V2 (aa_rI (fun x3 V3 =>
              (x3 = 0 →
                ab_E G (ac_ST L xs) l (d + 1) ac_SK 216 [.ref 105, .long (1919250036 : Int64), .int (4 : Int32)] V3 (aa_rI (fun x4 V4 =>
                  (x4 = 0 →
                    ab_E G (ac_ST L xs) l (d + 1) ac_SK 216 [.ref 105, .long (512970876019 : Int64), .int (5 : Int32)] V4 (aa_rI (fun x5 V5 =>
                      (x5 = 0 →
                        ab_E G (ac_ST L xs) l (d + 1) ac_SK 216 [.ref 105, .long (1885432164 : Int64), .int (4 : Int32)] V5 (aa_rI (fun x6 V6 =>
                          (x6 = 0 →
                            ab_E G (ac_ST L xs) l (d + 1) ac_SK 216 [.ref 105, .long (28530 : Int64), .int (2 : Int32)] (aa_up V6 105 28 (-1 : Int32)) (aa_rI (fun x7 V7 =>
                              (x7 = 0 →
                                ab_E G (ac_ST L xs) l (d + 1) ac_SK 216 [.ref 105, .long (6385252 : Int64), .int (3 : Int32)] V7 (aa_rI (fun x8 V8 =>
                                  (x8 = 0 →
                                    ab_E G (ac_ST L xs) l (d + 1) ac_SK 216 [.ref 105, .long (7237492 : Int64), .int (3 : Int32)] V8 (aa_rI (fun x9 V9 =>
                                      (x9 = 0 →
                                        ab_E G (ac_ST L xs) l (d + 1) ac_SK 216 [.ref 105, .long (482955846501 : Int64), .int (5 : Int32)] V9 (aa_rI (fun x10 V10 =>
                                          (x10 = 0 →
                                            ab_E G (ac_ST L xs) l (d + 1) ac_SK 216 [.ref 105, .long (1752132708 : Int64), .int (4 : Int32)] V10 (aa_rI (fun x11 V11 =>
                                              (x11 = 0 →
                                                K (some (.int (-1 : Int32))) V11) ∧
                                              (¬ x11 = 0 →
                                                K (some (.int (7 : Int32))) V11)))) ∧
                                          (¬ x10 = 0 →
                                            K (some (.int (6 : Int32))) V10)))) ∧
                                      (¬ x9 = 0 →
                                        K (some (.int (5 : Int32))) V9)))) ∧
                                  (¬ x8 = 0 →
                                    K (some (.int (4 : Int32))) V8)))) ∧
                              (¬ x7 = 0 →
                                K (some (.int (3 : Int32))) V7)))) ∧
                          (¬ x6 = 0 →
                            K (some (.int (2 : Int32))) (aa_up V6 105 28 (5 : Int32)))))) ∧
                      (¬ x5 = 0 →
                        K (some (.int (2 : Int32))) (aa_up V5 105 28 (4 : Int32)))))) ∧
                  (¬ x4 = 0 →
                    K (some (.int (2 : Int32))) (aa_up V4 105 28 (3 : Int32)))))) ∧
              (¬ x3 = 0 →
                K (some (.int (2 : Int32))) (aa_up V3 105 28 (2 : Int32)))))) ∧
          (¬ x2 = 0 →
            K (some (.int (2 : Int32))) (aa_up V2 105 28 (1 : Int32)))))) ∧
      (¬ x1 = 0 →
        K (some (.int (2 : Int32))) (aa_up V1 105 28 (0 : Int32)))))) :
    ab_E G (ac_ST L xs) l (d + 2) ac_SK 218 [.ref 105] V K := by
  refine vc_218_0 ?_
  refine ab_EmI (fun x1 V1 h => ?_) h
  refine ⟨fun c => ?_, fun c => ?_⟩
  · replace h := h.1 c
    refine ab_EmI (fun x2 V2 h => ?_) h
    refine ⟨fun c => ?_, fun c => ?_⟩
    · replace h := h.1 c
      refine ab_EmI (fun x3 V3 h => ?_) h
      refine ⟨fun c => ?_, fun c => ?_⟩
      · replace h := h.1 c
        refine ab_EmI (fun x4 V4 h => ?_) h
        refine ⟨fun c => ?_, fun c => ?_⟩
        · replace h := h.1 c
          refine ab_EmI (fun x5 V5 h => ?_) h
          refine ⟨fun c => ?_, fun c => ?_⟩
          · replace h := h.1 c
            refine ab_EmI (fun x6 V6 h => ?_) h
            refine ⟨fun c => ?_, fun c => ?_⟩
            · replace h := h.1 c
              refine ⟨fun q => ?_, fun q => absurd (by decide) q⟩
              exact h
            · replace h := h.2 c
              refine ⟨fun q => absurd q (by decide), fun q => ?_⟩
              exact h
          · replace h := h.2 c
            refine ⟨fun q => absurd q (by decide), fun q => ?_⟩
            exact h
        · replace h := h.2 c
          refine ⟨fun q => absurd q (by decide), fun q => ?_⟩
          exact h
      · replace h := h.2 c
        refine ⟨fun q => absurd q (by decide), fun q => ?_⟩
        exact h
    · replace h := h.2 c
      refine ⟨fun q => absurd q (by decide), fun q => ?_⟩
      exact h
  · replace h := h.2 c
    refine ⟨fun q => absurd q (by decide), fun q => ?_⟩
    exact h

set_option maxRecDepth 20000 in
/-- FrameCountyModel works(I)V, from 0 -/
theorem iv_220_0 {G : ab_G} {L : Nat} {xs : Nat → Int32} {l : Launch} {d : Nat} {i1 : Int32} {V : aa_V} {K : aa_K} (h :
    (0 < (V 105 24) →
      vp_in ((V 105 24) - (1 : Int32)) 200 ∧
      ((V 121 ((((V 105 24) - (1 : Int32))).toNatClampNeg)) < i1 →
        K none V) ∧
      (¬ (V 121 ((((V 105 24) - (1 : Int32))).toNatClampNeg)) < i1 →
        vp_in ((V 105 24) - (1 : Int32)) 200 ∧
        vp_in (V 105 25) 2000 ∧
        vp_in (V 105 25) 2000 ∧
        vp_in ((V 105 24) - (1 : Int32)) 200 ∧
        ((V 121 ((((V 105 24) - (1 : Int32))).toNatClampNeg)) = (4 : Int32) →
          ab_J G (ac_ST L xs) l (d + 2) 220 0 [some (.ref 105), some (.int i1)] [] ac_SK (aa_up (aa_up (aa_up (aa_up (aa_up V 105 24 ((V 105 24) - (1 : Int32))) 117 (((V 105 25)).toNatClampNeg) (V 121 ((((V 105 24) - (1 : Int32))).toNatClampNeg))) 118 (((V 105 25)).toNatClampNeg) (0 : Int32)) 105 25 ((V 105 25) + (1 : Int32))) 105 23 ((V 105 23) - (1 : Int32))) ac_SK K) ∧
        (¬ (V 121 ((((V 105 24) - (1 : Int32))).toNatClampNeg)) = (4 : Int32) →
          vp_in ((V 105 24) - (1 : Int32)) 200 ∧
          ((V 121 ((((V 105 24) - (1 : Int32))).toNatClampNeg)) = (10 : Int32) →
            ab_J G (ac_ST L xs) l (d + 2) 220 0 [some (.ref 105), some (.int i1)] [] ac_SK (aa_up (aa_up (aa_up (aa_up (aa_up V 105 24 ((V 105 24) - (1 : Int32))) 117 (((V 105 25)).toNatClampNeg) (V 121 ((((V 105 24) - (1 : Int32))).toNatClampNeg))) 118 (((V 105 25)).toNatClampNeg) (0 : Int32)) 105 25 ((V 105 25) + (1 : Int32))) 105 23 ((V 105 23) - (1 : Int32))) ac_SK K) ∧
          (¬ (V 121 ((((V 105 24) - (1 : Int32))).toNatClampNeg)) = (10 : Int32) →
            ab_J G (ac_ST L xs) l (d + 2) 220 0 [some (.ref 105), some (.int i1)] [] ac_SK (aa_up (aa_up (aa_up (aa_up V 105 24 ((V 105 24) - (1 : Int32))) 117 (((V 105 25)).toNatClampNeg) (V 121 ((((V 105 24) - (1 : Int32))).toNatClampNeg))) 118 (((V 105 25)).toNatClampNeg) (0 : Int32)) 105 25 ((V 105 25) + (1 : Int32))) ac_SK K)))) ∧
    (¬ 0 < (V 105 24) →
      K none V)) :
    ab_E G (ac_ST L xs) l (d + 2) ac_SK 220 [.ref 105, .int i1] V K := by
  refine vc_220_0 ?_
  refine ⟨fun c => ?_, fun c => ?_⟩
  · replace h := h.1 c
    refine ⟨h.1, ?_⟩
    replace h := h.2
    refine ⟨fun c => ?_, fun c => ?_⟩
    · replace h := h.1 c
      exact h
    · replace h := h.2 c
      refine ⟨h.1, ?_⟩
      replace h := h.2
      refine vc_211_0 ?_
      refine ⟨h.1, ?_⟩
      replace h := h.2
      refine ⟨h.1, ?_⟩
      replace h := h.2
      refine ⟨h.1, ?_⟩
      replace h := h.2
      exact h
  · replace h := h.2 c
    exact h

set_option maxRecDepth 20000 in
/-- FrameCountyModel parses()Z, from 0 -/
theorem iv_221_0 {G : ab_G} {L : Nat} {xs : Nat → Int32} {l : Launch} {d : Nat} {V : aa_V} {K : aa_K} (h :
    ab_J G (ac_ST L xs) l (d + 2) 221 12 [some (.ref 105), some (.int (1 : Int32)), none] [] ac_SK (aa_up (aa_up V 105 24 (0 : Int32)) 105 23 (0 : Int32)) ac_SK K) :
    ab_E G (ac_ST L xs) l (d + 2) ac_SK 221 [.ref 105] V K := by
  refine vc_221_0 ?_
  exact h

set_option maxRecDepth 20000 in
/-- FrameCountyModel parses()Z, from 12 -/
theorem iv_221_12 {G : ab_G} {L : Nat} {xs : Nat → Int32} {l : Launch} {d : Nat} {i1 : Int32} {V : aa_V} {K : aa_K} (h :
    ab_J G (ac_ST L xs) l (d + 2) 221 14 [some (.ref 105), some (.int i1), some (.int (0 : Int32))] [] ac_SK V ac_SK K) :
    ab_J G (ac_ST L xs) l (d + 2) 221 12 [some (.ref 105), some (.int i1), none] [] ac_SK V ac_SK K := by
  refine vc_221_12 ?_
  exact h

set_option maxRecDepth 20000 in
/-- FrameCountyModel parses()Z, from 14 -/
theorem iv_221_14 {G : ab_G} {L : Nat} {xs : Nat → Int32} {l : Launch} {d : Nat} {i1 : Int32} {i2 : Int32} {V : aa_V} {K : aa_K} (h :
    (i2 = 0 →
      ab_E G (ac_ST L xs) l (d + 1) ac_SK 217 [.ref 105] V (aa_rV (fun V1 =>
        ((V1 105 26) = (1 : Int32) →
          ab_J G (ac_ST L xs) l (d + 2) 221 38 [some (.ref 105), some (.int i1), none] [] ac_SK V1 ac_SK K) ∧
        (¬ (V1 105 26) = (1 : Int32) →
          ((V1 105 26) = (2 : Int32) →
            ab_J G (ac_ST L xs) l (d + 2) 221 38 [some (.ref 105), some (.int i1), none] [] ac_SK V1 ac_SK K) ∧
          (¬ (V1 105 26) = (2 : Int32) →
            ((V1 105 26) = (40 : Int32) →
              ab_J G (ac_ST L xs) l (d + 2) 221 87 [some (.ref 105), none, some (.int i2)] [] ac_SK V1 ac_SK K) ∧
            (¬ (V1 105 26) = (40 : Int32) →
              ((V1 105 26) = (45 : Int32) →
                ab_J G (ac_ST L xs) l (d + 2) 221 87 [some (.ref 105), none, some (.int i2)] [] ac_SK V1 ac_SK K) ∧
              (¬ (V1 105 26) = (45 : Int32) →
                ((V1 105 26) = (5 : Int32) →
                  (i1 = 0 →
                    ab_J G (ac_ST L xs) l (d + 2) 221 157 [none, none, none] [] ac_SK V1 ac_SK K) ∧
                  (¬ i1 = 0 →
                    ab_J G (ac_ST L xs) l (d + 2) 221 87 [some (.ref 105), none, some (.int i2)] [] ac_SK V1 ac_SK K)) ∧
                (¬ (V1 105 26) = (5 : Int32) →
                  ab_J G (ac_ST L xs) l (d + 2) 221 157 [none, none, none] [] ac_SK V1 ac_SK K)))))))) ∧
    (¬ i2 = 0 →
      ab_E G (ac_ST L xs) l (d + 1) ac_SK 220 [.ref 105, .int (10 : Int32)] V (aa_rV (fun V1 =>
        ab_E G (ac_ST L xs) l (d + 1) ac_SK 217 [.ref 105] V1 (aa_rV (fun V2 =>
          ab_J G (ac_ST L xs) l (d + 2) 221 169 [some (.ref 105), none, none] [] ac_SK V2 ac_SK K)))))) :
    ab_J G (ac_ST L xs) l (d + 2) 221 14 [some (.ref 105), some (.int i1), some (.int i2)] [] ac_SK V ac_SK K := by
  refine vc_221_14 ?_
  exact h

set_option maxRecDepth 20000 in
/-- FrameCountyModel parses()Z, from 38 -/
theorem iv_221_38 {G : ab_G} {L : Nat} {xs : Nat → Int32} {l : Launch} {d : Nat} {i1 : Int32} {V : aa_V} {K : aa_K} (h :
    vp_in (V 105 25) 2000 ∧
    vp_in (V 105 25) 2000 ∧
    ab_J G (ac_ST L xs) l (d + 2) 221 14 [some (.ref 105), some (.int i1), some (.int (1 : Int32))] [] ac_SK (aa_up (aa_up (aa_up V 117 (((V 105 25)).toNatClampNeg) ((V 105 26) - (1 : Int32))) 118 (((V 105 25)).toNatClampNeg) (V 105 28)) 105 25 ((V 105 25) + (1 : Int32))) ac_SK K) :
    ab_J G (ac_ST L xs) l (d + 2) 221 38 [some (.ref 105), some (.int i1), none] [] ac_SK V ac_SK K := by
  refine vc_221_38 ?_
  refine vc_211_0 ?_
  refine ⟨h.1, ?_⟩
  replace h := h.2
  refine ⟨h.1, ?_⟩
  replace h := h.2
  exact h

set_option maxRecDepth 20000 in
/-- FrameCountyModel parses()Z, from 87 -/
theorem iv_221_87 {G : ab_G} {L : Nat} {xs : Nat → Int32} {l : Launch} {d : Nat} {i2 : Int32} {V : aa_V} {K : aa_K} (h :
    ((V 105 23) = (5 : Int32) →
      K (some (.int (0 : Int32))) V) ∧
    (¬ (V 105 23) = (5 : Int32) →
      ((V 105 26) = (40 : Int32) →
        vp_in (V 105 24) 200 ∧
        ((V 105 26) = (45 : Int32) →
          ab_J G (ac_ST L xs) l (d + 2) 221 14 [some (.ref 105), some (.int (0 : Int32)), some (.int i2)] [] ac_SK (aa_up (aa_up (aa_up V 105 23 ((V 105 23) + (1 : Int32))) 121 (((V 105 24)).toNatClampNeg) (1 : Int32)) 105 24 ((V 105 24) + (1 : Int32))) ac_SK K) ∧
        (¬ (V 105 26) = (45 : Int32) →
          ab_J G (ac_ST L xs) l (d + 2) 221 14 [some (.ref 105), some (.int (1 : Int32)), some (.int i2)] [] ac_SK (aa_up (aa_up (aa_up V 105 23 ((V 105 23) + (1 : Int32))) 121 (((V 105 24)).toNatClampNeg) (1 : Int32)) 105 24 ((V 105 24) + (1 : Int32))) ac_SK K)) ∧
      (¬ (V 105 26) = (40 : Int32) →
        ((V 105 26) = (45 : Int32) →
          vp_in (V 105 24) 200 ∧
          ((V 105 26) = (45 : Int32) →
            ab_J G (ac_ST L xs) l (d + 2) 221 14 [some (.ref 105), some (.int (0 : Int32)), some (.int i2)] [] ac_SK (aa_up (aa_up (aa_up V 105 23 ((V 105 23) + (1 : Int32))) 121 (((V 105 24)).toNatClampNeg) (10 : Int32)) 105 24 ((V 105 24) + (1 : Int32))) ac_SK K) ∧
          (¬ (V 105 26) = (45 : Int32) →
            ab_J G (ac_ST L xs) l (d + 2) 221 14 [some (.ref 105), some (.int (1 : Int32)), some (.int i2)] [] ac_SK (aa_up (aa_up (aa_up V 105 23 ((V 105 23) + (1 : Int32))) 121 (((V 105 24)).toNatClampNeg) (10 : Int32)) 105 24 ((V 105 24) + (1 : Int32))) ac_SK K)) ∧
        (¬ (V 105 26) = (45 : Int32) →
          vp_in (V 105 24) 200 ∧
          ((V 105 26) = (45 : Int32) →
            ab_J G (ac_ST L xs) l (d + 2) 221 14 [some (.ref 105), some (.int (0 : Int32)), some (.int i2)] [] ac_SK (aa_up (aa_up (aa_up V 105 23 ((V 105 23) + (1 : Int32))) 121 (((V 105 24)).toNatClampNeg) (4 : Int32)) 105 24 ((V 105 24) + (1 : Int32))) ac_SK K) ∧
          (¬ (V 105 26) = (45 : Int32) →
            ab_J G (ac_ST L xs) l (d + 2) 221 14 [some (.ref 105), some (.int (1 : Int32)), some (.int i2)] [] ac_SK (aa_up (aa_up (aa_up V 105 23 ((V 105 23) + (1 : Int32))) 121 (((V 105 24)).toNatClampNeg) (4 : Int32)) 105 24 ((V 105 24) + (1 : Int32))) ac_SK K))))) :
    ab_J G (ac_ST L xs) l (d + 2) 221 87 [some (.ref 105), none, some (.int i2)] [] ac_SK V ac_SK K := by
  refine vc_221_87 ?_
  refine ⟨fun c => ?_, fun c => ?_⟩
  · replace h := h.1 c
    exact ⟨Or.inl rfl, h⟩
  · replace h := h.2 c
    refine ⟨fun c => ?_, fun c => ?_⟩
    · replace h := h.1 c
      refine vc_219_0 ?_
      refine ⟨h.1, ?_⟩
      replace h := h.2
      exact h
    · replace h := h.2 c
      refine ⟨fun c => ?_, fun c => ?_⟩
      · replace h := h.1 c
        refine vc_219_0 ?_
        refine ⟨h.1, ?_⟩
        replace h := h.2
        exact h
      · replace h := h.2 c
        refine vc_219_0 ?_
        refine ⟨h.1, ?_⟩
        replace h := h.2
        exact h

set_option maxRecDepth 20000 in
/-- FrameCountyModel parses()Z, from 157 -/
theorem iv_221_157 {G : ab_G} {L : Nat} {xs : Nat → Int32} {l : Launch} {d : Nat} {V : aa_V} {K : aa_K} (h :
    K (some (.int (0 : Int32))) V) :
    ab_J G (ac_ST L xs) l (d + 2) 221 157 [none, none, none] [] ac_SK V ac_SK K := by
  refine vc_221_157 ?_
  exact ⟨Or.inl rfl, h⟩

set_option maxRecDepth 20000 in
/-- FrameCountyModel parses()Z, from 169 -/
theorem iv_221_169 {G : ab_G} {L : Nat} {xs : Nat → Int32} {l : Launch} {d : Nat} {V : aa_V} {K : aa_K} (h :
    ((V 105 26) = (41 : Int32) →
      ab_E G (ac_ST L xs) l (d + 1) ac_SK 220 [.ref 105, .int (2 : Int32)] V (aa_rV (fun V1 =>
        ((V1 105 24) = 0 →
          K (some (.int (0 : Int32))) V1) ∧
        (¬ (V1 105 24) = 0 →
          ab_E G (ac_ST L xs) l (d + 1) ac_SK 220 [.ref 105, .int (10 : Int32)] (aa_up (aa_up V1 105 24 ((V1 105 24) - (1 : Int32))) 105 23 ((V1 105 23) - (1 : Int32))) (aa_rV (fun V2 =>
            ab_E G (ac_ST L xs) l (d + 1) ac_SK 217 [.ref 105] V2 (aa_rV (fun V3 =>
              ab_J G (ac_ST L xs) l (d + 2) 221 169 [some (.ref 105), none, none] [] ac_SK V3 ac_SK K)))))))) ∧
    (¬ (V 105 26) = (41 : Int32) →
      ((V 105 26) = (59 : Int32) →
        ab_E G (ac_ST L xs) l (d + 1) ac_SK 220 [.ref 105, .int (2 : Int32)] V (aa_rV (fun V1 =>
          ((V1 105 24) = 0 →
            K (some (.int (1 : Int32))) V1) ∧
          (¬ (V1 105 24) = 0 →
            K (some (.int (0 : Int32))) V1)))) ∧
      (¬ (V 105 26) = (59 : Int32) →
        ((V 105 26) = (42 : Int32) →
          ab_J G (ac_ST L xs) l (d + 2) 221 315 [some (.ref 105), none, none] [] ac_SK V ac_SK K) ∧
        (¬ (V 105 26) = (42 : Int32) →
          ((V 105 26) = (43 : Int32) →
            ab_J G (ac_ST L xs) l (d + 2) 221 315 [some (.ref 105), none, none] [] ac_SK V ac_SK K) ∧
          (¬ (V 105 26) = (43 : Int32) →
            ((V 105 26) = (45 : Int32) →
              ab_J G (ac_ST L xs) l (d + 2) 221 315 [some (.ref 105), none, none] [] ac_SK V ac_SK K) ∧
            (¬ (V 105 26) = (45 : Int32) →
              ((V 105 26) = (60 : Int32) →
                ab_J G (ac_ST L xs) l (d + 2) 221 315 [some (.ref 105), none, none] [] ac_SK V ac_SK K) ∧
              (¬ (V 105 26) = (60 : Int32) →
                ((V 105 26) = (61 : Int32) →
                  ab_J G (ac_ST L xs) l (d + 2) 221 315 [some (.ref 105), none, none] [] ac_SK V ac_SK K) ∧
                (¬ (V 105 26) = (61 : Int32) →
                  ((V 105 26) = (3 : Int32) →
                    ab_J G (ac_ST L xs) l (d + 2) 221 315 [some (.ref 105), none, none] [] ac_SK V ac_SK K) ∧
                  (¬ (V 105 26) = (3 : Int32) →
                    ((V 105 26) = (4 : Int32) →
                      ab_J G (ac_ST L xs) l (d + 2) 221 315 [some (.ref 105), none, none] [] ac_SK V ac_SK K) ∧
                    (¬ (V 105 26) = (4 : Int32) →
                      K (some (.int (0 : Int32))) V)))))))))) :
    ab_J G (ac_ST L xs) l (d + 2) 221 169 [some (.ref 105), none, none] [] ac_SK V ac_SK K := by
  refine vc_221_169 ?_
  refine ⟨fun c => ?_, fun c => ?_⟩
  · replace h := h.1 c
    refine ab_EmV (fun V1 h => ?_) h
    refine ⟨fun c => ?_, fun c => ?_⟩
    · replace h := h.1 c
      exact ⟨Or.inl rfl, h⟩
    · replace h := h.2 c
      exact h
  · replace h := h.2 c
    refine ⟨fun c => ?_, fun c => ?_⟩
    · replace h := h.1 c
      refine ab_EmV (fun V1 h => ?_) h
      refine ⟨fun c => ?_, fun c => ?_⟩
      · replace h := h.1 c
        exact ⟨Or.inr rfl, h⟩
      · replace h := h.2 c
        exact ⟨Or.inl rfl, h⟩
    · replace h := h.2 c
      refine ⟨fun c => ?_, fun c => ?_⟩
      · replace h := h.1 c
        exact h
      · replace h := h.2 c
        refine ⟨fun c => ?_, fun c => ?_⟩
        · replace h := h.1 c
          exact h
        · replace h := h.2 c
          refine ⟨fun c => ?_, fun c => ?_⟩
          · replace h := h.1 c
            exact h
          · replace h := h.2 c
            refine ⟨fun c => ?_, fun c => ?_⟩
            · replace h := h.1 c
              exact h
            · replace h := h.2 c
              refine ⟨fun c => ?_, fun c => ?_⟩
              · replace h := h.1 c
                exact h
              · replace h := h.2 c
                refine ⟨fun c => ?_, fun c => ?_⟩
                · replace h := h.1 c
                  exact h
                · replace h := h.2 c
                  refine ⟨fun c => ?_, fun c => ?_⟩
                  · replace h := h.1 c
                    exact h
                  · replace h := h.2 c
                    exact ⟨Or.inl rfl, h⟩

set_option maxRecDepth 20000 in
/-- FrameCountyModel parses()Z, from 315 -/
theorem iv_221_315 {G : ab_G} {L : Nat} {xs : Nat → Int32} {l : Launch} {d : Nat} {V : aa_V} {K : aa_K} (h :
    ((V 105 26) = (3 : Int32) →
      ab_J G (ac_ST L xs) l (d + 2) 221 331 [some (.ref 105), none, none] [] ac_SK V ac_SK K) ∧
    (¬ (V 105 26) = (3 : Int32) →
      ((V 105 26) = (4 : Int32) →
        ab_J G (ac_ST L xs) l (d + 2) 221 331 [some (.ref 105), none, none] [] ac_SK V ac_SK K) ∧
      (¬ (V 105 26) = (4 : Int32) →
        ((V 105 26) = (42 : Int32) →
          ab_E G (ac_ST L xs) l (d + 1) ac_SK 220 [.ref 105, .int (9 : Int32)] V (aa_rV (fun V1 =>
            vp_in (V1 105 24) 200 ∧
            ab_J G (ac_ST L xs) l (d + 2) 221 528 [some (.ref 105), some (.int (0 : Int32)), none] [] ac_SK (aa_up (aa_up V1 121 (((V1 105 24)).toNatClampNeg) (9 : Int32)) 105 24 ((V1 105 24) + (1 : Int32))) ac_SK K))) ∧
        (¬ (V 105 26) = (42 : Int32) →
          ((V 105 26) = (43 : Int32) →
            ab_J G (ac_ST L xs) l (d + 2) 221 379 [some (.ref 105), some (.int (0 : Int32)), none] [] ac_SK V ac_SK K) ∧
          (¬ (V 105 26) = (43 : Int32) →
            ((V 105 26) = (45 : Int32) →
              ab_J G (ac_ST L xs) l (d + 2) 221 379 [some (.ref 105), some (.int (0 : Int32)), none] [] ac_SK V ac_SK K) ∧
            (¬ (V 105 26) = (45 : Int32) →
              ((V 105 26) = (60 : Int32) →
                ab_J G (ac_ST L xs) l (d + 2) 221 426 [some (.ref 105), some (.int (0 : Int32)), none] [] ac_SK V ac_SK K) ∧
              (¬ (V 105 26) = (60 : Int32) →
                ((V 105 26) = (61 : Int32) →
                  ab_J G (ac_ST L xs) l (d + 2) 221 426 [some (.ref 105), some (.int (0 : Int32)), none] [] ac_SK V ac_SK K) ∧
                (¬ (V 105 26) = (61 : Int32) →
                  ((V 105 26) = (4 : Int32) →
                    ab_E G (ac_ST L xs) l (d + 1) ac_SK 220 [.ref 105, .int (3 : Int32)] V (aa_rV (fun V1 =>
                      ((V1 105 26) = (4 : Int32) →
                        vp_in (V1 105 24) 200 ∧
                        ab_J G (ac_ST L xs) l (d + 2) 221 528 [some (.ref 105), some (.int (0 : Int32)), none] [] ac_SK (aa_up (aa_up V1 121 (((V1 105 24)).toNatClampNeg) (3 : Int32)) 105 24 ((V1 105 24) + (1 : Int32))) ac_SK K) ∧
                      (¬ (V1 105 26) = (4 : Int32) →
                        vp_in (V1 105 24) 200 ∧
                        ab_J G (ac_ST L xs) l (d + 2) 221 528 [some (.ref 105), some (.int (0 : Int32)), none] [] ac_SK (aa_up (aa_up V1 121 (((V1 105 24)).toNatClampNeg) (2 : Int32)) 105 24 ((V1 105 24) + (1 : Int32))) ac_SK K)))) ∧
                  (¬ (V 105 26) = (4 : Int32) →
                    ab_E G (ac_ST L xs) l (d + 1) ac_SK 220 [.ref 105, .int (2 : Int32)] V (aa_rV (fun V1 =>
                      ((V1 105 26) = (4 : Int32) →
                        vp_in (V1 105 24) 200 ∧
                        ab_J G (ac_ST L xs) l (d + 2) 221 528 [some (.ref 105), some (.int (0 : Int32)), none] [] ac_SK (aa_up (aa_up V1 121 (((V1 105 24)).toNatClampNeg) (3 : Int32)) 105 24 ((V1 105 24) + (1 : Int32))) ac_SK K) ∧
                      (¬ (V1 105 26) = (4 : Int32) →
                        vp_in (V1 105 24) 200 ∧
                        ab_J G (ac_ST L xs) l (d + 2) 221 528 [some (.ref 105), some (.int (0 : Int32)), none] [] ac_SK (aa_up (aa_up V1 121 (((V1 105 24)).toNatClampNeg) (2 : Int32)) 105 24 ((V1 105 24) + (1 : Int32))) ac_SK K)))))))))))) :
    ab_J G (ac_ST L xs) l (d + 2) 221 315 [some (.ref 105), none, none] [] ac_SK V ac_SK K := by
  refine vc_221_315 ?_
  refine ⟨fun c => ?_, fun c => ?_⟩
  · replace h := h.1 c
    exact h
  · replace h := h.2 c
    refine ⟨fun c => ?_, fun c => ?_⟩
    · replace h := h.1 c
      exact h
    · replace h := h.2 c
      refine ⟨fun c => ?_, fun c => ?_⟩
      · replace h := h.1 c
        refine ab_EmV (fun V1 h => ?_) h
        refine vc_219_0 ?_
        refine ⟨h.1, ?_⟩
        replace h := h.2
        exact h
      · replace h := h.2 c
        refine ⟨fun c => ?_, fun c => ?_⟩
        · replace h := h.1 c
          exact h
        · replace h := h.2 c
          refine ⟨fun c => ?_, fun c => ?_⟩
          · replace h := h.1 c
            exact h
          · replace h := h.2 c
            refine ⟨fun c => ?_, fun c => ?_⟩
            · replace h := h.1 c
              exact h
            · replace h := h.2 c
              refine ⟨fun c => ?_, fun c => ?_⟩
              · replace h := h.1 c
                exact h
              · replace h := h.2 c
                refine ⟨fun c => ?_, fun c => ?_⟩
                · replace h := h.1 c
                  refine ab_EmV (fun V1 h => ?_) h
                  refine ⟨fun c => ?_, fun c => ?_⟩
                  · replace h := h.1 c
                    refine vc_219_0 ?_
                    refine ⟨h.1, ?_⟩
                    replace h := h.2
                    exact h
                  · replace h := h.2 c
                    refine vc_219_0 ?_
                    refine ⟨h.1, ?_⟩
                    replace h := h.2
                    exact h
                · replace h := h.2 c
                  refine ab_EmV (fun V1 h => ?_) h
                  refine ⟨fun c => ?_, fun c => ?_⟩
                  · replace h := h.1 c
                    refine vc_219_0 ?_
                    refine ⟨h.1, ?_⟩
                    replace h := h.2
                    exact h
                  · replace h := h.2 c
                    refine vc_219_0 ?_
                    refine ⟨h.1, ?_⟩
                    replace h := h.2
                    exact h

set_option maxRecDepth 20000 in
/-- FrameCountyModel parses()Z, from 331 -/
theorem iv_221_331 {G : ab_G} {L : Nat} {xs : Nat → Int32} {l : Launch} {d : Nat} {V : aa_V} {K : aa_K} (h :
    ((V 105 26) = (42 : Int32) →
      ab_E G (ac_ST L xs) l (d + 1) ac_SK 220 [.ref 105, .int (9 : Int32)] V (aa_rV (fun V1 =>
        vp_in (V1 105 24) 200 ∧
        ab_J G (ac_ST L xs) l (d + 2) 221 528 [some (.ref 105), some (.int (1 : Int32)), none] [] ac_SK (aa_up (aa_up V1 121 (((V1 105 24)).toNatClampNeg) (9 : Int32)) 105 24 ((V1 105 24) + (1 : Int32))) ac_SK K))) ∧
    (¬ (V 105 26) = (42 : Int32) →
      ((V 105 26) = (43 : Int32) →
        ab_J G (ac_ST L xs) l (d + 2) 221 379 [some (.ref 105), some (.int (1 : Int32)), none] [] ac_SK V ac_SK K) ∧
      (¬ (V 105 26) = (43 : Int32) →
        ((V 105 26) = (45 : Int32) →
          ab_J G (ac_ST L xs) l (d + 2) 221 379 [some (.ref 105), some (.int (1 : Int32)), none] [] ac_SK V ac_SK K) ∧
        (¬ (V 105 26) = (45 : Int32) →
          ((V 105 26) = (60 : Int32) →
            ab_J G (ac_ST L xs) l (d + 2) 221 426 [some (.ref 105), some (.int (1 : Int32)), none] [] ac_SK V ac_SK K) ∧
          (¬ (V 105 26) = (60 : Int32) →
            ((V 105 26) = (61 : Int32) →
              ab_J G (ac_ST L xs) l (d + 2) 221 426 [some (.ref 105), some (.int (1 : Int32)), none] [] ac_SK V ac_SK K) ∧
            (¬ (V 105 26) = (61 : Int32) →
              ((V 105 26) = (4 : Int32) →
                ab_E G (ac_ST L xs) l (d + 1) ac_SK 220 [.ref 105, .int (3 : Int32)] V (aa_rV (fun V1 =>
                  ((V1 105 26) = (4 : Int32) →
                    vp_in (V1 105 24) 200 ∧
                    ab_J G (ac_ST L xs) l (d + 2) 221 528 [some (.ref 105), some (.int (1 : Int32)), none] [] ac_SK (aa_up (aa_up V1 121 (((V1 105 24)).toNatClampNeg) (3 : Int32)) 105 24 ((V1 105 24) + (1 : Int32))) ac_SK K) ∧
                  (¬ (V1 105 26) = (4 : Int32) →
                    vp_in (V1 105 24) 200 ∧
                    ab_J G (ac_ST L xs) l (d + 2) 221 528 [some (.ref 105), some (.int (1 : Int32)), none] [] ac_SK (aa_up (aa_up V1 121 (((V1 105 24)).toNatClampNeg) (2 : Int32)) 105 24 ((V1 105 24) + (1 : Int32))) ac_SK K)))) ∧
              (¬ (V 105 26) = (4 : Int32) →
                ab_E G (ac_ST L xs) l (d + 1) ac_SK 220 [.ref 105, .int (2 : Int32)] V (aa_rV (fun V1 =>
                  ((V1 105 26) = (4 : Int32) →
                    vp_in (V1 105 24) 200 ∧
                    ab_J G (ac_ST L xs) l (d + 2) 221 528 [some (.ref 105), some (.int (1 : Int32)), none] [] ac_SK (aa_up (aa_up V1 121 (((V1 105 24)).toNatClampNeg) (3 : Int32)) 105 24 ((V1 105 24) + (1 : Int32))) ac_SK K) ∧
                  (¬ (V1 105 26) = (4 : Int32) →
                    vp_in (V1 105 24) 200 ∧
                    ab_J G (ac_ST L xs) l (d + 2) 221 528 [some (.ref 105), some (.int (1 : Int32)), none] [] ac_SK (aa_up (aa_up V1 121 (((V1 105 24)).toNatClampNeg) (2 : Int32)) 105 24 ((V1 105 24) + (1 : Int32))) ac_SK K)))))))))) :
    ab_J G (ac_ST L xs) l (d + 2) 221 331 [some (.ref 105), none, none] [] ac_SK V ac_SK K := by
  refine vc_221_331 ?_
  refine ⟨fun c => ?_, fun c => ?_⟩
  · replace h := h.1 c
    refine ab_EmV (fun V1 h => ?_) h
    refine vc_219_0 ?_
    refine ⟨h.1, ?_⟩
    replace h := h.2
    exact h
  · replace h := h.2 c
    refine ⟨fun c => ?_, fun c => ?_⟩
    · replace h := h.1 c
      exact h
    · replace h := h.2 c
      refine ⟨fun c => ?_, fun c => ?_⟩
      · replace h := h.1 c
        exact h
      · replace h := h.2 c
        refine ⟨fun c => ?_, fun c => ?_⟩
        · replace h := h.1 c
          exact h
        · replace h := h.2 c
          refine ⟨fun c => ?_, fun c => ?_⟩
          · replace h := h.1 c
            exact h
          · replace h := h.2 c
            refine ⟨fun c => ?_, fun c => ?_⟩
            · replace h := h.1 c
              refine ab_EmV (fun V1 h => ?_) h
              refine ⟨fun c => ?_, fun c => ?_⟩
              · replace h := h.1 c
                refine vc_219_0 ?_
                refine ⟨h.1, ?_⟩
                replace h := h.2
                exact h
              · replace h := h.2 c
                refine vc_219_0 ?_
                refine ⟨h.1, ?_⟩
                replace h := h.2
                exact h
            · replace h := h.2 c
              refine ab_EmV (fun V1 h => ?_) h
              refine ⟨fun c => ?_, fun c => ?_⟩
              · replace h := h.1 c
                refine vc_219_0 ?_
                refine ⟨h.1, ?_⟩
                replace h := h.2
                exact h
              · replace h := h.2 c
                refine vc_219_0 ?_
                refine ⟨h.1, ?_⟩
                replace h := h.2
                exact h

set_option maxRecDepth 20000 in
/-- FrameCountyModel parses()Z, from 379 -/
theorem iv_221_379 {G : ab_G} {L : Nat} {xs : Nat → Int32} {l : Launch} {d : Nat} {i1 : Int32} {V : aa_V} {K : aa_K} (h :
    ab_E G (ac_ST L xs) l (d + 1) ac_SK 220 [.ref 105, .int (7 : Int32)] V (aa_rV (fun V1 =>
      ((V1 105 26) = (43 : Int32) →
        vp_in (V1 105 24) 200 ∧
        ab_J G (ac_ST L xs) l (d + 2) 221 528 [some (.ref 105), some (.int i1), none] [] ac_SK (aa_up (aa_up V1 121 (((V1 105 24)).toNatClampNeg) (7 : Int32)) 105 24 ((V1 105 24) + (1 : Int32))) ac_SK K) ∧
      (¬ (V1 105 26) = (43 : Int32) →
        vp_in (V1 105 24) 200 ∧
        ab_J G (ac_ST L xs) l (d + 2) 221 528 [some (.ref 105), some (.int i1), none] [] ac_SK (aa_up (aa_up V1 121 (((V1 105 24)).toNatClampNeg) (8 : Int32)) 105 24 ((V1 105 24) + (1 : Int32))) ac_SK K)))) :
    ab_J G (ac_ST L xs) l (d + 2) 221 379 [some (.ref 105), some (.int i1), none] [] ac_SK V ac_SK K := by
  refine vc_221_379 ?_
  refine ab_EmV (fun V1 h => ?_) h
  refine ⟨fun c => ?_, fun c => ?_⟩
  · replace h := h.1 c
    refine vc_219_0 ?_
    refine ⟨h.1, ?_⟩
    replace h := h.2
    exact h
  · replace h := h.2 c
    refine vc_219_0 ?_
    refine ⟨h.1, ?_⟩
    replace h := h.2
    exact h

set_option maxRecDepth 20000 in
/-- FrameCountyModel parses()Z, from 426 -/
theorem iv_221_426 {G : ab_G} {L : Nat} {xs : Nat → Int32} {l : Launch} {d : Nat} {i1 : Int32} {V : aa_V} {K : aa_K} (h :
    ab_E G (ac_ST L xs) l (d + 1) ac_SK 220 [.ref 105, .int (7 : Int32)] V (aa_rV (fun V1 =>
      (0 < (V1 105 24) →
        vp_in ((V1 105 24) - (1 : Int32)) 200 ∧
        ((V1 121 ((((V1 105 24) - (1 : Int32))).toNatClampNeg)) = (5 : Int32) →
          ab_J G (ac_ST L xs) l (d + 2) 221 470 [none, none, none] [] ac_SK V1 ac_SK K) ∧
        (¬ (V1 121 ((((V1 105 24) - (1 : Int32))).toNatClampNeg)) = (5 : Int32) →
          vp_in ((V1 105 24) - (1 : Int32)) 200 ∧
          ((V1 121 ((((V1 105 24) - (1 : Int32))).toNatClampNeg)) = (6 : Int32) →
            ab_J G (ac_ST L xs) l (d + 2) 221 470 [none, none, none] [] ac_SK V1 ac_SK K) ∧
          (¬ (V1 121 ((((V1 105 24) - (1 : Int32))).toNatClampNeg)) = (6 : Int32) →
            ab_J G (ac_ST L xs) l (d + 2) 221 472 [some (.ref 105), some (.int i1), none] [] ac_SK V1 ac_SK K))) ∧
      (¬ 0 < (V1 105 24) →
        ab_J G (ac_ST L xs) l (d + 2) 221 472 [some (.ref 105), some (.int i1), none] [] ac_SK V1 ac_SK K)))) :
    ab_J G (ac_ST L xs) l (d + 2) 221 426 [some (.ref 105), some (.int i1), none] [] ac_SK V ac_SK K := by
  refine vc_221_426 ?_
  exact h

set_option maxRecDepth 20000 in
/-- FrameCountyModel parses()Z, from 470 -/
theorem iv_221_470 {G : ab_G} {L : Nat} {xs : Nat → Int32} {l : Launch} {d : Nat} {V : aa_V} {K : aa_K} (h :
    K (some (.int (0 : Int32))) V) :
    ab_J G (ac_ST L xs) l (d + 2) 221 470 [none, none, none] [] ac_SK V ac_SK K := by
  refine vc_221_470 ?_
  exact ⟨Or.inl rfl, h⟩

set_option maxRecDepth 20000 in
/-- FrameCountyModel parses()Z, from 472 -/
theorem iv_221_472 {G : ab_G} {L : Nat} {xs : Nat → Int32} {l : Launch} {d : Nat} {i1 : Int32} {V : aa_V} {K : aa_K} (h :
    ((V 105 26) = (60 : Int32) →
      vp_in (V 105 24) 200 ∧
      ab_J G (ac_ST L xs) l (d + 2) 221 528 [some (.ref 105), some (.int i1), none] [] ac_SK (aa_up (aa_up V 121 (((V 105 24)).toNatClampNeg) (5 : Int32)) 105 24 ((V 105 24) + (1 : Int32))) ac_SK K) ∧
    (¬ (V 105 26) = (60 : Int32) →
      vp_in (V 105 24) 200 ∧
      ab_J G (ac_ST L xs) l (d + 2) 221 528 [some (.ref 105), some (.int i1), none] [] ac_SK (aa_up (aa_up V 121 (((V 105 24)).toNatClampNeg) (6 : Int32)) 105 24 ((V 105 24) + (1 : Int32))) ac_SK K)) :
    ab_J G (ac_ST L xs) l (d + 2) 221 472 [some (.ref 105), some (.int i1), none] [] ac_SK V ac_SK K := by
  refine vc_221_472 ?_
  refine ⟨fun c => ?_, fun c => ?_⟩
  · replace h := h.1 c
    refine vc_219_0 ?_
    refine ⟨h.1, ?_⟩
    replace h := h.2
    exact h
  · replace h := h.2 c
    refine vc_219_0 ?_
    refine ⟨h.1, ?_⟩
    replace h := h.2
    exact h

set_option maxRecDepth 20000 in
/-- FrameCountyModel parses()Z, from 528 -/
theorem iv_221_528 {G : ab_G} {L : Nat} {xs : Nat → Int32} {l : Launch} {d : Nat} {i1 : Int32} {V : aa_V} {K : aa_K} (h :
    ab_J G (ac_ST L xs) l (d + 2) 221 12 [some (.ref 105), some (.int i1), none] [] ac_SK V ac_SK K) :
    ab_J G (ac_ST L xs) l (d + 2) 221 528 [some (.ref 105), some (.int i1), none] [] ac_SK V ac_SK K := by
  refine vc_221_528 ?_
  exact h

set_option maxRecDepth 20000 in
/-- FrameCountyModel isText()Z, from 0 -/
theorem iv_222_0 {G : ab_G} {L : Nat} {xs : Nat → Int32} {l : Launch} {d : Nat} {V : aa_V} {K : aa_K} (h :
    ab_J G (ac_ST L xs) l (d + 2) 222 7 [some (.ref 105), some (.int (0 : Int32))] [] ac_SK (aa_up V 105 22 (0 : Int32)) ac_SK K) :
    ab_E G (ac_ST L xs) l (d + 2) ac_SK 222 [.ref 105] V K := by
  refine vc_222_0 ?_
  exact h

set_option maxRecDepth 20000 in
/-- FrameCountyModel isText()Z, from 7 -/
theorem iv_222_7 {G : ab_G} {L : Nat} {xs : Nat → Int32} {l : Launch} {d : Nat} {i1 : Int32} {V : aa_V} {K : aa_K} (h :
    (i1 < (2 : Int32) →
      ab_E G (ac_ST L xs) l (d + 1) ac_SK 217 [.ref 105] V (aa_rV (fun V1 =>
        ((V1 105 26) = ((6 : Int32) + i1) →
          vp_in (((2 : Int32) * (V1 105 20)) + i1) 12 ∧
          ab_E G (ac_ST L xs) l (d + 1) ac_SK 221 [.ref 105] (aa_up V1 119 (((((2 : Int32) * (V1 105 20)) + i1)).toNatClampNeg) (V1 105 25)) (aa_rI (fun x2 V2 =>
            (x2 = 0 →
              K (some (.int (0 : Int32))) V2) ∧
            (¬ x2 = 0 →
              vp_in (((2 : Int32) * (V2 105 20)) + i1) 12 ∧
              ab_J G (ac_ST L xs) l (d + 2) 222 7 [some (.ref 105), some (.int (i1 + 1))] [] ac_SK (aa_up V2 120 (((((2 : Int32) * (V2 105 20)) + i1)).toNatClampNeg) (V2 105 25)) ac_SK K)))) ∧
        (¬ (V1 105 26) = ((6 : Int32) + i1) →
          K (some (.int (0 : Int32))) V1)))) ∧
    (¬ i1 < (2 : Int32) →
      ab_E G (ac_ST L xs) l (d + 1) ac_SK 217 [.ref 105] V (aa_rV (fun V1 =>
        ((V1 105 26) = 0 →
          K (some (.int (1 : Int32))) V1) ∧
        (¬ (V1 105 26) = 0 →
          K (some (.int (0 : Int32))) V1))))) :
    ab_J G (ac_ST L xs) l (d + 2) 222 7 [some (.ref 105), some (.int i1)] [] ac_SK V ac_SK K := by
  refine vc_222_7 ?_
  refine ⟨fun c => ?_, fun c => ?_⟩
  · replace h := h.1 c
    refine ab_EmV (fun V1 h => ?_) h
    refine ⟨fun c => ?_, fun c => ?_⟩
    · replace h := h.1 c
      refine ⟨h.1, ?_⟩
      replace h := h.2
      refine ab_EmI (fun x2 V2 h => ?_) h
      refine ⟨fun c => ?_, fun c => ?_⟩
      · replace h := h.1 c
        exact ⟨Or.inl rfl, h⟩
      · replace h := h.2 c
        refine ⟨h.1, ?_⟩
        replace h := h.2
        exact h
    · replace h := h.2 c
      exact ⟨Or.inl rfl, h⟩
  · replace h := h.2 c
    refine ab_EmV (fun V1 h => ?_) h
    refine ⟨fun c => ?_, fun c => ?_⟩
    · replace h := h.1 c
      exact ⟨Or.inr rfl, h⟩
    · replace h := h.2 c
      exact ⟨Or.inl rfl, h⟩

set_option maxRecDepth 20000 in
/-- FrameCountyModel text()I, from 0 -/
theorem iv_223_0 {G : ab_G} {L : Nat} {xs : Nat → Int32} {l : Launch} {d : Nat} {V : aa_V} {K : aa_K} (h :
    ((V 105 20) = (6 : Int32) →
      K (some (.int (-4 : Int32))) V) ∧
    (¬ (V 105 20) = (6 : Int32) →
      ab_E G (ac_ST L xs) l (d + 1) ac_SK 222 [.ref 105] V (aa_rI (fun x1 V1 =>
        (x1 = 0 →
          K (some (.int ((-100 : Int32) - (V1 105 27)))) (aa_up (aa_up V1 105 19 (0 : Int32)) 105 25 (V 105 25))) ∧
        (¬ x1 = 0 →
          K (some (.int (((V1 105 20) + (1 : Int32)) - (1 : Int32)))) (aa_up (aa_up V1 105 19 (0 : Int32)) 105 20 ((V1 105 20) + (1 : Int32)))))))) :
    ab_E G (ac_ST L xs) l (d + 2) ac_SK 223 [.ref 105] V K := by
  refine vc_223_0 ?_
  exact h

set_option maxRecDepth 20000 in
/-- FrameCountyModel comesTo(I)I, from 0 -/
theorem iv_225_0 {G : ab_G} {L : Nat} {xs : Nat → Int32} {l : Launch} {d : Nat} {i1 : Int32} {V : aa_V} {K : aa_K} (h :
    ¬ (7 : Int32) = 0 ∧
    vp_in (2 : Int32) 6 ∧
    vp_in (((2 : Int32) * (V 105 21)) + i1) 12 ∧
    ab_J G (ac_ST L xs) l (d + 2) 225 29 [some (.ref 105), some (.int i1), some (.int (0 : Int32)), some (.int (V 119 (((((2 : Int32) * (V 105 21)) + i1)).toNatClampNeg)))] [] ac_SK (aa_up V 122 (((2 : Int32)).toNatClampNeg) ((V 105 2) / (7 : Int32))) ac_SK K) :
    ab_E G (ac_ST L xs) l (d + 2) ac_SK 225 [.ref 105, .int i1] V K := by
  refine vc_225_0 ?_
  refine ⟨h.1, ?_⟩
  replace h := h.2
  refine ⟨h.1, ?_⟩
  replace h := h.2
  refine ⟨h.1, ?_⟩
  replace h := h.2
  exact h

set_option maxRecDepth 20000 in
/-- FrameCountyModel comesTo(I)I, from 29 -/
theorem iv_225_29 {G : ab_G} {L : Nat} {xs : Nat → Int32} {l : Launch} {d : Nat} {i1 : Int32} {i2 : Int32} {i3 : Int32} {V : aa_V} {K : aa_K} (h :
    vp_in (((2 : Int32) * (V 105 21)) + i1) 12 ∧
    (i3 < (V 120 (((((2 : Int32) * (V 105 21)) + i1)).toNatClampNeg)) →
      vp_in i3 2000 ∧
      ((V 117 ((i3).toNatClampNeg)) < (2 : Int32) →
        vp_in i3 2000 ∧
        ((V 117 ((i3).toNatClampNeg)) = 0 →
          vp_in i3 2000 ∧
          vp_in i2 200 ∧
          ab_J G (ac_ST L xs) l (d + 2) 225 29 [some (.ref 105), some (.int i1), some (.int (i2 + 1)), some (.int (i3 + 1))] [] ac_SK (aa_up V 123 ((i2).toNatClampNeg) (V 118 ((i3).toNatClampNeg))) ac_SK K) ∧
        (¬ (V 117 ((i3).toNatClampNeg)) = 0 →
          vp_in i3 2000 ∧
          vp_in (V 118 ((i3).toNatClampNeg)) 6 ∧
          vp_in i2 200 ∧
          ab_J G (ac_ST L xs) l (d + 2) 225 29 [some (.ref 105), some (.int i1), some (.int (i2 + 1)), some (.int (i3 + 1))] [] ac_SK (aa_up V 123 ((i2).toNatClampNeg) (V 122 (((V 118 ((i3).toNatClampNeg))).toNatClampNeg))) ac_SK K)) ∧
      (¬ (V 117 ((i3).toNatClampNeg)) < (2 : Int32) →
        vp_in i3 2000 ∧
        ((V 117 ((i3).toNatClampNeg)) = (4 : Int32) →
          vp_in i3 2000 ∧
          ((V 117 ((i3).toNatClampNeg)) = (10 : Int32) →
            vp_in (i2 - (1 : Int32)) 200 ∧
            vp_in (i2 - (1 : Int32)) 200 ∧
            ab_J G (ac_ST L xs) l (d + 2) 225 29 [some (.ref 105), some (.int i1), some (.int i2), some (.int (i3 + 1))] [] ac_SK (aa_up V 123 (((i2 - (1 : Int32))).toNatClampNeg) (-(V 123 (((i2 - (1 : Int32))).toNatClampNeg)))) ac_SK K) ∧
          (¬ (V 117 ((i3).toNatClampNeg)) = (10 : Int32) →
            vp_in (i2 - (1 : Int32)) 200 ∧
            ((V 123 (((i2 - (1 : Int32))).toNatClampNeg)) = 0 →
              vp_in (i2 - (1 : Int32)) 200 ∧
              ab_J G (ac_ST L xs) l (d + 2) 225 29 [some (.ref 105), some (.int i1), some (.int i2), some (.int (i3 + 1))] [] ac_SK (aa_up V 123 (((i2 - (1 : Int32))).toNatClampNeg) (1 : Int32)) ac_SK K) ∧
            (¬ (V 123 (((i2 - (1 : Int32))).toNatClampNeg)) = 0 →
              vp_in (i2 - (1 : Int32)) 200 ∧
              ab_J G (ac_ST L xs) l (d + 2) 225 29 [some (.ref 105), some (.int i1), some (.int i2), some (.int (i3 + 1))] [] ac_SK (aa_up V 123 (((i2 - (1 : Int32))).toNatClampNeg) (0 : Int32)) ac_SK K))) ∧
        (¬ (V 117 ((i3).toNatClampNeg)) = (4 : Int32) →
          vp_in i3 2000 ∧
          ((V 117 ((i3).toNatClampNeg)) = (10 : Int32) →
            vp_in i3 2000 ∧
            ((V 117 ((i3).toNatClampNeg)) = (10 : Int32) →
              vp_in (i2 - (1 : Int32)) 200 ∧
              vp_in (i2 - (1 : Int32)) 200 ∧
              ab_J G (ac_ST L xs) l (d + 2) 225 29 [some (.ref 105), some (.int i1), some (.int i2), some (.int (i3 + 1))] [] ac_SK (aa_up V 123 (((i2 - (1 : Int32))).toNatClampNeg) (-(V 123 (((i2 - (1 : Int32))).toNatClampNeg)))) ac_SK K) ∧
            (¬ (V 117 ((i3).toNatClampNeg)) = (10 : Int32) →
              vp_in (i2 - (1 : Int32)) 200 ∧
              ((V 123 (((i2 - (1 : Int32))).toNatClampNeg)) = 0 →
                vp_in (i2 - (1 : Int32)) 200 ∧
                ab_J G (ac_ST L xs) l (d + 2) 225 29 [some (.ref 105), some (.int i1), some (.int i2), some (.int (i3 + 1))] [] ac_SK (aa_up V 123 (((i2 - (1 : Int32))).toNatClampNeg) (1 : Int32)) ac_SK K) ∧
              (¬ (V 123 (((i2 - (1 : Int32))).toNatClampNeg)) = 0 →
                vp_in (i2 - (1 : Int32)) 200 ∧
                ab_J G (ac_ST L xs) l (d + 2) 225 29 [some (.ref 105), some (.int i1), some (.int i2), some (.int (i3 + 1))] [] ac_SK (aa_up V 123 (((i2 - (1 : Int32))).toNatClampNeg) (0 : Int32)) ac_SK K))) ∧
          (¬ (V 117 ((i3).toNatClampNeg)) = (10 : Int32) →
            vp_in i3 2000 ∧
            vp_in ((i2 + (-1)) - (1 : Int32)) 200 ∧
            vp_in (i2 + (-1)) 200 ∧
            ab_E G (ac_ST L xs) l (d + 1) ac_SK 226 [.int (V 117 ((i3).toNatClampNeg)), .int (V 123 ((((i2 + (-1)) - (1 : Int32))).toNatClampNeg)), .int (V 123 (((i2 + (-1))).toNatClampNeg))] V (aa_rI (fun x1 V1 =>
              vp_in ((i2 + (-1)) - (1 : Int32)) 200 ∧
              ab_J G (ac_ST L xs) l (d + 2) 225 29 [some (.ref 105), some (.int i1), some (.int (i2 + (-1))), some (.int (i3 + 1))] [] ac_SK (aa_up V1 123 ((((i2 + (-1)) - (1 : Int32))).toNatClampNeg) x1) ac_SK K)))))) ∧
    (¬ i3 < (V 120 (((((2 : Int32) * (V 105 21)) + i1)).toNatClampNeg)) →
      vp_in (0 : Int32) 200 ∧
      K (some (.int (V 123 (((0 : Int32)).toNatClampNeg)))) V)) :
    ab_J G (ac_ST L xs) l (d + 2) 225 29 [some (.ref 105), some (.int i1), some (.int i2), some (.int i3)] [] ac_SK V ac_SK K := by
  refine vc_225_29 ?_
  refine ⟨h.1, ?_⟩
  replace h := h.2
  exact h

set_option maxRecDepth 20000 in
/-- FrameCountyModel worked(III)I, from 0 -/
theorem iv_226_0 {G : ab_G} {L : Nat} {xs : Nat → Int32} {l : Launch} {d : Nat} {i0 : Int32} {i1 : Int32} {i2 : Int32} {V : aa_V} {K : aa_K} (h :
    (i0 = 2 →
      (i1 = 0 →
        (i2 = 0 →
          K (some (.int (0 : Int32))) V) ∧
        (¬ i2 = 0 →
          K (some (.int (1 : Int32))) V)) ∧
      (¬ i1 = 0 →
        K (some (.int (1 : Int32))) V)) ∧
    (¬ i0 = 2 →
    (i0 = 3 →
      (i1 = 0 →
        K (some (.int (0 : Int32))) V) ∧
      (¬ i1 = 0 →
        (i2 = 0 →
          K (some (.int (0 : Int32))) V) ∧
        (¬ i2 = 0 →
          K (some (.int (1 : Int32))) V))) ∧
    (¬ i0 = 3 →
    (i0 = 5 →
      (i1 < i2 →
        K (some (.int (1 : Int32))) V) ∧
      (¬ i1 < i2 →
        K (some (.int (0 : Int32))) V)) ∧
    (¬ i0 = 5 →
    (i0 = 6 →
      (i1 = i2 →
        K (some (.int (1 : Int32))) V) ∧
      (¬ i1 = i2 →
        K (some (.int (0 : Int32))) V)) ∧
    (¬ i0 = 6 →
    (i0 = 7 →
      K (some (.int (i1 + i2))) V) ∧
    (¬ i0 = 7 →
    (i0 = 8 →
      K (some (.int (i1 - i2))) V) ∧
    (¬ i0 = 8 →
    K (some (.int (i1 * i2))) V))))))) :
    ab_E G (ac_ST L xs) l (d + 1) ac_SK 226 [.int i0, .int i1, .int i2] V K := by
  refine vc_226_0 ?_
  exact h

set_option maxRecDepth 20000 in
/-- FrameCountyModel says(II)J, from 0 -/
theorem iv_228_0 {G : ab_G} {L : Nat} {xs : Nat → Int32} {l : Launch} {d : Nat} {i1 : Int32} {i2 : Int32} {V : aa_V} {K : aa_K} (h :
    (i1 = 0 →
      (i2 < 0 →
        (i1 = (1 : Int32) →
          (i2 < 0 →
            K (some (.long (-4611686018427387904 : Int64))) V) ∧
          (¬ i2 < 0 →
            (i2 < (V 105 46) →
              ab_E G (ac_ST L xs) l (d + 2) ac_SK 253 [.ref 105, .int i2, .int (V 105 2), .int (-1 : Int32)] V (aa_rI (fun x1 V1 =>
                K (some (.long (x1.toInt64))) V1))) ∧
            (¬ i2 < (V 105 46) →
              K (some (.long (-4611686018427387904 : Int64))) V))) ∧
        (¬ i1 = (1 : Int32) →
          K (some (.long (-4611686018427387904 : Int64))) V)) ∧
      (¬ i2 < 0 →
        (i2 < (V 105 12) →
          vp_in i2 20 ∧
          vp_in (0 : Int32) 6 ∧
          vp_in i2 20 ∧
          vp_in (1 : Int32) 6 ∧
          ab_E G (ac_ST L xs) l (d + 1) ac_SK 205 [.ref 105, .int i2] (aa_up (aa_up V 122 (((0 : Int32)).toNatClampNeg) (V 110 ((i2).toNatClampNeg))) 122 (((1 : Int32)).toNatClampNeg) (V 112 ((i2).toNatClampNeg))) (aa_rI (fun x1 V1 =>
            vp_in (3 : Int32) 6 ∧
            vp_in (4 : Int32) 6 ∧
            vp_in (5 : Int32) 6 ∧
            ab_E G (ac_ST L xs) l (d + 1) ac_SK 225 [.ref 105, .int (0 : Int32)] (aa_up (aa_up (aa_up V1 122 (((3 : Int32)).toNatClampNeg) x1) 122 (((4 : Int32)).toNatClampNeg) (0 : Int32)) 122 (((5 : Int32)).toNatClampNeg) (0 : Int32)) (aa_rI (fun x2 V2 =>
              K (some (.long (x2.toInt64))) V2))))) ∧
        (¬ i2 < (V 105 12) →
          (i1 = (1 : Int32) →
            (i2 < 0 →
              K (some (.long (-4611686018427387904 : Int64))) V) ∧
            (¬ i2 < 0 →
              (i2 < (V 105 46) →
                ab_E G (ac_ST L xs) l (d + 2) ac_SK 253 [.ref 105, .int i2, .int (V 105 2), .int (-1 : Int32)] V (aa_rI (fun x1 V1 =>
                  K (some (.long (x1.toInt64))) V1))) ∧
              (¬ i2 < (V 105 46) →
                K (some (.long (-4611686018427387904 : Int64))) V))) ∧
          (¬ i1 = (1 : Int32) →
            K (some (.long (-4611686018427387904 : Int64))) V)))) ∧
    (¬ i1 = 0 →
      (i1 = (1 : Int32) →
        (i2 < 0 →
          K (some (.long (-4611686018427387904 : Int64))) V) ∧
        (¬ i2 < 0 →
          (i2 < (V 105 46) →
            ab_E G (ac_ST L xs) l (d + 2) ac_SK 253 [.ref 105, .int i2, .int (V 105 2), .int (-1 : Int32)] V (aa_rI (fun x1 V1 =>
              K (some (.long (x1.toInt64))) V1))) ∧
          (¬ i2 < (V 105 46) →
            K (some (.long (-4611686018427387904 : Int64))) V))) ∧
      (¬ i1 = (1 : Int32) →
        K (some (.long (-4611686018427387904 : Int64))) V))) :
    ab_E G (ac_ST L xs) l (d + 3) ac_SK 228 [.ref 105, .int i1, .int i2] V K := by
  refine vc_228_0 ?_
  refine ⟨fun c => ?_, fun c => ?_⟩
  · replace h := h.1 c
    refine vc_200_0 ?_
    refine ⟨fun c => ?_, fun c => ?_⟩
    · replace h := h.1 c
      refine ⟨Or.inl rfl, ?_⟩
      refine ⟨fun q => ?_, fun q => absurd rfl q⟩
      refine ⟨fun c => ?_, fun c => ?_⟩
      · replace h := h.1 c
        refine vc_240_0 ?_
        refine ⟨fun c => ?_, fun c => ?_⟩
        · replace h := h.1 c
          refine ⟨Or.inl rfl, ?_⟩
          refine ⟨fun q => ?_, fun q => absurd rfl q⟩
          exact h
        · replace h := h.2 c
          refine ⟨fun c => ?_, fun c => ?_⟩
          · replace h := h.1 c
            refine ⟨Or.inr rfl, ?_⟩
            refine ⟨fun q => absurd q (by decide), fun q => ?_⟩
            exact h
          · replace h := h.2 c
            refine ⟨Or.inl rfl, ?_⟩
            refine ⟨fun q => ?_, fun q => absurd rfl q⟩
            exact h
      · replace h := h.2 c
        exact h
    · replace h := h.2 c
      refine ⟨fun c => ?_, fun c => ?_⟩
      · replace h := h.1 c
        refine ⟨Or.inr rfl, ?_⟩
        refine ⟨fun q => absurd q (by decide), fun q => ?_⟩
        refine vc_227_0 ?_
        refine ⟨h.1, ?_⟩
        replace h := h.2
        refine ⟨h.1, ?_⟩
        replace h := h.2
        refine ⟨h.1, ?_⟩
        replace h := h.2
        refine ⟨h.1, ?_⟩
        replace h := h.2
        refine ab_EmI (fun x1 V1 h => ?_) h
        refine ⟨h.1, ?_⟩
        replace h := h.2
        refine ⟨h.1, ?_⟩
        replace h := h.2
        refine ⟨h.1, ?_⟩
        replace h := h.2
        refine ab_EmI (fun x2 V2 h => ?_) h
        exact h
      · replace h := h.2 c
        refine ⟨Or.inl rfl, ?_⟩
        refine ⟨fun q => ?_, fun q => absurd rfl q⟩
        refine ⟨fun c => ?_, fun c => ?_⟩
        · replace h := h.1 c
          refine vc_240_0 ?_
          refine ⟨fun c => ?_, fun c => ?_⟩
          · replace h := h.1 c
            refine ⟨Or.inl rfl, ?_⟩
            refine ⟨fun q => ?_, fun q => absurd rfl q⟩
            exact h
          · replace h := h.2 c
            refine ⟨fun c => ?_, fun c => ?_⟩
            · replace h := h.1 c
              refine ⟨Or.inr rfl, ?_⟩
              refine ⟨fun q => absurd q (by decide), fun q => ?_⟩
              exact h
            · replace h := h.2 c
              refine ⟨Or.inl rfl, ?_⟩
              refine ⟨fun q => ?_, fun q => absurd rfl q⟩
              exact h
        · replace h := h.2 c
          exact h
  · replace h := h.2 c
    refine ⟨fun c => ?_, fun c => ?_⟩
    · replace h := h.1 c
      refine vc_240_0 ?_
      refine ⟨fun c => ?_, fun c => ?_⟩
      · replace h := h.1 c
        refine ⟨Or.inl rfl, ?_⟩
        refine ⟨fun q => ?_, fun q => absurd rfl q⟩
        exact h
      · replace h := h.2 c
        refine ⟨fun c => ?_, fun c => ?_⟩
        · replace h := h.1 c
          refine ⟨Or.inr rfl, ?_⟩
          refine ⟨fun q => absurd q (by decide), fun q => ?_⟩
          exact h
        · replace h := h.2 c
          refine ⟨Or.inl rfl, ?_⟩
          refine ⟨fun q => ?_, fun q => absurd rfl q⟩
          exact h
    · replace h := h.2 c
      exact h

set_option maxRecDepth 20000 in
/-- FrameCountyModel raid(II)I, from 0 -/
theorem iv_229_0 {G : ab_G} {L : Nat} {xs : Nat → Int32} {l : Launch} {d : Nat} {i1 : Int32} {i2 : Int32} {V : aa_V} {K : aa_K} (h :
    (i1 < 0 →
      K (some (.int (-2 : Int32))) V) ∧
    (¬ i1 < 0 →
      (i1 < (V 105 12) →
        (i2 < (0 : Int32) →
          K (some (.int (-2 : Int32))) V) ∧
        (¬ i2 < (0 : Int32) →
          ((11 : Int32) < i2 →
            K (some (.int (-2 : Int32))) V) ∧
          (¬ (11 : Int32) < i2 →
            vp_in i1 20 ∧
            ((V 114 ((i1).toNatClampNeg)) = 0 →
              ((V 105 34) = (30 : Int32) →
                K (some (.int (-4 : Int32))) V) ∧
              (¬ (V 105 34) = (30 : Int32) →
                vp_in i1 20 ∧
                vp_in i1 20 ∧
                vp_in (V 105 34) 30 ∧
                vp_in (V 105 34) 30 ∧
                vp_in (V 105 34) 30 ∧
                K (some (.int (((V 105 34) + (1 : Int32)) - (1 : Int32)))) (aa_up (aa_up (aa_up (aa_up (aa_up (aa_up V 114 ((i1).toNatClampNeg) (1 : Int32)) 115 ((i1).toNatClampNeg) (V 105 2)) 124 (((V 105 34)).toNatClampNeg) i1) 125 (((V 105 34)).toNatClampNeg) (V 105 2)) 126 (((V 105 34)).toNatClampNeg) i2) 105 34 ((V 105 34) + (1 : Int32))))) ∧
            (¬ (V 114 ((i1).toNatClampNeg)) = 0 →
              K (some (.int (-3 : Int32))) V)))) ∧
      (¬ i1 < (V 105 12) →
        K (some (.int (-2 : Int32))) V))) :
    ab_E G (ac_ST L xs) l (d + 2) ac_SK 229 [.ref 105, .int i1, .int i2] V K := by
  refine vc_229_0 ?_
  refine vc_200_0 ?_
  refine ⟨fun c => ?_, fun c => ?_⟩
  · replace h := h.1 c
    refine ⟨Or.inl rfl, ?_⟩
    refine ⟨fun q => ?_, fun q => absurd rfl q⟩
    exact h
  · replace h := h.2 c
    refine ⟨fun c => ?_, fun c => ?_⟩
    · replace h := h.1 c
      refine ⟨Or.inr rfl, ?_⟩
      refine ⟨fun q => absurd q (by decide), fun q => ?_⟩
      refine iv_isIn (a := i2) (b := (0 : Int32)) (c := (11 : Int32)) (by decide +kernel) (by decide +kernel) ?_
      refine ⟨fun c => ?_, fun c => ?_⟩
      · replace h := h.1 c
        refine ⟨fun q => ?_, fun q => absurd rfl q⟩
        exact h
      · replace h := h.2 c
        refine ⟨fun c => ?_, fun c => ?_⟩
        · replace h := h.1 c
          refine ⟨fun q => ?_, fun q => absurd rfl q⟩
          exact h
        · replace h := h.2 c
          refine ⟨fun q => absurd q (by decide), fun q => ?_⟩
          refine ⟨h.1, ?_⟩
          replace h := h.2
          exact h
    · replace h := h.2 c
      refine ⟨Or.inl rfl, ?_⟩
      refine ⟨fun q => ?_, fun q => absurd rfl q⟩
      exact h
