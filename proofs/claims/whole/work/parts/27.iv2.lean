/-! stretches, with the small methods gone into -/
set_option maxRecDepth 20000 in
/-- FrameCounty pass(I)I, from 0 -/
theorem iv_138_0 {G : ab_G} {L : Nat} {xs : Nat → Int32} {l : Launch} {d : Nat} {i1 : Int32} {V : aa_V} {K : aa_K} (h :
    (i1 < (1 : Int32) →
      K (some (.int (-2 : Int32))) V) ∧
    (¬ i1 < (1 : Int32) →
      ((60 : Int32) < i1 →
        K (some (.int (-2 : Int32))) V) ∧
      (¬ (60 : Int32) < i1 →
        (((V 0 13) + i1) < (400 : Int32) →
          K (some (.int ((V 0 13) + i1))) (aa_up V 0 13 ((V 0 13) + i1))) ∧
        (¬ ((V 0 13) + i1) < (400 : Int32) →
          K (some (.int (-4 : Int32))) V)))) :
    ab_E G (ac_ST L xs) l (d + 2) ac_SK 138 [.ref 0, .int i1] V K := by
  refine vc_138_0 ?_
  refine vc_182_0 ?_
  refine ⟨fun c => ?_, fun c => ?_⟩
  · replace h := h.1 c
    refine ⟨Or.inl rfl, ?_⟩
    refine ⟨fun q => ?_, fun q => absurd rfl q⟩
    exact h
  · replace h := h.2 c
    refine ⟨fun c => ?_, fun c => ?_⟩
    · replace h := h.1 c
      refine ⟨Or.inl rfl, ?_⟩
      refine ⟨fun q => ?_, fun q => absurd rfl q⟩
      exact h
    · replace h := h.2 c
      refine ⟨Or.inr rfl, ?_⟩
      refine ⟨fun q => absurd q (by decide), fun q => ?_⟩
      exact h

set_option maxRecDepth 20000 in
/-- FrameCounty road(III)I, from 0 -/
theorem iv_139_0 {G : ab_G} {L : Nat} {xs : Nat → Int32} {l : Launch} {d : Nat} {i1 : Int32} {i2 : Int32} {i3 : Int32} {V : aa_V} {K : aa_K} (h :
    (i1 < (0 : Int32) →
      K (some (.int (-2 : Int32))) V) ∧
    (¬ i1 < (0 : Int32) →
      ((7 : Int32) < i1 →
        K (some (.int (-2 : Int32))) V) ∧
      (¬ (7 : Int32) < i1 →
        (i2 < (0 : Int32) →
          K (some (.int (-2 : Int32))) V) ∧
        (¬ i2 < (0 : Int32) →
          ((7 : Int32) < i2 →
            K (some (.int (-2 : Int32))) V) ∧
          (¬ (7 : Int32) < i2 →
            (i1 = i2 →
              K (some (.int (-2 : Int32))) V) ∧
            (¬ i1 = i2 →
              ab_E G (ac_ST L xs) l (d + 2) ac_SK 49 [.int i3] V (aa_rI (fun x1 V1 =>
                (x1 = 0 →
                  K (some (.int (-2 : Int32))) V1) ∧
                (¬ x1 = 0 →
                  ab_E G (ac_ST L xs) l (d + 2) ac_SK 50 [.ref 1, .int i1, .int i2, .int i3] V1 (aa_rI (fun x2 V2 =>
                    K (some (.int x2)) V2))))))))))) :
    ab_E G (ac_ST L xs) l (d + 3) ac_SK 139 [.ref 0, .int i1, .int i2, .int i3] V K := by
  refine vc_139_0 ?_
  refine vc_48_0 ?_
  refine vc_182_0 ?_
  refine ⟨fun c => ?_, fun c => ?_⟩
  · replace h := h.1 c
    refine ⟨Or.inl rfl, ?_⟩
    refine ⟨Or.inl rfl, ?_⟩
    refine ⟨fun q => ?_, fun q => absurd rfl q⟩
    exact h
  · replace h := h.2 c
    refine ⟨fun c => ?_, fun c => ?_⟩
    · replace h := h.1 c
      refine ⟨Or.inl rfl, ?_⟩
      refine ⟨Or.inl rfl, ?_⟩
      refine ⟨fun q => ?_, fun q => absurd rfl q⟩
      exact h
    · replace h := h.2 c
      refine ⟨Or.inr rfl, ?_⟩
      refine ⟨Or.inr rfl, ?_⟩
      refine ⟨fun q => absurd q (by decide), fun q => ?_⟩
      refine vc_48_0 ?_
      refine vc_182_0 ?_
      refine ⟨fun c => ?_, fun c => ?_⟩
      · replace h := h.1 c
        refine ⟨Or.inl rfl, ?_⟩
        refine ⟨Or.inl rfl, ?_⟩
        refine ⟨fun q => ?_, fun q => absurd rfl q⟩
        exact h
      · replace h := h.2 c
        refine ⟨fun c => ?_, fun c => ?_⟩
        · replace h := h.1 c
          refine ⟨Or.inl rfl, ?_⟩
          refine ⟨Or.inl rfl, ?_⟩
          refine ⟨fun q => ?_, fun q => absurd rfl q⟩
          exact h
        · replace h := h.2 c
          refine ⟨Or.inr rfl, ?_⟩
          refine ⟨Or.inr rfl, ?_⟩
          refine ⟨fun q => absurd q (by decide), fun q => ?_⟩
          exact h

set_option maxRecDepth 20000 in
/-- FrameCounty far(III)I, from 0 -/
theorem iv_140_0 {G : ab_G} {L : Nat} {xs : Nat → Int32} {l : Launch} {d : Nat} {i1 : Int32} {i2 : Int32} {i3 : Int32} {V : aa_V} {K : aa_K} (h :
    (i1 < (0 : Int32) →
      K (some (.int (-2 : Int32))) V) ∧
    (¬ i1 < (0 : Int32) →
      ((7 : Int32) < i1 →
        K (some (.int (-2 : Int32))) V) ∧
      (¬ (7 : Int32) < i1 →
        (i2 < (0 : Int32) →
          K (some (.int (-2 : Int32))) V) ∧
        (¬ i2 < (0 : Int32) →
          ((7 : Int32) < i2 →
            K (some (.int (-2 : Int32))) V) ∧
          (¬ (7 : Int32) < i2 →
            (i3 < (0 : Int32) →
              K (some (.int (-2 : Int32))) V) ∧
            (¬ i3 < (0 : Int32) →
              ((399 : Int32) < i3 →
                K (some (.int (-2 : Int32))) V) ∧
              (¬ (399 : Int32) < i3 →
                ab_E G (ac_ST L xs) l (d + 2) ac_SK 51 [.ref 1, .int i1, .int i2, .int i3] V (aa_rI (fun x1 V1 =>
                  K (some (.int x1)) V1))))))))) :
    ab_E G (ac_ST L xs) l (d + 3) ac_SK 140 [.ref 0, .int i1, .int i2, .int i3] V K := by
  refine vc_140_0 ?_
  refine vc_48_0 ?_
  refine vc_182_0 ?_
  refine ⟨fun c => ?_, fun c => ?_⟩
  · replace h := h.1 c
    refine ⟨Or.inl rfl, ?_⟩
    refine ⟨Or.inl rfl, ?_⟩
    refine ⟨fun q => ?_, fun q => absurd rfl q⟩
    exact h
  · replace h := h.2 c
    refine ⟨fun c => ?_, fun c => ?_⟩
    · replace h := h.1 c
      refine ⟨Or.inl rfl, ?_⟩
      refine ⟨Or.inl rfl, ?_⟩
      refine ⟨fun q => ?_, fun q => absurd rfl q⟩
      exact h
    · replace h := h.2 c
      refine ⟨Or.inr rfl, ?_⟩
      refine ⟨Or.inr rfl, ?_⟩
      refine ⟨fun q => absurd q (by decide), fun q => ?_⟩
      refine vc_48_0 ?_
      refine vc_182_0 ?_
      refine ⟨fun c => ?_, fun c => ?_⟩
      · replace h := h.1 c
        refine ⟨Or.inl rfl, ?_⟩
        refine ⟨Or.inl rfl, ?_⟩
        refine ⟨fun q => ?_, fun q => absurd rfl q⟩
        exact h
      · replace h := h.2 c
        refine ⟨fun c => ?_, fun c => ?_⟩
        · replace h := h.1 c
          refine ⟨Or.inl rfl, ?_⟩
          refine ⟨Or.inl rfl, ?_⟩
          refine ⟨fun q => ?_, fun q => absurd rfl q⟩
          exact h
        · replace h := h.2 c
          refine ⟨Or.inr rfl, ?_⟩
          refine ⟨Or.inr rfl, ?_⟩
          refine ⟨fun q => absurd q (by decide), fun q => ?_⟩
          refine vc_183_0 ?_
          refine vc_182_0 ?_
          refine ⟨fun c => ?_, fun c => ?_⟩
          · replace h := h.1 c
            refine ⟨Or.inl rfl, ?_⟩
            refine ⟨Or.inl rfl, ?_⟩
            refine ⟨fun q => ?_, fun q => absurd rfl q⟩
            exact h
          · replace h := h.2 c
            refine ⟨fun c => ?_, fun c => ?_⟩
            · replace h := h.1 c
              refine ⟨Or.inl rfl, ?_⟩
              refine ⟨Or.inl rfl, ?_⟩
              refine ⟨fun q => ?_, fun q => absurd rfl q⟩
              exact h
            · replace h := h.2 c
              refine ⟨Or.inr rfl, ?_⟩
              refine ⟨Or.inr rfl, ?_⟩
              refine ⟨fun q => absurd q (by decide), fun q => ?_⟩
              exact h

set_option maxRecDepth 20000 in
/-- FrameCounty shop(II)I, from 0 -/
theorem iv_141_0 {G : ab_G} {L : Nat} {xs : Nat → Int32} {l : Launch} {d : Nat} {i1 : Int32} {i2 : Int32} {V : aa_V} {K : aa_K} (h :
    (i1 < (0 : Int32) →
      K (some (.int (-2 : Int32))) V) ∧
    (¬ i1 < (0 : Int32) →
      ((7 : Int32) < i1 →
        K (some (.int (-2 : Int32))) V) ∧
      (¬ (7 : Int32) < i1 →
        (i2 < (0 : Int32) →
          K (some (.int (-2 : Int32))) V) ∧
        (¬ i2 < (0 : Int32) →
          ((99 : Int32) < i2 →
            K (some (.int (-2 : Int32))) V) ∧
          (¬ (99 : Int32) < i2 →
            ((V 29 0) < (8 : Int32) →
              vp_in (V 29 0) 8 ∧
              vp_in (V 29 0) 8 ∧
              K (some (.int (((V 29 0) + (1 : Int32)) - (1 : Int32)))) (aa_up (aa_up (aa_up V 30 (((V 29 0)).toNatClampNeg) i1) 31 (((V 29 0)).toNatClampNeg) i2) 29 0 ((V 29 0) + (1 : Int32)))) ∧
            (¬ (V 29 0) < (8 : Int32) →
              K (some (.int (-4 : Int32))) V)))))) :
    ab_E G (ac_ST L xs) l (d + 3) ac_SK 141 [.ref 0, .int i1, .int i2] V K := by
  refine vc_141_0 ?_
  refine vc_48_0 ?_
  refine vc_182_0 ?_
  refine ⟨fun c => ?_, fun c => ?_⟩
  · replace h := h.1 c
    refine ⟨Or.inl rfl, ?_⟩
    refine ⟨Or.inl rfl, ?_⟩
    refine ⟨fun q => ?_, fun q => absurd rfl q⟩
    exact h
  · replace h := h.2 c
    refine ⟨fun c => ?_, fun c => ?_⟩
    · replace h := h.1 c
      refine ⟨Or.inl rfl, ?_⟩
      refine ⟨Or.inl rfl, ?_⟩
      refine ⟨fun q => ?_, fun q => absurd rfl q⟩
      exact h
    · replace h := h.2 c
      refine ⟨Or.inr rfl, ?_⟩
      refine ⟨Or.inr rfl, ?_⟩
      refine ⟨fun q => absurd q (by decide), fun q => ?_⟩
      refine vc_104_0 ?_
      refine vc_182_0 ?_
      refine ⟨fun c => ?_, fun c => ?_⟩
      · replace h := h.1 c
        refine ⟨Or.inl rfl, ?_⟩
        refine ⟨Or.inl rfl, ?_⟩
        refine ⟨fun q => ?_, fun q => absurd rfl q⟩
        exact h
      · replace h := h.2 c
        refine ⟨fun c => ?_, fun c => ?_⟩
        · replace h := h.1 c
          refine ⟨Or.inl rfl, ?_⟩
          refine ⟨Or.inl rfl, ?_⟩
          refine ⟨fun q => ?_, fun q => absurd rfl q⟩
          exact h
        · replace h := h.2 c
          refine ⟨Or.inr rfl, ?_⟩
          refine ⟨Or.inr rfl, ?_⟩
          refine ⟨fun q => absurd q (by decide), fun q => ?_⟩
          refine vc_117_0 ?_
          refine ⟨fun c => ?_, fun c => ?_⟩
          · replace h := h.1 c
            refine ⟨h.1, ?_⟩
            replace h := h.2
            refine ⟨h.1, ?_⟩
            replace h := h.2
            exact h
          · replace h := h.2 c
            exact h

set_option maxRecDepth 20000 in
/-- FrameCounty pays(II)I, from 0 -/
theorem iv_142_0 {G : ab_G} {L : Nat} {xs : Nat → Int32} {l : Launch} {d : Nat} {i1 : Int32} {i2 : Int32} {V : aa_V} {K : aa_K} (h :
    (i1 < (0 : Int32) →
      K (some (.int (-2 : Int32))) V) ∧
    (¬ i1 < (0 : Int32) →
      (((V 29 0) - (1 : Int32)) < i1 →
        K (some (.int (-2 : Int32))) V) ∧
      (¬ ((V 29 0) - (1 : Int32)) < i1 →
        (i2 < (0 : Int32) →
          K (some (.int (-2 : Int32))) V) ∧
        (¬ i2 < (0 : Int32) →
          ((99 : Int32) < i2 →
            K (some (.int (-2 : Int32))) V) ∧
          (¬ (99 : Int32) < i2 →
            vp_in i1 8 ∧
            vp_in i1 8 ∧
            K (some (.int (V 31 ((i1).toNatClampNeg)))) (aa_up V 31 ((i1).toNatClampNeg) i2)))))) :
    ab_E G (ac_ST L xs) l (d + 3) ac_SK 142 [.ref 0, .int i1, .int i2] V K := by
  refine vc_142_0 ?_
  refine vc_107_0 ?_
  refine vc_182_0 ?_
  refine ⟨fun c => ?_, fun c => ?_⟩
  · replace h := h.1 c
    refine ⟨Or.inl rfl, ?_⟩
    refine ⟨Or.inl rfl, ?_⟩
    refine ⟨fun q => ?_, fun q => absurd rfl q⟩
    exact h
  · replace h := h.2 c
    refine ⟨fun c => ?_, fun c => ?_⟩
    · replace h := h.1 c
      refine ⟨Or.inl rfl, ?_⟩
      refine ⟨Or.inl rfl, ?_⟩
      refine ⟨fun q => ?_, fun q => absurd rfl q⟩
      exact h
    · replace h := h.2 c
      refine ⟨Or.inr rfl, ?_⟩
      refine ⟨Or.inr rfl, ?_⟩
      refine ⟨fun q => absurd q (by decide), fun q => ?_⟩
      refine vc_104_0 ?_
      refine vc_182_0 ?_
      refine ⟨fun c => ?_, fun c => ?_⟩
      · replace h := h.1 c
        refine ⟨Or.inl rfl, ?_⟩
        refine ⟨Or.inl rfl, ?_⟩
        refine ⟨fun q => ?_, fun q => absurd rfl q⟩
        exact h
      · replace h := h.2 c
        refine ⟨fun c => ?_, fun c => ?_⟩
        · replace h := h.1 c
          refine ⟨Or.inl rfl, ?_⟩
          refine ⟨Or.inl rfl, ?_⟩
          refine ⟨fun q => ?_, fun q => absurd rfl q⟩
          exact h
        · replace h := h.2 c
          refine ⟨Or.inr rfl, ?_⟩
          refine ⟨Or.inr rfl, ?_⟩
          refine ⟨fun q => absurd q (by decide), fun q => ?_⟩
          refine vc_118_0 ?_
          refine ⟨h.1, ?_⟩
          replace h := h.2
          refine ⟨h.1, ?_⟩
          replace h := h.2
          exact h

set_option maxRecDepth 20000 in
/-- FrameCounty frame(IIII)I, from 0 -/
theorem iv_143_0 {G : ab_G} {L : Nat} {xs : Nat → Int32} {l : Launch} {d : Nat} {i1 : Int32} {i2 : Int32} {i3 : Int32} {i4 : Int32} {V : aa_V} {K : aa_K} (h :
    (i1 < (0 : Int32) →
      K (some (.int (-2 : Int32))) V) ∧
    (¬ i1 < (0 : Int32) →
      ((5 : Int32) < i1 →
        K (some (.int (-2 : Int32))) V) ∧
      (¬ (5 : Int32) < i1 →
        (i2 < (0 : Int32) →
          K (some (.int (-2 : Int32))) V) ∧
        (¬ i2 < (0 : Int32) →
          (((V 29 0) - (1 : Int32)) < i2 →
            K (some (.int (-2 : Int32))) V) ∧
          (¬ ((V 29 0) - (1 : Int32)) < i2 →
            (i3 < (10 : Int32) →
              K (some (.int (-2 : Int32))) V) ∧
            (¬ i3 < (10 : Int32) →
              ((60 : Int32) < i3 →
                K (some (.int (-2 : Int32))) V) ∧
              (¬ (60 : Int32) < i3 →
                (i4 < (0 : Int32) →
                  K (some (.int (-2 : Int32))) V) ∧
                (¬ i4 < (0 : Int32) →
                  ((99 : Int32) < i4 →
                    K (some (.int (-2 : Int32))) V) ∧
                  (¬ (99 : Int32) < i4 →
                    ((V 29 3) < (20 : Int32) →
                      vp_in (V 29 3) 20 ∧
                      vp_in (V 29 3) 20 ∧
                      vp_in (V 29 3) 20 ∧
                      vp_in (V 29 3) 20 ∧
                      K (some (.int (((V 29 3) + (1 : Int32)) - (1 : Int32)))) (aa_up (aa_up (aa_up (aa_up (aa_up V 32 (((V 29 3)).toNatClampNeg) i1) 33 (((V 29 3)).toNatClampNeg) i2) 34 (((V 29 3)).toNatClampNeg) i3) 35 (((V 29 3)).toNatClampNeg) i4) 29 3 ((V 29 3) + (1 : Int32)))) ∧
                    (¬ (V 29 3) < (20 : Int32) →
                      K (some (.int (-4 : Int32))) V)))))))))) :
    ab_E G (ac_ST L xs) l (d + 3) ac_SK 143 [.ref 0, .int i1, .int i2, .int i3, .int i4] V K := by
  refine vc_143_0 ?_
  refine vc_105_0 ?_
  refine vc_182_0 ?_
  refine ⟨fun c => ?_, fun c => ?_⟩
  · replace h := h.1 c
    refine ⟨Or.inl rfl, ?_⟩
    refine ⟨Or.inl rfl, ?_⟩
    refine ⟨fun q => ?_, fun q => absurd rfl q⟩
    exact h
  · replace h := h.2 c
    refine ⟨fun c => ?_, fun c => ?_⟩
    · replace h := h.1 c
      refine ⟨Or.inl rfl, ?_⟩
      refine ⟨Or.inl rfl, ?_⟩
      refine ⟨fun q => ?_, fun q => absurd rfl q⟩
      exact h
    · replace h := h.2 c
      refine ⟨Or.inr rfl, ?_⟩
      refine ⟨Or.inr rfl, ?_⟩
      refine ⟨fun q => absurd q (by decide), fun q => ?_⟩
      refine vc_107_0 ?_
      refine vc_182_0 ?_
      refine ⟨fun c => ?_, fun c => ?_⟩
      · replace h := h.1 c
        refine ⟨Or.inl rfl, ?_⟩
        refine ⟨Or.inl rfl, ?_⟩
        refine ⟨fun q => ?_, fun q => absurd rfl q⟩
        exact h
      · replace h := h.2 c
        refine ⟨fun c => ?_, fun c => ?_⟩
        · replace h := h.1 c
          refine ⟨Or.inl rfl, ?_⟩
          refine ⟨Or.inl rfl, ?_⟩
          refine ⟨fun q => ?_, fun q => absurd rfl q⟩
          exact h
        · replace h := h.2 c
          refine ⟨Or.inr rfl, ?_⟩
          refine ⟨Or.inr rfl, ?_⟩
          refine ⟨fun q => absurd q (by decide), fun q => ?_⟩
          refine vc_106_0 ?_
          refine vc_182_0 ?_
          refine ⟨fun c => ?_, fun c => ?_⟩
          · replace h := h.1 c
            refine ⟨Or.inl rfl, ?_⟩
            refine ⟨Or.inl rfl, ?_⟩
            refine ⟨fun q => ?_, fun q => absurd rfl q⟩
            exact h
          · replace h := h.2 c
            refine ⟨fun c => ?_, fun c => ?_⟩
            · replace h := h.1 c
              refine ⟨Or.inl rfl, ?_⟩
              refine ⟨Or.inl rfl, ?_⟩
              refine ⟨fun q => ?_, fun q => absurd rfl q⟩
              exact h
            · replace h := h.2 c
              refine ⟨Or.inr rfl, ?_⟩
              refine ⟨Or.inr rfl, ?_⟩
              refine ⟨fun q => absurd q (by decide), fun q => ?_⟩
              refine vc_182_0 ?_
              refine ⟨fun c => ?_, fun c => ?_⟩
              · replace h := h.1 c
                refine ⟨Or.inl rfl, ?_⟩
                refine ⟨fun q => ?_, fun q => absurd rfl q⟩
                exact h
              · replace h := h.2 c
                refine ⟨fun c => ?_, fun c => ?_⟩
                · replace h := h.1 c
                  refine ⟨Or.inl rfl, ?_⟩
                  refine ⟨fun q => ?_, fun q => absurd rfl q⟩
                  exact h
                · replace h := h.2 c
                  refine ⟨Or.inr rfl, ?_⟩
                  refine ⟨fun q => absurd q (by decide), fun q => ?_⟩
                  refine vc_119_0 ?_
                  refine ⟨fun c => ?_, fun c => ?_⟩
                  · replace h := h.1 c
                    refine ⟨h.1, ?_⟩
                    replace h := h.2
                    refine ⟨h.1, ?_⟩
                    replace h := h.2
                    refine ⟨h.1, ?_⟩
                    replace h := h.2
                    refine ⟨h.1, ?_⟩
                    replace h := h.2
                    exact h
                  · replace h := h.2 c
                    exact h

set_option maxRecDepth 20000 in
/-- FrameCounty frameTold(II)J, from 0 -/
theorem iv_144_0 {G : ab_G} {L : Nat} {xs : Nat → Int32} {l : Launch} {d : Nat} {i1 : Int32} {i2 : Int32} {V : aa_V} {K : aa_K} (h :
    (i1 < (0 : Int32) →
      K (some (.long (-4611686018427387904 : Int64))) V) ∧
    (¬ i1 < (0 : Int32) →
      (((V 29 3) - (1 : Int32)) < i1 →
        K (some (.long (-4611686018427387904 : Int64))) V) ∧
      (¬ ((V 29 3) - (1 : Int32)) < i1 →
        ab_E G (ac_ST L xs) l (d + 2) ac_SK 120 [.ref 29, .int i1, .int i2] V (aa_rL (fun x1 V1 =>
          K (some (.long x1)) V1))))) :
    ab_E G (ac_ST L xs) l (d + 3) ac_SK 144 [.ref 0, .int i1, .int i2] V K := by
  refine vc_144_0 ?_
  refine vc_108_0 ?_
  refine vc_182_0 ?_
  refine ⟨fun c => ?_, fun c => ?_⟩
  · replace h := h.1 c
    refine ⟨Or.inl rfl, ?_⟩
    refine ⟨Or.inl rfl, ?_⟩
    refine ⟨fun q => ?_, fun q => absurd rfl q⟩
    exact h
  · replace h := h.2 c
    refine ⟨fun c => ?_, fun c => ?_⟩
    · replace h := h.1 c
      refine ⟨Or.inl rfl, ?_⟩
      refine ⟨Or.inl rfl, ?_⟩
      refine ⟨fun q => ?_, fun q => absurd rfl q⟩
      exact h
    · replace h := h.2 c
      refine ⟨Or.inr rfl, ?_⟩
      refine ⟨Or.inr rfl, ?_⟩
      refine ⟨fun q => absurd q (by decide), fun q => ?_⟩
      exact h

set_option maxRecDepth 20000 in
/-- FrameCounty mend(II)I, from 0 -/
theorem iv_145_0 {G : ab_G} {L : Nat} {xs : Nat → Int32} {l : Launch} {d : Nat} {i1 : Int32} {i2 : Int32} {V : aa_V} {K : aa_K} (h :
    (i1 < (0 : Int32) →
      K (some (.int (-2 : Int32))) V) ∧
    (¬ i1 < (0 : Int32) →
      (((V 29 3) - (1 : Int32)) < i1 →
        K (some (.int (-2 : Int32))) V) ∧
      (¬ ((V 29 3) - (1 : Int32)) < i1 →
        (i2 < (0 : Int32) →
          K (some (.int (-2 : Int32))) V) ∧
        (¬ i2 < (0 : Int32) →
          ((2 : Int32) < i2 →
            K (some (.int (-2 : Int32))) V) ∧
          (¬ (2 : Int32) < i2 →
            ab_E G (ac_ST L xs) l (d + 2) ac_SK 121 [.ref 29, .int i1, .int i2] V (aa_rI (fun x1 V1 =>
              (x1 = 0 →
                K (some (.int (-3 : Int32))) V1) ∧
              (¬ x1 = 0 →
                K (some (.int (1 : Int32))) V1)))))))) :
    ab_E G (ac_ST L xs) l (d + 3) ac_SK 145 [.ref 0, .int i1, .int i2] V K := by
  refine vc_145_0 ?_
  refine vc_108_0 ?_
  refine vc_182_0 ?_
  refine ⟨fun c => ?_, fun c => ?_⟩
  · replace h := h.1 c
    refine ⟨Or.inl rfl, ?_⟩
    refine ⟨Or.inl rfl, ?_⟩
    refine ⟨fun q => ?_, fun q => absurd rfl q⟩
    exact h
  · replace h := h.2 c
    refine ⟨fun c => ?_, fun c => ?_⟩
    · replace h := h.1 c
      refine ⟨Or.inl rfl, ?_⟩
      refine ⟨Or.inl rfl, ?_⟩
      refine ⟨fun q => ?_, fun q => absurd rfl q⟩
      exact h
    · replace h := h.2 c
      refine ⟨Or.inr rfl, ?_⟩
      refine ⟨Or.inr rfl, ?_⟩
      refine ⟨fun q => absurd q (by decide), fun q => ?_⟩
      refine vc_182_0 ?_
      refine ⟨fun c => ?_, fun c => ?_⟩
      · replace h := h.1 c
        refine ⟨Or.inl rfl, ?_⟩
        refine ⟨fun q => ?_, fun q => absurd rfl q⟩
        exact h
      · replace h := h.2 c
        refine ⟨fun c => ?_, fun c => ?_⟩
        · replace h := h.1 c
          refine ⟨Or.inl rfl, ?_⟩
          refine ⟨fun q => ?_, fun q => absurd rfl q⟩
          exact h
        · replace h := h.2 c
          refine ⟨Or.inr rfl, ?_⟩
          refine ⟨fun q => absurd q (by decide), fun q => ?_⟩
          exact h

set_option maxRecDepth 20000 in
/-- FrameCounty keeps(I)I, from 0 -/
theorem iv_146_0 {G : ab_G} {L : Nat} {xs : Nat → Int32} {l : Launch} {d : Nat} {i1 : Int32} {V : aa_V} {K : aa_K} (h :
    (i1 < (0 : Int32) →
      K (some (.int (-2 : Int32))) V) ∧
    (¬ i1 < (0 : Int32) →
      (((V 29 0) - (1 : Int32)) < i1 →
        K (some (.int (-2 : Int32))) V) ∧
      (¬ ((V 29 0) - (1 : Int32)) < i1 →
        ab_J G (ac_ST L xs) l (d + 3) 146 16 [some (.ref 0), some (.int i1), some (.int (0 : Int32))] [] ac_SK V ac_SK K))) :
    ab_E G (ac_ST L xs) l (d + 3) ac_SK 146 [.ref 0, .int i1] V K := by
  refine vc_146_0 ?_
  refine vc_107_0 ?_
  refine vc_182_0 ?_
  refine ⟨fun c => ?_, fun c => ?_⟩
  · replace h := h.1 c
    refine ⟨Or.inl rfl, ?_⟩
    refine ⟨Or.inl rfl, ?_⟩
    refine ⟨fun q => ?_, fun q => absurd rfl q⟩
    exact h
  · replace h := h.2 c
    refine ⟨fun c => ?_, fun c => ?_⟩
    · replace h := h.1 c
      refine ⟨Or.inl rfl, ?_⟩
      refine ⟨Or.inl rfl, ?_⟩
      refine ⟨fun q => ?_, fun q => absurd rfl q⟩
      exact h
    · replace h := h.2 c
      refine ⟨Or.inr rfl, ?_⟩
      refine ⟨Or.inr rfl, ?_⟩
      refine ⟨fun q => absurd q (by decide), fun q => ?_⟩
      exact h

set_option maxRecDepth 20000 in
/-- FrameCounty keeps(I)I, from 16 -/
theorem iv_146_16 {G : ab_G} {L : Nat} {xs : Nat → Int32} {l : Launch} {d : Nat} {i1 : Int32} {i2 : Int32} {V : aa_V} {K : aa_K} (h :
    (i2 < (V 29 3) →
      vp_in i2 20 ∧
      ((V 33 ((i2).toNatClampNeg)) = i1 →
        vp_in i2 20 ∧
        ((V 36 ((i2).toNatClampNeg)) = 0 →
          vp_in i1 8 ∧
          ab_E G (ac_ST L xs) l (d + 2) ac_SK 187 [.ref 0, .int i2] V (aa_rI (fun x1 V1 =>
            ((V 31 ((i1).toNatClampNeg)) < x1 →
              K (some (.int (0 : Int32))) V1) ∧
            (¬ (V 31 ((i1).toNatClampNeg)) < x1 →
              ab_J G (ac_ST L xs) l (d + 3) 146 16 [some (.ref 0), some (.int i1), some (.int (i2 + 1))] [] ac_SK V1 ac_SK K)))) ∧
        (¬ (V 36 ((i2).toNatClampNeg)) = 0 →
          ab_J G (ac_ST L xs) l (d + 3) 146 16 [some (.ref 0), some (.int i1), some (.int (i2 + 1))] [] ac_SK V ac_SK K)) ∧
      (¬ (V 33 ((i2).toNatClampNeg)) = i1 →
        ab_J G (ac_ST L xs) l (d + 3) 146 16 [some (.ref 0), some (.int i1), some (.int (i2 + 1))] [] ac_SK V ac_SK K)) ∧
    (¬ i2 < (V 29 3) →
      K (some (.int (1 : Int32))) V)) :
    ab_J G (ac_ST L xs) l (d + 3) 146 16 [some (.ref 0), some (.int i1), some (.int i2)] [] ac_SK V ac_SK K := by
  refine vc_146_16 ?_
  refine vc_110_0 ?_
  refine ⟨fun c => ?_, fun c => ?_⟩
  · replace h := h.1 c
    refine vc_114_0 ?_
    refine ⟨h.1, ?_⟩
    replace h := h.2
    refine ⟨fun c => ?_, fun c => ?_⟩
    · replace h := h.1 c
      refine vc_116_0 ?_
      refine ⟨h.1, ?_⟩
      replace h := h.2
      refine ⟨fun c => ?_, fun c => ?_⟩
      · replace h := h.1 c
        refine ⟨Or.inr rfl, ?_⟩
        refine ⟨fun q => absurd q (by decide), fun q => ?_⟩
        refine vc_112_0 ?_
        refine ⟨h.1, ?_⟩
        replace h := h.2
        exact h
      · replace h := h.2 c
        refine ⟨Or.inl rfl, ?_⟩
        refine ⟨fun q => ?_, fun q => absurd rfl q⟩
        exact h
    · replace h := h.2 c
      exact h
  · replace h := h.2 c
    exact h

set_option maxRecDepth 20000 in
/-- FrameCounty earns(I)J, from 0 -/
theorem iv_147_0 {G : ab_G} {L : Nat} {xs : Nat → Int32} {l : Launch} {d : Nat} {i1 : Int32} {V : aa_V} {K : aa_K} (h :
    (i1 < (0 : Int32) →
      K (some (.long (-4611686018427387904 : Int64))) V) ∧
    (¬ i1 < (0 : Int32) →
      (((V 29 0) - (1 : Int32)) < i1 →
        K (some (.long (-4611686018427387904 : Int64))) V) ∧
      (¬ ((V 29 0) - (1 : Int32)) < i1 →
        ab_E G (ac_ST L xs) l (d + 2) ac_SK 128 [.ref 29, .int i1] V (aa_rI (fun x1 V1 =>
          K (some (.long (x1.toInt64))) V1))))) :
    ab_E G (ac_ST L xs) l (d + 3) ac_SK 147 [.ref 0, .int i1] V K := by
  refine vc_147_0 ?_
  refine vc_107_0 ?_
  refine vc_182_0 ?_
  refine ⟨fun c => ?_, fun c => ?_⟩
  · replace h := h.1 c
    refine ⟨Or.inl rfl, ?_⟩
    refine ⟨Or.inl rfl, ?_⟩
    refine ⟨fun q => ?_, fun q => absurd rfl q⟩
    exact h
  · replace h := h.2 c
    refine ⟨fun c => ?_, fun c => ?_⟩
    · replace h := h.1 c
      refine ⟨Or.inl rfl, ?_⟩
      refine ⟨Or.inl rfl, ?_⟩
      refine ⟨fun q => ?_, fun q => absurd rfl q⟩
      exact h
    · replace h := h.2 c
      refine ⟨Or.inr rfl, ?_⟩
      refine ⟨Or.inr rfl, ?_⟩
      refine ⟨fun q => absurd q (by decide), fun q => ?_⟩
      exact h

set_option maxRecDepth 20000 in
/-- FrameCounty feed(IJ)I, from 0 -/
theorem iv_148_0 {G : ab_G} {L : Nat} {xs : Nat → Int32} {l : Launch} {d : Nat} {i1 : Int32} {l2 : Int64} {V : aa_V} {K : aa_K} (h :
    (i1 < (1 : Int32) →
      K (some (.int (-2 : Int32))) V) ∧
    (¬ i1 < (1 : Int32) →
      ((8 : Int32) < i1 →
        K (some (.int (-2 : Int32))) V) ∧
      (¬ (8 : Int32) < i1 →
        ab_E G (ac_ST L xs) l (d + 1) ac_SK 27 [.ref 80, .int i1, .long l2] V (aa_rI (fun x1 V1 =>
          K (some (.int x1)) V1))))) :
    ab_E G (ac_ST L xs) l (d + 2) ac_SK 148 [.ref 0, .int i1, .long l2] V K := by
  refine vc_148_0 ?_
  refine vc_182_0 ?_
  refine ⟨fun c => ?_, fun c => ?_⟩
  · replace h := h.1 c
    refine ⟨Or.inl rfl, ?_⟩
    refine ⟨fun q => ?_, fun q => absurd rfl q⟩
    exact h
  · replace h := h.2 c
    refine ⟨fun c => ?_, fun c => ?_⟩
    · replace h := h.1 c
      refine ⟨Or.inl rfl, ?_⟩
      refine ⟨fun q => ?_, fun q => absurd rfl q⟩
      exact h
    · replace h := h.2 c
      refine ⟨Or.inr rfl, ?_⟩
      refine ⟨fun q => absurd q (by decide), fun q => ?_⟩
      exact h

set_option maxRecDepth 20000 in
/-- FrameCounty text()I, from 0 -/
theorem iv_149_0 {G : ab_G} {L : Nat} {xs : Nat → Int32} {l : Launch} {d : Nat} {V : aa_V} {K : aa_K} (h :
    ((V 0 11) < (6 : Int32) →
      ∃ (n1 : Nat) (rs1 : List Nat) (q1 : Nat), aa_sh ac_SK 85 = some (102, n1, rs1) ∧ vp_in (V 0 11) n1 ∧ aa_nth rs1 ((V 0 11)).toNatClampNeg = q1 + 1 ∧
      ab_E G (ac_ST L xs) l (d + 1) ac_SK 28 [.ref 80, .ref q1] V (aa_rI (fun x2 V2 =>
        (x2 < 0 →
          K (some (.int (((V2 0 11) + (1 : Int32)) - (1 : Int32)))) (aa_up V2 0 11 ((V2 0 11) + (1 : Int32)))) ∧
        (¬ x2 < 0 →
          K (some (.int ((-100 : Int32) - x2))) V2)))) ∧
    (¬ (V 0 11) < (6 : Int32) →
      K (some (.int (-4 : Int32))) V)) :
    ab_E G (ac_ST L xs) l (d + 2) ac_SK 149 [.ref 0] V K := by
  refine vc_149_0 ?_
  exact h

set_option maxRecDepth 20000 in
/-- FrameCounty says(II)J, from 0 -/
theorem iv_151_0 {G : ab_G} {L : Nat} {xs : Nat → Int32} {l : Launch} {d : Nat} {i1 : Int32} {i2 : Int32} {V : aa_V} {K : aa_K} (h :
    (i1 = 0 →
      (i2 < (0 : Int32) →
        (i1 = (1 : Int32) →
          (i2 < (0 : Int32) →
            K (some (.long (-4611686018427387904 : Int64))) V) ∧
          (¬ i2 < (0 : Int32) →
            (((V 42 2) - (1 : Int32)) < i2 →
              K (some (.long (-4611686018427387904 : Int64))) V) ∧
            (¬ ((V 42 2) - (1 : Int32)) < i2 →
              ab_E G (ac_ST L xs) l (d + 2) ac_SK 90 [.ref 42, .int (V 0 13)] V (aa_rI (fun x1 V1 =>
                ab_E G (ac_ST L xs) l (d + 2) ac_SK 188 [.ref 0, .int i2, .int (V 0 13), .int x1, .int (-1 : Int32)] V1 (aa_rI (fun x2 V2 =>
                  K (some (.long (x2.toInt64))) V2))))))) ∧
        (¬ i1 = (1 : Int32) →
          K (some (.long (-4611686018427387904 : Int64))) V)) ∧
      (¬ i2 < (0 : Int32) →
        (((V 29 3) - (1 : Int32)) < i2 →
          (i1 = (1 : Int32) →
            (i2 < (0 : Int32) →
              K (some (.long (-4611686018427387904 : Int64))) V) ∧
            (¬ i2 < (0 : Int32) →
              (((V 42 2) - (1 : Int32)) < i2 →
                K (some (.long (-4611686018427387904 : Int64))) V) ∧
              (¬ ((V 42 2) - (1 : Int32)) < i2 →
                ab_E G (ac_ST L xs) l (d + 2) ac_SK 90 [.ref 42, .int (V 0 13)] V (aa_rI (fun x1 V1 =>
                  ab_E G (ac_ST L xs) l (d + 2) ac_SK 188 [.ref 0, .int i2, .int (V 0 13), .int x1, .int (-1 : Int32)] V1 (aa_rI (fun x2 V2 =>
                    K (some (.long (x2.toInt64))) V2))))))) ∧
          (¬ i1 = (1 : Int32) →
            K (some (.long (-4611686018427387904 : Int64))) V)) ∧
        (¬ ((V 29 3) - (1 : Int32)) < i2 →
          ab_E G (ac_ST L xs) l (d + 2) ac_SK 187 [.ref 0, .int i2] V (aa_rI (fun x1 V1 =>
            K (some (.long (x1.toInt64))) V1))))) ∧
    (¬ i1 = 0 →
      (i1 = (1 : Int32) →
        (i2 < (0 : Int32) →
          K (some (.long (-4611686018427387904 : Int64))) V) ∧
        (¬ i2 < (0 : Int32) →
          (((V 42 2) - (1 : Int32)) < i2 →
            K (some (.long (-4611686018427387904 : Int64))) V) ∧
          (¬ ((V 42 2) - (1 : Int32)) < i2 →
            ab_E G (ac_ST L xs) l (d + 2) ac_SK 90 [.ref 42, .int (V 0 13)] V (aa_rI (fun x1 V1 =>
              ab_E G (ac_ST L xs) l (d + 2) ac_SK 188 [.ref 0, .int i2, .int (V 0 13), .int x1, .int (-1 : Int32)] V1 (aa_rI (fun x2 V2 =>
                K (some (.long (x2.toInt64))) V2))))))) ∧
      (¬ i1 = (1 : Int32) →
        K (some (.long (-4611686018427387904 : Int64))) V))) :
    ab_E G (ac_ST L xs) l (d + 3) ac_SK 151 [.ref 0, .int i1, .int i2] V K := by
  refine vc_151_0 ?_
  refine ⟨fun c => ?_, fun c => ?_⟩
  · replace h := h.1 c
    refine vc_108_0 ?_
    refine vc_182_0 ?_
    refine ⟨fun c => ?_, fun c => ?_⟩
    · replace h := h.1 c
      refine ⟨Or.inl rfl, ?_⟩
      refine ⟨Or.inl rfl, ?_⟩
      refine ⟨fun q => ?_, fun q => absurd rfl q⟩
      refine ⟨fun c => ?_, fun c => ?_⟩
      · replace h := h.1 c
        refine vc_80_0 ?_
        refine vc_182_0 ?_
        refine ⟨fun c => ?_, fun c => ?_⟩
        · replace h := h.1 c
          refine ⟨Or.inl rfl, ?_⟩
          refine ⟨Or.inl rfl, ?_⟩
          refine ⟨fun q => ?_, fun q => absurd rfl q⟩
          exact h
        · replace h := h.2 c
          refine ⟨fun c => ?_, fun c => ?_⟩
          · replace h := h.1 c
            refine ⟨Or.inl rfl, ?_⟩
            refine ⟨Or.inl rfl, ?_⟩
            refine ⟨fun q => ?_, fun q => absurd rfl q⟩
            exact h
          · replace h := h.2 c
            refine ⟨Or.inr rfl, ?_⟩
            refine ⟨Or.inr rfl, ?_⟩
            refine ⟨fun q => absurd q (by decide), fun q => ?_⟩
            exact h
      · replace h := h.2 c
        exact h
    · replace h := h.2 c
      refine ⟨fun c => ?_, fun c => ?_⟩
      · replace h := h.1 c
        refine ⟨Or.inl rfl, ?_⟩
        refine ⟨Or.inl rfl, ?_⟩
        refine ⟨fun q => ?_, fun q => absurd rfl q⟩
        refine ⟨fun c => ?_, fun c => ?_⟩
        · replace h := h.1 c
          refine vc_80_0 ?_
          refine vc_182_0 ?_
          refine ⟨fun c => ?_, fun c => ?_⟩
          · replace h := h.1 c
            refine ⟨Or.inl rfl, ?_⟩
            refine ⟨Or.inl rfl, ?_⟩
            refine ⟨fun q => ?_, fun q => absurd rfl q⟩
            exact h
          · replace h := h.2 c
            refine ⟨fun c => ?_, fun c => ?_⟩
            · replace h := h.1 c
              refine ⟨Or.inl rfl, ?_⟩
              refine ⟨Or.inl rfl, ?_⟩
              refine ⟨fun q => ?_, fun q => absurd rfl q⟩
              exact h
            · replace h := h.2 c
              refine ⟨Or.inr rfl, ?_⟩
              refine ⟨Or.inr rfl, ?_⟩
              refine ⟨fun q => absurd q (by decide), fun q => ?_⟩
              exact h
        · replace h := h.2 c
          exact h
      · replace h := h.2 c
        refine ⟨Or.inr rfl, ?_⟩
        refine ⟨Or.inr rfl, ?_⟩
        refine ⟨fun q => absurd q (by decide), fun q => ?_⟩
        exact h
  · replace h := h.2 c
    refine ⟨fun c => ?_, fun c => ?_⟩
    · replace h := h.1 c
      refine vc_80_0 ?_
      refine vc_182_0 ?_
      refine ⟨fun c => ?_, fun c => ?_⟩
      · replace h := h.1 c
        refine ⟨Or.inl rfl, ?_⟩
        refine ⟨Or.inl rfl, ?_⟩
        refine ⟨fun q => ?_, fun q => absurd rfl q⟩
        exact h
      · replace h := h.2 c
        refine ⟨fun c => ?_, fun c => ?_⟩
        · replace h := h.1 c
          refine ⟨Or.inl rfl, ?_⟩
          refine ⟨Or.inl rfl, ?_⟩
          refine ⟨fun q => ?_, fun q => absurd rfl q⟩
          exact h
        · replace h := h.2 c
          refine ⟨Or.inr rfl, ?_⟩
          refine ⟨Or.inr rfl, ?_⟩
          refine ⟨fun q => absurd q (by decide), fun q => ?_⟩
          exact h
    · replace h := h.2 c
      exact h

set_option maxRecDepth 20000 in
/-- FrameCounty raid(II)I, from 0 -/
theorem iv_152_0 {G : ab_G} {L : Nat} {xs : Nat → Int32} {l : Launch} {d : Nat} {i1 : Int32} {i2 : Int32} {V : aa_V} {K : aa_K} (h :
    (i1 < (0 : Int32) →
      K (some (.int (-2 : Int32))) V) ∧
    (¬ i1 < (0 : Int32) →
      (((V 29 3) - (1 : Int32)) < i1 →
        K (some (.int (-2 : Int32))) V) ∧
      (¬ ((V 29 3) - (1 : Int32)) < i1 →
        (i2 < (0 : Int32) →
          K (some (.int (-2 : Int32))) V) ∧
        (¬ i2 < (0 : Int32) →
          ((11 : Int32) < i2 →
            K (some (.int (-2 : Int32))) V) ∧
          (¬ (11 : Int32) < i2 →
            vp_in i1 20 ∧
            ((V 36 ((i1).toNatClampNeg)) = 0 →
              ((V 38 1) < (30 : Int32) →
                vp_in i1 20 ∧
                vp_in i1 20 ∧
                vp_in (V 38 1) 30 ∧
                vp_in (V 38 1) 30 ∧
                vp_in (V 38 1) 30 ∧
                K (some (.int (((V 38 1) + (1 : Int32)) - (1 : Int32)))) (aa_up (aa_up (aa_up (aa_up (aa_up (aa_up V 36 ((i1).toNatClampNeg) (1 : Int32)) 37 ((i1).toNatClampNeg) (V 0 13)) 39 (((V 38 1)).toNatClampNeg) i1) 40 (((V 38 1)).toNatClampNeg) (V 0 13)) 41 (((V 38 1)).toNatClampNeg) i2) 38 1 ((V 38 1) + (1 : Int32)))) ∧
              (¬ (V 38 1) < (30 : Int32) →
                K (some (.int (-4 : Int32))) V)) ∧
            (¬ (V 36 ((i1).toNatClampNeg)) = 0 →
              K (some (.int (-3 : Int32))) V)))))) :
    ab_E G (ac_ST L xs) l (d + 3) ac_SK 152 [.ref 0, .int i1, .int i2] V K := by
  refine vc_152_0 ?_
  refine vc_108_0 ?_
  refine vc_182_0 ?_
  refine ⟨fun c => ?_, fun c => ?_⟩
  · replace h := h.1 c
    refine ⟨Or.inl rfl, ?_⟩
    refine ⟨Or.inl rfl, ?_⟩
    refine ⟨fun q => ?_, fun q => absurd rfl q⟩
    exact h
  · replace h := h.2 c
    refine ⟨fun c => ?_, fun c => ?_⟩
    · replace h := h.1 c
      refine ⟨Or.inl rfl, ?_⟩
      refine ⟨Or.inl rfl, ?_⟩
      refine ⟨fun q => ?_, fun q => absurd rfl q⟩
      exact h
    · replace h := h.2 c
      refine ⟨Or.inr rfl, ?_⟩
      refine ⟨Or.inr rfl, ?_⟩
      refine ⟨fun q => absurd q (by decide), fun q => ?_⟩
      refine vc_184_0 ?_
      refine vc_182_0 ?_
      refine ⟨fun c => ?_, fun c => ?_⟩
      · replace h := h.1 c
        refine ⟨Or.inl rfl, ?_⟩
        refine ⟨Or.inl rfl, ?_⟩
        refine ⟨fun q => ?_, fun q => absurd rfl q⟩
        exact h
      · replace h := h.2 c
        refine ⟨fun c => ?_, fun c => ?_⟩
        · replace h := h.1 c
          refine ⟨Or.inl rfl, ?_⟩
          refine ⟨Or.inl rfl, ?_⟩
          refine ⟨fun q => ?_, fun q => absurd rfl q⟩
          exact h
        · replace h := h.2 c
          refine ⟨Or.inr rfl, ?_⟩
          refine ⟨Or.inr rfl, ?_⟩
          refine ⟨fun q => absurd q (by decide), fun q => ?_⟩
          refine vc_116_0 ?_
          refine ⟨h.1, ?_⟩
          replace h := h.2
          refine ⟨fun c => ?_, fun c => ?_⟩
          · replace h := h.1 c
            refine ⟨Or.inr rfl, ?_⟩
            refine ⟨fun q => absurd q (by decide), fun q => ?_⟩
            refine vc_20_0 ?_
            refine ⟨fun c => ?_, fun c => ?_⟩
            · replace h := h.1 c
              refine vc_122_0 ?_
              refine ⟨h.1, ?_⟩
              replace h := h.2
              refine ⟨h.1, ?_⟩
              replace h := h.2
              refine ⟨h.1, ?_⟩
              replace h := h.2
              refine ⟨h.1, ?_⟩
              replace h := h.2
              refine ⟨h.1, ?_⟩
              replace h := h.2
              exact h
            · replace h := h.2 c
              exact h
          · replace h := h.2 c
            refine ⟨Or.inl rfl, ?_⟩
            refine ⟨fun q => ?_, fun q => absurd rfl q⟩
            exact h

set_option maxRecDepth 20000 in
/-- FrameCounty pattern(I)I, from 0 -/
theorem iv_153_0 {G : ab_G} {L : Nat} {xs : Nat → Int32} {l : Launch} {d : Nat} {i1 : Int32} {V : aa_V} {K : aa_K} (h :
    (i1 < (0 : Int32) →
      K (some (.int (-2 : Int32))) V) ∧
    (¬ i1 < (0 : Int32) →
      ((1 : Int32) < i1 →
        K (some (.int (-2 : Int32))) V) ∧
      (¬ (1 : Int32) < i1 →
        ab_E G (ac_ST L xs) l (d + 1) ac_SK 129 [.ref 29, .int (V 0 13)] V (aa_rI (fun x1 V1 =>
          (i1 = 0 →
            K (some (.int x1)) V1) ∧
          (¬ i1 = 0 →
            ab_E G (ac_ST L xs) l (d + 1) ac_SK 130 [.ref 29, .int x1] V1 (aa_rI (fun x2 V2 =>
              K (some (.int x2)) V2)))))))) :
    ab_E G (ac_ST L xs) l (d + 2) ac_SK 153 [.ref 0, .int i1] V K := by
  refine vc_153_0 ?_
  refine vc_182_0 ?_
  refine ⟨fun c => ?_, fun c => ?_⟩
  · replace h := h.1 c
    refine ⟨Or.inl rfl, ?_⟩
    refine ⟨fun q => ?_, fun q => absurd rfl q⟩
    exact h
  · replace h := h.2 c
    refine ⟨fun c => ?_, fun c => ?_⟩
    · replace h := h.1 c
      refine ⟨Or.inl rfl, ?_⟩
      refine ⟨fun q => ?_, fun q => absurd rfl q⟩
      exact h
    · replace h := h.2 c
      refine ⟨Or.inr rfl, ?_⟩
      refine ⟨fun q => absurd q (by decide), fun q => ?_⟩
      exact h

set_option maxRecDepth 20000 in
/-- FrameCounty left()I, from 0 -/
theorem iv_154_0 {G : ab_G} {L : Nat} {xs : Nat → Int32} {l : Launch} {d : Nat} {V : aa_V} {K : aa_K} (h :
    ab_E G (ac_ST L xs) l (d + 1) ac_SK 129 [.ref 29, .int (V 0 13)] V (aa_rI (fun x1 V1 =>
      ab_E G (ac_ST L xs) l (d + 1) ac_SK 130 [.ref 29, .int x1] V1 (aa_rI (fun x2 V2 =>
        ab_J G (ac_ST L xs) l (d + 2) 154 26 [some (.ref 0), some (.int (0 : Int32)), some (.int x1), some (.int x2), some (.int (0 : Int32))] [] ac_SK V2 ac_SK K))))) :
    ab_E G (ac_ST L xs) l (d + 2) ac_SK 154 [.ref 0] V K := by
  refine vc_154_0 ?_
  exact h

set_option maxRecDepth 20000 in
/-- FrameCounty left()I, from 26 -/
theorem iv_154_26 {G : ab_G} {L : Nat} {xs : Nat → Int32} {l : Launch} {d : Nat} {i1 : Int32} {i2 : Int32} {i3 : Int32} {i4 : Int32} {V : aa_V} {K : aa_K} (h :
    (i4 < (1500 : Int32) →
      ab_E G (ac_ST L xs) l (d + 1) ac_SK 134 [.ref 29, .int i4, .int i2, .int i3] V (aa_rI (fun x1 V1 =>
        (x1 = 0 →
          ab_J G (ac_ST L xs) l (d + 2) 154 26 [some (.ref 0), some (.int i1), some (.int i2), some (.int i3), some (.int (i4 + 1))] [] ac_SK V1 ac_SK K) ∧
        (¬ x1 = 0 →
          ab_J G (ac_ST L xs) l (d + 2) 154 26 [some (.ref 0), some (.int (i1 + 1)), some (.int i2), some (.int i3), some (.int (i4 + 1))] [] ac_SK V1 ac_SK K)))) ∧
    (¬ i4 < (1500 : Int32) →
      K (some (.int i1)) V)) :
    ab_J G (ac_ST L xs) l (d + 2) 154 26 [some (.ref 0), some (.int i1), some (.int i2), some (.int i3), some (.int i4)] [] ac_SK V ac_SK K := by
  refine vc_154_26 ?_
  exact h

set_option maxRecDepth 20000 in
/-- FrameCounty form(I)I, from 0 -/
theorem iv_155_0 {G : ab_G} {L : Nat} {xs : Nat → Int32} {l : Launch} {d : Nat} {i1 : Int32} {V : aa_V} {K : aa_K} (h :
    (i1 < 0 →
      K (some (.int (-1 : Int32))) V) ∧
    (¬ i1 < 0 →
      ab_E G (ac_ST L xs) l (d + 1) ac_SK 129 [.ref 29, .int (V 0 13)] V (aa_rI (fun x1 V1 =>
        ab_E G (ac_ST L xs) l (d + 1) ac_SK 130 [.ref 29, .int x1] V1 (aa_rI (fun x2 V2 =>
          ab_J G (ac_ST L xs) l (d + 2) 155 33 [some (.ref 0), none, some (.int i1), some (.int x1), some (.int x2), some (.int (0 : Int32))] [] ac_SK V2 ac_SK K)))))) :
    ab_E G (ac_ST L xs) l (d + 2) ac_SK 155 [.ref 0, .int i1] V K := by
  refine vc_155_0 ?_
  exact h

set_option maxRecDepth 20000 in
/-- FrameCounty form(I)I, from 33 -/
theorem iv_155_33 {G : ab_G} {L : Nat} {xs : Nat → Int32} {l : Launch} {d : Nat} {i2 : Int32} {i3 : Int32} {i4 : Int32} {i5 : Int32} {V : aa_V} {K : aa_K} (h :
    (i5 < (1500 : Int32) →
      ab_E G (ac_ST L xs) l (d + 1) ac_SK 134 [.ref 29, .int i5, .int i3, .int i4] V (aa_rI (fun x1 V1 =>
        (x1 = 0 →
          ab_J G (ac_ST L xs) l (d + 2) 155 33 [some (.ref 0), none, some (.int i2), some (.int i3), some (.int i4), some (.int (i5 + 1))] [] ac_SK V1 ac_SK K) ∧
        (¬ x1 = 0 →
          (i2 = 0 →
            K (some (.int i5)) V1) ∧
          (¬ i2 = 0 →
            ab_J G (ac_ST L xs) l (d + 2) 155 33 [some (.ref 0), none, some (.int (i2 + (-1))), some (.int i3), some (.int i4), some (.int (i5 + 1))] [] ac_SK V1 ac_SK K))))) ∧
    (¬ i5 < (1500 : Int32) →
      K (some (.int (-1 : Int32))) V)) :
    ab_J G (ac_ST L xs) l (d + 2) 155 33 [some (.ref 0), none, some (.int i2), some (.int i3), some (.int i4), some (.int i5)] [] ac_SK V ac_SK K := by
  refine vc_155_33 ?_
  exact h

set_option maxRecDepth 20000 in
/-- FrameCounty sends(I)I, from 0 -/
theorem iv_156_0 {G : ab_G} {L : Nat} {xs : Nat → Int32} {l : Launch} {d : Nat} {i1 : Int32} {V : aa_V} {K : aa_K} (h :
    (i1 < (0 : Int32) →
      K (some (.int (-2 : Int32))) V) ∧
    (¬ i1 < (0 : Int32) →
      ((1499 : Int32) < i1 →
        K (some (.int (-2 : Int32))) V) ∧
      (¬ (1499 : Int32) < i1 →
        ab_E G (ac_ST L xs) l (d + 1) ac_SK 129 [.ref 29, .int (V 0 13)] V (aa_rI (fun x1 V1 =>
          ab_E G (ac_ST L xs) l (d + 1) ac_SK 135 [.ref 29, .int i1, .int x1] V1 (aa_rI (fun x2 V2 =>
            K (some (.int x2)) V2))))))) :
    ab_E G (ac_ST L xs) l (d + 2) ac_SK 156 [.ref 0, .int i1] V K := by
  refine vc_156_0 ?_
  refine vc_182_0 ?_
  refine ⟨fun c => ?_, fun c => ?_⟩
  · replace h := h.1 c
    refine ⟨Or.inl rfl, ?_⟩
    refine ⟨fun q => ?_, fun q => absurd rfl q⟩
    exact h
  · replace h := h.2 c
    refine ⟨fun c => ?_, fun c => ?_⟩
    · replace h := h.1 c
      refine ⟨Or.inl rfl, ?_⟩
      refine ⟨fun q => ?_, fun q => absurd rfl q⟩
      exact h
    · replace h := h.2 c
      refine ⟨Or.inr rfl, ?_⟩
      refine ⟨fun q => absurd q (by decide), fun q => ?_⟩
      exact h

set_option maxRecDepth 20000 in
/-- FrameCounty person(I)I, from 0 -/
theorem iv_157_0 {G : ab_G} {L : Nat} {xs : Nat → Int32} {l : Launch} {d : Nat} {i1 : Int32} {V : aa_V} {K : aa_K} (h :
    (i1 < (0 : Int32) →
      K (some (.int (-2 : Int32))) V) ∧
    (¬ i1 < (0 : Int32) →
      ((7 : Int32) < i1 →
        K (some (.int (-2 : Int32))) V) ∧
      (¬ (7 : Int32) < i1 →
        ((V 42 2) < (12 : Int32) →
          vp_in (V 42 2) 12 ∧
          K (some (.int (((V 42 2) + (1 : Int32)) - (1 : Int32)))) (aa_up (aa_up V 43 (((V 42 2)).toNatClampNeg) i1) 42 2 ((V 42 2) + (1 : Int32)))) ∧
        (¬ (V 42 2) < (12 : Int32) →
          K (some (.int (-4 : Int32))) V)))) :
    ab_E G (ac_ST L xs) l (d + 3) ac_SK 157 [.ref 0, .int i1] V K := by
  refine vc_157_0 ?_
  refine vc_48_0 ?_
  refine vc_182_0 ?_
  refine ⟨fun c => ?_, fun c => ?_⟩
  · replace h := h.1 c
    refine ⟨Or.inl rfl, ?_⟩
    refine ⟨Or.inl rfl, ?_⟩
    refine ⟨fun q => ?_, fun q => absurd rfl q⟩
    exact h
  · replace h := h.2 c
    refine ⟨fun c => ?_, fun c => ?_⟩
    · replace h := h.1 c
      refine ⟨Or.inl rfl, ?_⟩
      refine ⟨Or.inl rfl, ?_⟩
      refine ⟨fun q => ?_, fun q => absurd rfl q⟩
      exact h
    · replace h := h.2 c
      refine ⟨Or.inr rfl, ?_⟩
      refine ⟨Or.inr rfl, ?_⟩
      refine ⟨fun q => absurd q (by decide), fun q => ?_⟩
      refine vc_84_0 ?_
      refine ⟨fun c => ?_, fun c => ?_⟩
      · replace h := h.1 c
        refine ⟨h.1, ?_⟩
        replace h := h.2
        exact h
      · replace h := h.2 c
        exact h

set_option maxRecDepth 20000 in
/-- FrameCounty seen(IIII)I, from 0 -/
theorem iv_158_0 {G : ab_G} {L : Nat} {xs : Nat → Int32} {l : Launch} {d : Nat} {i1 : Int32} {i2 : Int32} {i3 : Int32} {i4 : Int32} {V : aa_V} {K : aa_K} (h :
    (i1 < (0 : Int32) →
      K (some (.int (-2 : Int32))) V) ∧
    (¬ i1 < (0 : Int32) →
      (((V 42 2) - (1 : Int32)) < i1 →
        K (some (.int (-2 : Int32))) V) ∧
      (¬ ((V 42 2) - (1 : Int32)) < i1 →
        (i2 < (0 : Int32) →
          K (some (.int (-2 : Int32))) V) ∧
        (¬ i2 < (0 : Int32) →
          ((7 : Int32) < i2 →
            K (some (.int (-2 : Int32))) V) ∧
          (¬ (7 : Int32) < i2 →
            (i3 < (0 : Int32) →
              K (some (.int (-2 : Int32))) V) ∧
            (¬ i3 < (0 : Int32) →
              ((V 0 13) < i3 →
                K (some (.int (-2 : Int32))) V) ∧
              (¬ (V 0 13) < i3 →
                (i4 < (0 : Int32) →
                  K (some (.int (-2 : Int32))) V) ∧
                (¬ i4 < (0 : Int32) →
                  ((11 : Int32) < i4 →
                    K (some (.int (-2 : Int32))) V) ∧
                  (¬ (11 : Int32) < i4 →
                    ((V 42 4) < (40 : Int32) →
                      vp_in (V 42 4) 40 ∧
                      vp_in (V 42 4) 40 ∧
                      vp_in (V 42 4) 40 ∧
                      vp_in (V 42 4) 40 ∧
                      vp_in (V 42 4) 40 ∧
                      K (some (.int ((V 42 4) + (1 : Int32)))) (aa_up (aa_up (aa_up (aa_up (aa_up (aa_up V 44 (((V 42 4)).toNatClampNeg) i1) 45 (((V 42 4)).toNatClampNeg) i2) 46 (((V 42 4)).toNatClampNeg) i3) 47 (((V 42 4)).toNatClampNeg) i4) 48 (((V 42 4)).toNatClampNeg) (V 0 13)) 42 4 ((V 42 4) + (1 : Int32)))) ∧
                    (¬ (V 42 4) < (40 : Int32) →
                      K (some (.int (-4 : Int32))) V)))))))))) :
    ab_E G (ac_ST L xs) l (d + 3) ac_SK 158 [.ref 0, .int i1, .int i2, .int i3, .int i4] V K := by
  refine vc_158_0 ?_
  refine vc_80_0 ?_
  refine vc_182_0 ?_
  refine ⟨fun c => ?_, fun c => ?_⟩
  · replace h := h.1 c
    refine ⟨Or.inl rfl, ?_⟩
    refine ⟨Or.inl rfl, ?_⟩
    refine ⟨fun q => ?_, fun q => absurd rfl q⟩
    exact h
  · replace h := h.2 c
    refine ⟨fun c => ?_, fun c => ?_⟩
    · replace h := h.1 c
      refine ⟨Or.inl rfl, ?_⟩
      refine ⟨Or.inl rfl, ?_⟩
      refine ⟨fun q => ?_, fun q => absurd rfl q⟩
      exact h
    · replace h := h.2 c
      refine ⟨Or.inr rfl, ?_⟩
      refine ⟨Or.inr rfl, ?_⟩
      refine ⟨fun q => absurd q (by decide), fun q => ?_⟩
      refine vc_48_0 ?_
      refine vc_182_0 ?_
      refine ⟨fun c => ?_, fun c => ?_⟩
      · replace h := h.1 c
        refine ⟨Or.inl rfl, ?_⟩
        refine ⟨Or.inl rfl, ?_⟩
        refine ⟨fun q => ?_, fun q => absurd rfl q⟩
        exact h
      · replace h := h.2 c
        refine ⟨fun c => ?_, fun c => ?_⟩
        · replace h := h.1 c
          refine ⟨Or.inl rfl, ?_⟩
          refine ⟨Or.inl rfl, ?_⟩
          refine ⟨fun q => ?_, fun q => absurd rfl q⟩
          exact h
        · replace h := h.2 c
          refine ⟨Or.inr rfl, ?_⟩
          refine ⟨Or.inr rfl, ?_⟩
          refine ⟨fun q => absurd q (by decide), fun q => ?_⟩
          refine vc_186_0 ?_
          refine vc_182_0 ?_
          refine ⟨fun c => ?_, fun c => ?_⟩
          · replace h := h.1 c
            refine ⟨Or.inl rfl, ?_⟩
            refine ⟨Or.inl rfl, ?_⟩
            refine ⟨fun q => ?_, fun q => absurd rfl q⟩
            exact h
          · replace h := h.2 c
            refine ⟨fun c => ?_, fun c => ?_⟩
            · replace h := h.1 c
              refine ⟨Or.inl rfl, ?_⟩
              refine ⟨Or.inl rfl, ?_⟩
              refine ⟨fun q => ?_, fun q => absurd rfl q⟩
              exact h
            · replace h := h.2 c
              refine ⟨Or.inr rfl, ?_⟩
              refine ⟨Or.inr rfl, ?_⟩
              refine ⟨fun q => absurd q (by decide), fun q => ?_⟩
              refine vc_184_0 ?_
              refine vc_182_0 ?_
              refine ⟨fun c => ?_, fun c => ?_⟩
              · replace h := h.1 c
                refine ⟨Or.inl rfl, ?_⟩
                refine ⟨Or.inl rfl, ?_⟩
                refine ⟨fun q => ?_, fun q => absurd rfl q⟩
                exact h
              · replace h := h.2 c
                refine ⟨fun c => ?_, fun c => ?_⟩
                · replace h := h.1 c
                  refine ⟨Or.inl rfl, ?_⟩
                  refine ⟨Or.inl rfl, ?_⟩
                  refine ⟨fun q => ?_, fun q => absurd rfl q⟩
                  exact h
                · replace h := h.2 c
                  refine ⟨Or.inr rfl, ?_⟩
                  refine ⟨Or.inr rfl, ?_⟩
                  refine ⟨fun q => absurd q (by decide), fun q => ?_⟩
                  refine vc_85_0 ?_
                  refine ⟨fun c => ?_, fun c => ?_⟩
                  · replace h := h.1 c
                    refine ⟨h.1, ?_⟩
                    replace h := h.2
                    refine ⟨h.1, ?_⟩
                    replace h := h.2
                    refine ⟨h.1, ?_⟩
                    replace h := h.2
                    refine ⟨h.1, ?_⟩
                    replace h := h.2
                    refine ⟨h.1, ?_⟩
                    replace h := h.2
                    exact h
                  · replace h := h.2 c
                    exact h

set_option maxRecDepth 20000 in
/-- FrameCounty canBe(IIII)I, from 0 -/
theorem iv_159_0 {G : ab_G} {L : Nat} {xs : Nat → Int32} {l : Launch} {d : Nat} {i1 : Int32} {i2 : Int32} {i3 : Int32} {i4 : Int32} {V : aa_V} {K : aa_K} (h :
    (i1 < (0 : Int32) →
      K (some (.int (-2 : Int32))) V) ∧
    (¬ i1 < (0 : Int32) →
      (((V 42 2) - (1 : Int32)) < i1 →
        K (some (.int (-2 : Int32))) V) ∧
      (¬ ((V 42 2) - (1 : Int32)) < i1 →
        (i2 < (0 : Int32) →
          K (some (.int (-2 : Int32))) V) ∧
        (¬ i2 < (0 : Int32) →
          ((7 : Int32) < i2 →
            K (some (.int (-2 : Int32))) V) ∧
          (¬ (7 : Int32) < i2 →
            (i4 < (0 : Int32) →
              K (some (.int (-2 : Int32))) V) ∧
            (¬ i4 < (0 : Int32) →
              ((V 0 13) < i4 →
                K (some (.int (-2 : Int32))) V) ∧
              (¬ (V 0 13) < i4 →
                (i3 < 0 →
                  K (some (.int (-2 : Int32))) V) ∧
                (¬ i3 < 0 →
                  ¬ (100 : Int32) = 0 ∧
                  ¬ (100 : Int32) = 0 ∧
                  ((i3 / (100 : Int32)) < (0 : Int32) →
                    K (some (.int (-2 : Int32))) V) ∧
                  (¬ (i3 / (100 : Int32)) < (0 : Int32) →
                    ((399 : Int32) < (i3 / (100 : Int32)) →
                      K (some (.int (-2 : Int32))) V) ∧
                    (¬ (399 : Int32) < (i3 / (100 : Int32)) →
                      ((i3 - i3 / (100 : Int32) * (100 : Int32)) < (0 : Int32) →
                        K (some (.int (-2 : Int32))) V) ∧
                      (¬ (i3 - i3 / (100 : Int32) * (100 : Int32)) < (0 : Int32) →
                        ((11 : Int32) < (i3 - i3 / (100 : Int32) * (100 : Int32)) →
                          K (some (.int (-2 : Int32))) V) ∧
                        (¬ (11 : Int32) < (i3 - i3 / (100 : Int32) * (100 : Int32)) →
                          ab_E G (ac_ST L xs) l (d + 2) ac_SK 87 [.ref 42, .int i1, .int i2, .int (i3 / (100 : Int32)), .int (i3 - i3 / (100 : Int32) * (100 : Int32)), .int i4] V (aa_rI (fun x1 V1 =>
                            (x1 = 0 →
                              K (some (.int (0 : Int32))) V1) ∧
                            (¬ x1 = 0 →
                              K (some (.int (1 : Int32))) V1))))))))))))))) :
    ab_E G (ac_ST L xs) l (d + 3) ac_SK 159 [.ref 0, .int i1, .int i2, .int i3, .int i4] V K := by
  refine vc_159_0 ?_
  refine vc_80_0 ?_
  refine vc_182_0 ?_
  refine ⟨fun c => ?_, fun c => ?_⟩
  · replace h := h.1 c
    refine ⟨Or.inl rfl, ?_⟩
    refine ⟨Or.inl rfl, ?_⟩
    refine ⟨fun q => ?_, fun q => absurd rfl q⟩
    exact h
  · replace h := h.2 c
    refine ⟨fun c => ?_, fun c => ?_⟩
    · replace h := h.1 c
      refine ⟨Or.inl rfl, ?_⟩
      refine ⟨Or.inl rfl, ?_⟩
      refine ⟨fun q => ?_, fun q => absurd rfl q⟩
      exact h
    · replace h := h.2 c
      refine ⟨Or.inr rfl, ?_⟩
      refine ⟨Or.inr rfl, ?_⟩
      refine ⟨fun q => absurd q (by decide), fun q => ?_⟩
      refine vc_48_0 ?_
      refine vc_182_0 ?_
      refine ⟨fun c => ?_, fun c => ?_⟩
      · replace h := h.1 c
        refine ⟨Or.inl rfl, ?_⟩
        refine ⟨Or.inl rfl, ?_⟩
        refine ⟨fun q => ?_, fun q => absurd rfl q⟩
        exact h
      · replace h := h.2 c
        refine ⟨fun c => ?_, fun c => ?_⟩
        · replace h := h.1 c
          refine ⟨Or.inl rfl, ?_⟩
          refine ⟨Or.inl rfl, ?_⟩
          refine ⟨fun q => ?_, fun q => absurd rfl q⟩
          exact h
        · replace h := h.2 c
          refine ⟨Or.inr rfl, ?_⟩
          refine ⟨Or.inr rfl, ?_⟩
          refine ⟨fun q => absurd q (by decide), fun q => ?_⟩
          refine vc_186_0 ?_
          refine vc_182_0 ?_
          refine ⟨fun c => ?_, fun c => ?_⟩
          · replace h := h.1 c
            refine ⟨Or.inl rfl, ?_⟩
            refine ⟨Or.inl rfl, ?_⟩
            refine ⟨fun q => ?_, fun q => absurd rfl q⟩
            exact h
          · replace h := h.2 c
            refine ⟨fun c => ?_, fun c => ?_⟩
            · replace h := h.1 c
              refine ⟨Or.inl rfl, ?_⟩
              refine ⟨Or.inl rfl, ?_⟩
              refine ⟨fun q => ?_, fun q => absurd rfl q⟩
              exact h
            · replace h := h.2 c
              refine ⟨Or.inr rfl, ?_⟩
              refine ⟨Or.inr rfl, ?_⟩
              refine ⟨fun q => absurd q (by decide), fun q => ?_⟩
              refine ⟨fun c => ?_, fun c => ?_⟩
              · replace h := h.1 c
                exact h
              · replace h := h.2 c
                refine ⟨h.1, ?_⟩
                replace h := h.2
                refine ⟨h.1, ?_⟩
                replace h := h.2
                refine vc_183_0 ?_
                refine vc_182_0 ?_
                refine ⟨fun c => ?_, fun c => ?_⟩
                · replace h := h.1 c
                  refine ⟨Or.inl rfl, ?_⟩
                  refine ⟨Or.inl rfl, ?_⟩
                  refine ⟨fun q => ?_, fun q => absurd rfl q⟩
                  exact h
                · replace h := h.2 c
                  refine ⟨fun c => ?_, fun c => ?_⟩
                  · replace h := h.1 c
                    refine ⟨Or.inl rfl, ?_⟩
                    refine ⟨Or.inl rfl, ?_⟩
                    refine ⟨fun q => ?_, fun q => absurd rfl q⟩
                    exact h
                  · replace h := h.2 c
                    refine ⟨Or.inr rfl, ?_⟩
                    refine ⟨Or.inr rfl, ?_⟩
                    refine ⟨fun q => absurd q (by decide), fun q => ?_⟩
                    refine vc_184_0 ?_
                    refine vc_182_0 ?_
                    refine ⟨fun c => ?_, fun c => ?_⟩
                    · replace h := h.1 c
                      refine ⟨Or.inl rfl, ?_⟩
                      refine ⟨Or.inl rfl, ?_⟩
                      refine ⟨fun q => ?_, fun q => absurd rfl q⟩
                      exact h
                    · replace h := h.2 c
                      refine ⟨fun c => ?_, fun c => ?_⟩
                      · replace h := h.1 c
                        refine ⟨Or.inl rfl, ?_⟩
                        refine ⟨Or.inl rfl, ?_⟩
                        refine ⟨fun q => ?_, fun q => absurd rfl q⟩
                        exact h
                      · replace h := h.2 c
                        refine ⟨Or.inr rfl, ?_⟩
                        refine ⟨Or.inr rfl, ?_⟩
                        refine ⟨fun q => absurd q (by decide), fun q => ?_⟩
                        exact h

set_option maxRecDepth 20000 in
/-- FrameCounty suspects(II)I, from 0 -/
theorem iv_160_0 {G : ab_G} {L : Nat} {xs : Nat → Int32} {l : Launch} {d : Nat} {i1 : Int32} {i2 : Int32} {V : aa_V} {K : aa_K} (h :
    (i1 < (0 : Int32) →
      K (some (.int (-2 : Int32))) V) ∧
    (¬ i1 < (0 : Int32) →
      (((V 38 1) - (1 : Int32)) < i1 →
        K (some (.int (-2 : Int32))) V) ∧
      (¬ ((V 38 1) - (1 : Int32)) < i1 →
        (i2 < (0 : Int32) →
          K (some (.int (-2 : Int32))) V) ∧
        (¬ i2 < (0 : Int32) →
          ((V 0 13) < i2 →
            K (some (.int (-2 : Int32))) V) ∧
          (¬ (V 0 13) < i2 →
            ab_E G (ac_ST L xs) l (d + 2) ac_SK 89 [.ref 42, .int i1, .int i2] V (aa_rI (fun x1 V1 =>
              K (some (.int x1)) V1))))))) :
    ab_E G (ac_ST L xs) l (d + 3) ac_SK 160 [.ref 0, .int i1, .int i2] V K := by
  refine vc_160_0 ?_
  refine vc_18_0 ?_
  refine vc_182_0 ?_
  refine ⟨fun c => ?_, fun c => ?_⟩
  · replace h := h.1 c
    refine ⟨Or.inl rfl, ?_⟩
    refine ⟨Or.inl rfl, ?_⟩
    refine ⟨fun q => ?_, fun q => absurd rfl q⟩
    exact h
  · replace h := h.2 c
    refine ⟨fun c => ?_, fun c => ?_⟩
    · replace h := h.1 c
      refine ⟨Or.inl rfl, ?_⟩
      refine ⟨Or.inl rfl, ?_⟩
      refine ⟨fun q => ?_, fun q => absurd rfl q⟩
      exact h
    · replace h := h.2 c
      refine ⟨Or.inr rfl, ?_⟩
      refine ⟨Or.inr rfl, ?_⟩
      refine ⟨fun q => absurd q (by decide), fun q => ?_⟩
      refine vc_186_0 ?_
      refine vc_182_0 ?_
      refine ⟨fun c => ?_, fun c => ?_⟩
      · replace h := h.1 c
        refine ⟨Or.inl rfl, ?_⟩
        refine ⟨Or.inl rfl, ?_⟩
        refine ⟨fun q => ?_, fun q => absurd rfl q⟩
        exact h
      · replace h := h.2 c
        refine ⟨fun c => ?_, fun c => ?_⟩
        · replace h := h.1 c
          refine ⟨Or.inl rfl, ?_⟩
          refine ⟨Or.inl rfl, ?_⟩
          refine ⟨fun q => ?_, fun q => absurd rfl q⟩
          exact h
        · replace h := h.2 c
          refine ⟨Or.inr rfl, ?_⟩
          refine ⟨Or.inr rfl, ?_⟩
          refine ⟨fun q => absurd q (by decide), fun q => ?_⟩
          exact h

set_option maxRecDepth 20000 in
/-- FrameCounty word(IIII)I, from 0 -/
theorem iv_161_0 {G : ab_G} {L : Nat} {xs : Nat → Int32} {l : Launch} {d : Nat} {i1 : Int32} {i2 : Int32} {i3 : Int32} {i4 : Int32} {V : aa_V} {K : aa_K} (h :
    (i1 < (0 : Int32) →
      K (some (.int (-2 : Int32))) V) ∧
    (¬ i1 < (0 : Int32) →
      ((5 : Int32) < i1 →
        K (some (.int (-2 : Int32))) V) ∧
      (¬ (5 : Int32) < i1 →
        (i2 < (0 : Int32) →
          K (some (.int (-2 : Int32))) V) ∧
        (¬ i2 < (0 : Int32) →
          (((V 42 2) - (1 : Int32)) < i2 →
            K (some (.int (-2 : Int32))) V) ∧
          (¬ ((V 42 2) - (1 : Int32)) < i2 →
            (i3 < (0 : Int32) →
              K (some (.int (-2 : Int32))) V) ∧
            (¬ i3 < (0 : Int32) →
              (((V 38 1) - (1 : Int32)) < i3 →
                K (some (.int (-2 : Int32))) V) ∧
              (¬ ((V 38 1) - (1 : Int32)) < i3 →
                (i4 < (0 : Int32) →
                  K (some (.int (-2 : Int32))) V) ∧
                (¬ i4 < (0 : Int32) →
                  ((999 : Int32) < i4 →
                    K (some (.int (-2 : Int32))) V) ∧
                  (¬ (999 : Int32) < i4 →
                    ((V 42 10) < (24 : Int32) →
                      vp_in (V 42 10) 24 ∧
                      vp_in (V 42 10) 24 ∧
                      vp_in (V 42 10) 24 ∧
                      vp_in (V 42 10) 24 ∧
                      vp_in (V 42 10) 24 ∧
                      K (some (.int (((V 42 10) + (1 : Int32)) - (1 : Int32)))) (aa_up (aa_up (aa_up (aa_up (aa_up (aa_up V 49 (((V 42 10)).toNatClampNeg) i1) 50 (((V 42 10)).toNatClampNeg) i2) 51 (((V 42 10)).toNatClampNeg) i3) 52 (((V 42 10)).toNatClampNeg) i4) 53 (((V 42 10)).toNatClampNeg) (V 0 13)) 42 10 ((V 42 10) + (1 : Int32)))) ∧
                    (¬ (V 42 10) < (24 : Int32) →
                      K (some (.int (-4 : Int32))) V)))))))))) :
    ab_E G (ac_ST L xs) l (d + 3) ac_SK 161 [.ref 0, .int i1, .int i2, .int i3, .int i4] V K := by
  refine vc_161_0 ?_
  refine vc_185_0 ?_
  refine vc_182_0 ?_
  refine ⟨fun c => ?_, fun c => ?_⟩
  · replace h := h.1 c
    refine ⟨Or.inl rfl, ?_⟩
    refine ⟨Or.inl rfl, ?_⟩
    refine ⟨fun q => ?_, fun q => absurd rfl q⟩
    exact h
  · replace h := h.2 c
    refine ⟨fun c => ?_, fun c => ?_⟩
    · replace h := h.1 c
      refine ⟨Or.inl rfl, ?_⟩
      refine ⟨Or.inl rfl, ?_⟩
      refine ⟨fun q => ?_, fun q => absurd rfl q⟩
      exact h
    · replace h := h.2 c
      refine ⟨Or.inr rfl, ?_⟩
      refine ⟨Or.inr rfl, ?_⟩
      refine ⟨fun q => absurd q (by decide), fun q => ?_⟩
      refine vc_80_0 ?_
      refine vc_182_0 ?_
      refine ⟨fun c => ?_, fun c => ?_⟩
      · replace h := h.1 c
        refine ⟨Or.inl rfl, ?_⟩
        refine ⟨Or.inl rfl, ?_⟩
        refine ⟨fun q => ?_, fun q => absurd rfl q⟩
        exact h
      · replace h := h.2 c
        refine ⟨fun c => ?_, fun c => ?_⟩
        · replace h := h.1 c
          refine ⟨Or.inl rfl, ?_⟩
          refine ⟨Or.inl rfl, ?_⟩
          refine ⟨fun q => ?_, fun q => absurd rfl q⟩
          exact h
        · replace h := h.2 c
          refine ⟨Or.inr rfl, ?_⟩
          refine ⟨Or.inr rfl, ?_⟩
          refine ⟨fun q => absurd q (by decide), fun q => ?_⟩
          refine vc_18_0 ?_
          refine vc_182_0 ?_
          refine ⟨fun c => ?_, fun c => ?_⟩
          · replace h := h.1 c
            refine ⟨Or.inl rfl, ?_⟩
            refine ⟨Or.inl rfl, ?_⟩
            refine ⟨fun q => ?_, fun q => absurd rfl q⟩
            exact h
          · replace h := h.2 c
            refine ⟨fun c => ?_, fun c => ?_⟩
            · replace h := h.1 c
              refine ⟨Or.inl rfl, ?_⟩
              refine ⟨Or.inl rfl, ?_⟩
              refine ⟨fun q => ?_, fun q => absurd rfl q⟩
              exact h
            · replace h := h.2 c
              refine ⟨Or.inr rfl, ?_⟩
              refine ⟨Or.inr rfl, ?_⟩
              refine ⟨fun q => absurd q (by decide), fun q => ?_⟩
              refine vc_182_0 ?_
              refine ⟨fun c => ?_, fun c => ?_⟩
              · replace h := h.1 c
                refine ⟨Or.inl rfl, ?_⟩
                refine ⟨fun q => ?_, fun q => absurd rfl q⟩
                exact h
              · replace h := h.2 c
                refine ⟨fun c => ?_, fun c => ?_⟩
                · replace h := h.1 c
                  refine ⟨Or.inl rfl, ?_⟩
                  refine ⟨fun q => ?_, fun q => absurd rfl q⟩
                  exact h
                · replace h := h.2 c
                  refine ⟨Or.inr rfl, ?_⟩
                  refine ⟨fun q => absurd q (by decide), fun q => ?_⟩
                  refine vc_86_0 ?_
                  refine ⟨fun c => ?_, fun c => ?_⟩
                  · replace h := h.1 c
                    refine ⟨h.1, ?_⟩
                    replace h := h.2
                    refine ⟨h.1, ?_⟩
                    replace h := h.2
                    refine ⟨h.1, ?_⟩
                    replace h := h.2
                    refine ⟨h.1, ?_⟩
                    replace h := h.2
                    refine ⟨h.1, ?_⟩
                    replace h := h.2
                    exact h
                  · replace h := h.2 c
                    exact h

set_option maxRecDepth 20000 in
/-- FrameCounty falseWords(I)I, from 0 -/
theorem iv_162_0 {G : ab_G} {L : Nat} {xs : Nat → Int32} {l : Launch} {d : Nat} {i1 : Int32} {V : aa_V} {K : aa_K} (h :
    (i1 < (0 : Int32) →
      K (some (.int (-2 : Int32))) V) ∧
    (¬ i1 < (0 : Int32) →
      ((V 0 13) < i1 →
        K (some (.int (-2 : Int32))) V) ∧
      (¬ (V 0 13) < i1 →
        ab_E G (ac_ST L xs) l (d + 2) ac_SK 90 [.ref 42, .int i1] V (aa_rI (fun x1 V1 =>
          K (some (.int x1)) V1))))) :
    ab_E G (ac_ST L xs) l (d + 3) ac_SK 162 [.ref 0, .int i1] V K := by
  refine vc_162_0 ?_
  refine vc_186_0 ?_
  refine vc_182_0 ?_
  refine ⟨fun c => ?_, fun c => ?_⟩
  · replace h := h.1 c
    refine ⟨Or.inl rfl, ?_⟩
    refine ⟨Or.inl rfl, ?_⟩
    refine ⟨fun q => ?_, fun q => absurd rfl q⟩
    exact h
  · replace h := h.2 c
    refine ⟨fun c => ?_, fun c => ?_⟩
    · replace h := h.1 c
      refine ⟨Or.inl rfl, ?_⟩
      refine ⟨Or.inl rfl, ?_⟩
      refine ⟨fun q => ?_, fun q => absurd rfl q⟩
      exact h
    · replace h := h.2 c
      refine ⟨Or.inr rfl, ?_⟩
      refine ⟨Or.inr rfl, ?_⟩
      refine ⟨fun q => absurd q (by decide), fun q => ?_⟩
      exact h

set_option maxRecDepth 20000 in
/-- FrameCounty paid(III)J, from 0 -/
theorem iv_163_0 {G : ab_G} {L : Nat} {xs : Nat → Int32} {l : Launch} {d : Nat} {i1 : Int32} {i2 : Int32} {i3 : Int32} {V : aa_V} {K : aa_K} (h :
    (i1 < (0 : Int32) →
      K (some (.long (-4611686018427387904 : Int64))) V) ∧
    (¬ i1 < (0 : Int32) →
      ((5 : Int32) < i1 →
        K (some (.long (-4611686018427387904 : Int64))) V) ∧
      (¬ (5 : Int32) < i1 →
        (i2 < (0 : Int32) →
          K (some (.long (-4611686018427387904 : Int64))) V) ∧
        (¬ i2 < (0 : Int32) →
          ((1 : Int32) < i2 →
            K (some (.long (-4611686018427387904 : Int64))) V) ∧
          (¬ (1 : Int32) < i2 →
            (i3 < (0 : Int32) →
              K (some (.long (-4611686018427387904 : Int64))) V) ∧
            (¬ i3 < (0 : Int32) →
              ((V 0 13) < i3 →
                K (some (.long (-4611686018427387904 : Int64))) V) ∧
              (¬ (V 0 13) < i3 →
                ab_E G (ac_ST L xs) l (d + 2) ac_SK 91 [.ref 42, .int i1, .int i3] V (aa_rI (fun x1 V1 =>
                  (i2 = 0 →
                    ab_E G (ac_ST L xs) l (d + 2) ac_SK 93 [.ref 42, .int x1] V1 (aa_rI (fun x2 V2 =>
                      K (some (.long (x2.toInt64))) V2))) ∧
                  (¬ i2 = 0 →
                    ab_E G (ac_ST L xs) l (d + 2) ac_SK 90 [.ref 42, .int i3] V1 (aa_rI (fun x2 V2 =>
                      ab_E G (ac_ST L xs) l (d + 2) ac_SK 93 [.ref 42, .int (x1 &&& x2)] V2 (aa_rI (fun x3 V3 =>
                        K (some (.long (x3.toInt64))) V3)))))))))))))) :
    ab_E G (ac_ST L xs) l (d + 3) ac_SK 163 [.ref 0, .int i1, .int i2, .int i3] V K := by
  refine vc_163_0 ?_
  refine vc_185_0 ?_
  refine vc_182_0 ?_
  refine ⟨fun c => ?_, fun c => ?_⟩
  · replace h := h.1 c
    refine ⟨Or.inl rfl, ?_⟩
    refine ⟨Or.inl rfl, ?_⟩
    refine ⟨fun q => ?_, fun q => absurd rfl q⟩
    exact h
  · replace h := h.2 c
    refine ⟨fun c => ?_, fun c => ?_⟩
    · replace h := h.1 c
      refine ⟨Or.inl rfl, ?_⟩
      refine ⟨Or.inl rfl, ?_⟩
      refine ⟨fun q => ?_, fun q => absurd rfl q⟩
      exact h
    · replace h := h.2 c
      refine ⟨Or.inr rfl, ?_⟩
      refine ⟨Or.inr rfl, ?_⟩
      refine ⟨fun q => absurd q (by decide), fun q => ?_⟩
      refine vc_182_0 ?_
      refine ⟨fun c => ?_, fun c => ?_⟩
      · replace h := h.1 c
        refine ⟨Or.inl rfl, ?_⟩
        refine ⟨fun q => ?_, fun q => absurd rfl q⟩
        exact h
      · replace h := h.2 c
        refine ⟨fun c => ?_, fun c => ?_⟩
        · replace h := h.1 c
          refine ⟨Or.inl rfl, ?_⟩
          refine ⟨fun q => ?_, fun q => absurd rfl q⟩
          exact h
        · replace h := h.2 c
          refine ⟨Or.inr rfl, ?_⟩
          refine ⟨fun q => absurd q (by decide), fun q => ?_⟩
          refine vc_186_0 ?_
          refine vc_182_0 ?_
          refine ⟨fun c => ?_, fun c => ?_⟩
          · replace h := h.1 c
            refine ⟨Or.inl rfl, ?_⟩
            refine ⟨Or.inl rfl, ?_⟩
            refine ⟨fun q => ?_, fun q => absurd rfl q⟩
            exact h
          · replace h := h.2 c
            refine ⟨fun c => ?_, fun c => ?_⟩
            · replace h := h.1 c
              refine ⟨Or.inl rfl, ?_⟩
              refine ⟨Or.inl rfl, ?_⟩
              refine ⟨fun q => ?_, fun q => absurd rfl q⟩
              exact h
            · replace h := h.2 c
              refine ⟨Or.inr rfl, ?_⟩
              refine ⟨Or.inr rfl, ?_⟩
              refine ⟨fun q => absurd q (by decide), fun q => ?_⟩
              exact h

set_option maxRecDepth 20000 in
/-- FrameCounty held(I)I, from 0 -/
theorem iv_164_0 {G : ab_G} {L : Nat} {xs : Nat → Int32} {l : Launch} {d : Nat} {i1 : Int32} {V : aa_V} {K : aa_K} (h :
    (i1 < (0 : Int32) →
      K (some (.int (-2 : Int32))) V) ∧
    (¬ i1 < (0 : Int32) →
      ((V 0 13) < i1 →
        K (some (.int (-2 : Int32))) V) ∧
      (¬ (V 0 13) < i1 →
        ab_E G (ac_ST L xs) l (d + 2) ac_SK 189 [.ref 0, .int (-1 : Int32), .int i1] V (aa_rI (fun x1 V1 =>
          K (some (.int x1)) V1))))) :
    ab_E G (ac_ST L xs) l (d + 3) ac_SK 164 [.ref 0, .int i1] V K := by
  refine vc_164_0 ?_
  refine vc_186_0 ?_
  refine vc_182_0 ?_
  refine ⟨fun c => ?_, fun c => ?_⟩
  · replace h := h.1 c
    refine ⟨Or.inl rfl, ?_⟩
    refine ⟨Or.inl rfl, ?_⟩
    refine ⟨fun q => ?_, fun q => absurd rfl q⟩
    exact h
  · replace h := h.2 c
    refine ⟨fun c => ?_, fun c => ?_⟩
    · replace h := h.1 c
      refine ⟨Or.inl rfl, ?_⟩
      refine ⟨Or.inl rfl, ?_⟩
      refine ⟨fun q => ?_, fun q => absurd rfl q⟩
      exact h
    · replace h := h.2 c
      refine ⟨Or.inr rfl, ?_⟩
      refine ⟨Or.inr rfl, ?_⟩
      refine ⟨fun q => absurd q (by decide), fun q => ?_⟩
      exact h

set_option maxRecDepth 20000 in
/-- FrameCounty hangs(II)I, from 0 -/
theorem iv_165_0 {G : ab_G} {L : Nat} {xs : Nat → Int32} {l : Launch} {d : Nat} {i1 : Int32} {i2 : Int32} {V : aa_V} {K : aa_K} (h :
    (i1 < (0 : Int32) →
      K (some (.int (-2 : Int32))) V) ∧
    (¬ i1 < (0 : Int32) →
      ((5 : Int32) < i1 →
        K (some (.int (-2 : Int32))) V) ∧
      (¬ (5 : Int32) < i1 →
        (i2 < (0 : Int32) →
          K (some (.int (-2 : Int32))) V) ∧
        (¬ i2 < (0 : Int32) →
          ((V 0 13) < i2 →
            K (some (.int (-2 : Int32))) V) ∧
          (¬ (V 0 13) < i2 →
            ab_E G (ac_ST L xs) l (d + 2) ac_SK 189 [.ref 0, .int (-1 : Int32), .int i2] V (aa_rI (fun x1 V1 =>
              ab_E G (ac_ST L xs) l (d + 2) ac_SK 189 [.ref 0, .int i1, .int i2] V1 (aa_rI (fun x2 V2 =>
                K (some (.int (x1 &&& (x2 ^^^ (-1 : Int32))))) V2))))))))) :
    ab_E G (ac_ST L xs) l (d + 3) ac_SK 165 [.ref 0, .int i1, .int i2] V K := by
  refine vc_165_0 ?_
  refine vc_185_0 ?_
  refine vc_182_0 ?_
  refine ⟨fun c => ?_, fun c => ?_⟩
  · replace h := h.1 c
    refine ⟨Or.inl rfl, ?_⟩
    refine ⟨Or.inl rfl, ?_⟩
    refine ⟨fun q => ?_, fun q => absurd rfl q⟩
    exact h
  · replace h := h.2 c
    refine ⟨fun c => ?_, fun c => ?_⟩
    · replace h := h.1 c
      refine ⟨Or.inl rfl, ?_⟩
      refine ⟨Or.inl rfl, ?_⟩
      refine ⟨fun q => ?_, fun q => absurd rfl q⟩
      exact h
    · replace h := h.2 c
      refine ⟨Or.inr rfl, ?_⟩
      refine ⟨Or.inr rfl, ?_⟩
      refine ⟨fun q => absurd q (by decide), fun q => ?_⟩
      refine vc_186_0 ?_
      refine vc_182_0 ?_
      refine ⟨fun c => ?_, fun c => ?_⟩
      · replace h := h.1 c
        refine ⟨Or.inl rfl, ?_⟩
        refine ⟨Or.inl rfl, ?_⟩
        refine ⟨fun q => ?_, fun q => absurd rfl q⟩
        exact h
      · replace h := h.2 c
        refine ⟨fun c => ?_, fun c => ?_⟩
        · replace h := h.1 c
          refine ⟨Or.inl rfl, ?_⟩
          refine ⟨Or.inl rfl, ?_⟩
          refine ⟨fun q => ?_, fun q => absurd rfl q⟩
          exact h
        · replace h := h.2 c
          refine ⟨Or.inr rfl, ?_⟩
          refine ⟨Or.inr rfl, ?_⟩
          refine ⟨fun q => absurd q (by decide), fun q => ?_⟩
          exact h

set_option maxRecDepth 20000 in
/-- FrameCounty meeting(III)I, from 0 -/
theorem iv_166_0 {G : ab_G} {L : Nat} {xs : Nat → Int32} {l : Launch} {d : Nat} {i1 : Int32} {i2 : Int32} {i3 : Int32} {V : aa_V} {K : aa_K} (h :
    (i1 < (0 : Int32) →
      K (some (.int (-2 : Int32))) V) ∧
    (¬ i1 < (0 : Int32) →
      (((V 42 2) - (1 : Int32)) < i1 →
        K (some (.int (-2 : Int32))) V) ∧
      (¬ ((V 42 2) - (1 : Int32)) < i1 →
        (i2 < (0 : Int32) →
          K (some (.int (-2 : Int32))) V) ∧
        (¬ i2 < (0 : Int32) →
          (((V 42 2) - (1 : Int32)) < i2 →
            K (some (.int (-2 : Int32))) V) ∧
          (¬ ((V 42 2) - (1 : Int32)) < i2 →
            (i1 = i2 →
              K (some (.int (-2 : Int32))) V) ∧
            (¬ i1 = i2 →
              (i3 < (0 : Int32) →
                K (some (.int (-2 : Int32))) V) ∧
              (¬ i3 < (0 : Int32) →
                ((V 0 13) < i3 →
                  K (some (.int (-2 : Int32))) V) ∧
                (¬ (V 0 13) < i3 →
                  ab_E G (ac_ST L xs) l (d + 2) ac_SK 11 [.ref 54, .int i1, .int i2, .int i3] V (aa_rI (fun x1 V1 =>
                    K (some (.int x1)) V1)))))))))) :
    ab_E G (ac_ST L xs) l (d + 3) ac_SK 166 [.ref 0, .int i1, .int i2, .int i3] V K := by
  refine vc_166_0 ?_
  refine vc_80_0 ?_
  refine vc_182_0 ?_
  refine ⟨fun c => ?_, fun c => ?_⟩
  · replace h := h.1 c
    refine ⟨Or.inl rfl, ?_⟩
    refine ⟨Or.inl rfl, ?_⟩
    refine ⟨fun q => ?_, fun q => absurd rfl q⟩
    exact h
  · replace h := h.2 c
    refine ⟨fun c => ?_, fun c => ?_⟩
    · replace h := h.1 c
      refine ⟨Or.inl rfl, ?_⟩
      refine ⟨Or.inl rfl, ?_⟩
      refine ⟨fun q => ?_, fun q => absurd rfl q⟩
      exact h
    · replace h := h.2 c
      refine ⟨Or.inr rfl, ?_⟩
      refine ⟨Or.inr rfl, ?_⟩
      refine ⟨fun q => absurd q (by decide), fun q => ?_⟩
      refine vc_80_0 ?_
      refine vc_182_0 ?_
      refine ⟨fun c => ?_, fun c => ?_⟩
      · replace h := h.1 c
        refine ⟨Or.inl rfl, ?_⟩
        refine ⟨Or.inl rfl, ?_⟩
        refine ⟨fun q => ?_, fun q => absurd rfl q⟩
        exact h
      · replace h := h.2 c
        refine ⟨fun c => ?_, fun c => ?_⟩
        · replace h := h.1 c
          refine ⟨Or.inl rfl, ?_⟩
          refine ⟨Or.inl rfl, ?_⟩
          refine ⟨fun q => ?_, fun q => absurd rfl q⟩
          exact h
        · replace h := h.2 c
          refine ⟨Or.inr rfl, ?_⟩
          refine ⟨Or.inr rfl, ?_⟩
          refine ⟨fun q => absurd q (by decide), fun q => ?_⟩
          refine ⟨fun c => ?_, fun c => ?_⟩
          · replace h := h.1 c
            exact h
          · replace h := h.2 c
            refine vc_186_0 ?_
            refine vc_182_0 ?_
            refine ⟨fun c => ?_, fun c => ?_⟩
            · replace h := h.1 c
              refine ⟨Or.inl rfl, ?_⟩
              refine ⟨Or.inl rfl, ?_⟩
              refine ⟨fun q => ?_, fun q => absurd rfl q⟩
              exact h
            · replace h := h.2 c
              refine ⟨fun c => ?_, fun c => ?_⟩
              · replace h := h.1 c
                refine ⟨Or.inl rfl, ?_⟩
                refine ⟨Or.inl rfl, ?_⟩
                refine ⟨fun q => ?_, fun q => absurd rfl q⟩
                exact h
              · replace h := h.2 c
                refine ⟨Or.inr rfl, ?_⟩
                refine ⟨Or.inr rfl, ?_⟩
                refine ⟨fun q => absurd q (by decide), fun q => ?_⟩
                exact h

set_option maxRecDepth 20000 in
/-- FrameCounty taker(II)I, from 0 -/
theorem iv_167_0 {G : ab_G} {L : Nat} {xs : Nat → Int32} {l : Launch} {d : Nat} {i1 : Int32} {i2 : Int32} {V : aa_V} {K : aa_K} (h :
    (i1 < (0 : Int32) →
      K (some (.int (-5 : Int32))) V) ∧
    (¬ i1 < (0 : Int32) →
      (((V 42 2) - (1 : Int32)) < i1 →
        K (some (.int (-5 : Int32))) V) ∧
      (¬ ((V 42 2) - (1 : Int32)) < i1 →
        (i2 < (-1 : Int32) →
          K (some (.int (-5 : Int32))) V) ∧
        (¬ i2 < (-1 : Int32) →
          ((399 : Int32) < i2 →
            K (some (.int (-5 : Int32))) V) ∧
          (¬ (399 : Int32) < i2 →
            vp_in i1 12 ∧
            vp_in i1 12 ∧
            K (some (.int (V 58 ((i1).toNatClampNeg)))) (aa_up V 58 ((i1).toNatClampNeg) i2)))))) :
    ab_E G (ac_ST L xs) l (d + 3) ac_SK 167 [.ref 0, .int i1, .int i2] V K := by
  refine vc_167_0 ?_
  refine vc_80_0 ?_
  refine vc_182_0 ?_
  refine ⟨fun c => ?_, fun c => ?_⟩
  · replace h := h.1 c
    refine ⟨Or.inl rfl, ?_⟩
    refine ⟨Or.inl rfl, ?_⟩
    refine ⟨fun q => ?_, fun q => absurd rfl q⟩
    exact h
  · replace h := h.2 c
    refine ⟨fun c => ?_, fun c => ?_⟩
    · replace h := h.1 c
      refine ⟨Or.inl rfl, ?_⟩
      refine ⟨Or.inl rfl, ?_⟩
      refine ⟨fun q => ?_, fun q => absurd rfl q⟩
      exact h
    · replace h := h.2 c
      refine ⟨Or.inr rfl, ?_⟩
      refine ⟨Or.inr rfl, ?_⟩
      refine ⟨fun q => absurd q (by decide), fun q => ?_⟩
      refine vc_182_0 ?_
      refine ⟨fun c => ?_, fun c => ?_⟩
      · replace h := h.1 c
        refine ⟨Or.inl rfl, ?_⟩
        refine ⟨fun q => ?_, fun q => absurd rfl q⟩
        exact h
      · replace h := h.2 c
        refine ⟨fun c => ?_, fun c => ?_⟩
        · replace h := h.1 c
          refine ⟨Or.inl rfl, ?_⟩
          refine ⟨fun q => ?_, fun q => absurd rfl q⟩
          exact h
        · replace h := h.2 c
          refine ⟨Or.inr rfl, ?_⟩
          refine ⟨fun q => absurd q (by decide), fun q => ?_⟩
          refine vc_12_0 ?_
          refine ⟨h.1, ?_⟩
          replace h := h.2
          refine ⟨h.1, ?_⟩
          replace h := h.2
          exact h

set_option maxRecDepth 20000 in
/-- FrameCounty sworn(II)I, from 0 -/
theorem iv_168_0 {G : ab_G} {L : Nat} {xs : Nat → Int32} {l : Launch} {d : Nat} {i1 : Int32} {i2 : Int32} {V : aa_V} {K : aa_K} (h :
    (i1 < 0 →
      K (some (.int (-2 : Int32))) V) ∧
    (¬ i1 < 0 →
      (i1 < ((1 : Int32) <<< ((V 42 2) &&& 31)) →
        (i2 < (0 : Int32) →
          K (some (.int (-2 : Int32))) V) ∧
        (¬ i2 < (0 : Int32) →
          ((399 : Int32) < i2 →
            K (some (.int (-2 : Int32))) V) ∧
          (¬ (399 : Int32) < i2 →
            ab_E G (ac_ST L xs) l (d + 2) ac_SK 13 [.ref 54, .int i1, .int i2] V (aa_rI (fun x1 V1 =>
              K (some (.int x1)) V1))))) ∧
      (¬ i1 < ((1 : Int32) <<< ((V 42 2) &&& 31)) →
        K (some (.int (-2 : Int32))) V))) :
    ab_E G (ac_ST L xs) l (d + 3) ac_SK 168 [.ref 0, .int i1, .int i2] V K := by
  refine vc_168_0 ?_
  refine ⟨fun c => ?_, fun c => ?_⟩
  · replace h := h.1 c
    exact h
  · replace h := h.2 c
    refine vc_81_0 ?_
    refine ⟨fun c => ?_, fun c => ?_⟩
    · replace h := h.1 c
      refine vc_183_0 ?_
      refine vc_182_0 ?_
      refine ⟨fun c => ?_, fun c => ?_⟩
      · replace h := h.1 c
        refine ⟨Or.inl rfl, ?_⟩
        refine ⟨Or.inl rfl, ?_⟩
        refine ⟨fun q => ?_, fun q => absurd rfl q⟩
        exact h
      · replace h := h.2 c
        refine ⟨fun c => ?_, fun c => ?_⟩
        · replace h := h.1 c
          refine ⟨Or.inl rfl, ?_⟩
          refine ⟨Or.inl rfl, ?_⟩
          refine ⟨fun q => ?_, fun q => absurd rfl q⟩
          exact h
        · replace h := h.2 c
          refine ⟨Or.inr rfl, ?_⟩
          refine ⟨Or.inr rfl, ?_⟩
          refine ⟨fun q => absurd q (by decide), fun q => ?_⟩
          exact h
    · replace h := h.2 c
      exact h

set_option maxRecDepth 20000 in
/-- FrameCounty parties(IIII)I, from 0 -/
theorem iv_170_0 {G : ab_G} {L : Nat} {xs : Nat → Int32} {l : Launch} {d : Nat} {i1 : Int32} {i2 : Int32} {i3 : Int32} {i4 : Int32} {V : aa_V} {K : aa_K} (h :
    (i1 < (0 : Int32) →
      K (some (.int (-2 : Int32))) V) ∧
    (¬ i1 < (0 : Int32) →
      ((8 : Int32) < i1 →
        K (some (.int (-2 : Int32))) V) ∧
      (¬ (8 : Int32) < i1 →
        (i2 < (0 : Int32) →
          K (some (.int (-2 : Int32))) V) ∧
        (¬ i2 < (0 : Int32) →
          ((99 : Int32) < i2 →
            K (some (.int (-2 : Int32))) V) ∧
          (¬ (99 : Int32) < i2 →
            (i3 < (0 : Int32) →
              K (some (.int (-2 : Int32))) V) ∧
            (¬ i3 < (0 : Int32) →
              ((399 : Int32) < i3 →
                K (some (.int (-2 : Int32))) V) ∧
              (¬ (399 : Int32) < i3 →
                (i4 < (0 : Int32) →
                  K (some (.int (-2 : Int32))) V) ∧
                (¬ i4 < (0 : Int32) →
                  ((1 : Int32) < i4 →
                    K (some (.int (-2 : Int32))) V) ∧
                  (¬ (1 : Int32) < i4 →
                    ab_J G (ac_ST L xs) l (d + 3) 170 49 [some (.ref 0), some (.int i1), some (.int i2), some (.int i3), some (.int i4), some (.int (-1 : Int32)), some (.int (-1 : Int32)), some (.int (0 : Int32)), none] [] ac_SK V ac_SK K))))))))) :
    ab_E G (ac_ST L xs) l (d + 3) ac_SK 170 [.ref 0, .int i1, .int i2, .int i3, .int i4] V K := by
  refine vc_170_0 ?_
  refine vc_182_0 ?_
  refine ⟨fun c => ?_, fun c => ?_⟩
  · replace h := h.1 c
    refine ⟨Or.inl rfl, ?_⟩
    refine ⟨fun q => ?_, fun q => absurd rfl q⟩
    exact h
  · replace h := h.2 c
    refine ⟨fun c => ?_, fun c => ?_⟩
    · replace h := h.1 c
      refine ⟨Or.inl rfl, ?_⟩
      refine ⟨fun q => ?_, fun q => absurd rfl q⟩
      exact h
    · replace h := h.2 c
      refine ⟨Or.inr rfl, ?_⟩
      refine ⟨fun q => absurd q (by decide), fun q => ?_⟩
      refine vc_182_0 ?_
      refine ⟨fun c => ?_, fun c => ?_⟩
      · replace h := h.1 c
        refine ⟨Or.inl rfl, ?_⟩
        refine ⟨fun q => ?_, fun q => absurd rfl q⟩
        exact h
      · replace h := h.2 c
        refine ⟨fun c => ?_, fun c => ?_⟩
        · replace h := h.1 c
          refine ⟨Or.inl rfl, ?_⟩
          refine ⟨fun q => ?_, fun q => absurd rfl q⟩
          exact h
        · replace h := h.2 c
          refine ⟨Or.inr rfl, ?_⟩
          refine ⟨fun q => absurd q (by decide), fun q => ?_⟩
          refine vc_183_0 ?_
          refine vc_182_0 ?_
          refine ⟨fun c => ?_, fun c => ?_⟩
          · replace h := h.1 c
            refine ⟨Or.inl rfl, ?_⟩
            refine ⟨Or.inl rfl, ?_⟩
            refine ⟨fun q => ?_, fun q => absurd rfl q⟩
            exact h
          · replace h := h.2 c
            refine ⟨fun c => ?_, fun c => ?_⟩
            · replace h := h.1 c
              refine ⟨Or.inl rfl, ?_⟩
              refine ⟨Or.inl rfl, ?_⟩
              refine ⟨fun q => ?_, fun q => absurd rfl q⟩
              exact h
            · replace h := h.2 c
              refine ⟨Or.inr rfl, ?_⟩
              refine ⟨Or.inr rfl, ?_⟩
              refine ⟨fun q => absurd q (by decide), fun q => ?_⟩
              refine vc_182_0 ?_
              refine ⟨fun c => ?_, fun c => ?_⟩
              · replace h := h.1 c
                refine ⟨Or.inl rfl, ?_⟩
                refine ⟨fun q => ?_, fun q => absurd rfl q⟩
                exact h
              · replace h := h.2 c
                refine ⟨fun c => ?_, fun c => ?_⟩
                · replace h := h.1 c
                  refine ⟨Or.inl rfl, ?_⟩
                  refine ⟨fun q => ?_, fun q => absurd rfl q⟩
                  exact h
                · replace h := h.2 c
                  refine ⟨Or.inr rfl, ?_⟩
                  refine ⟨fun q => absurd q (by decide), fun q => ?_⟩
                  exact h

set_option maxRecDepth 20000 in
/-- FrameCounty parties(IIII)I, from 49 -/
theorem iv_170_49 {G : ab_G} {L : Nat} {xs : Nat → Int32} {l : Launch} {d : Nat} {i1 : Int32} {i2 : Int32} {i3 : Int32} {i4 : Int32} {i5 : Int32} {i6 : Int32} {i7 : Int32} {V : aa_V} {K : aa_K} (h :
    (i7 < (256 : Int32) →
      ab_E G (ac_ST L xs) l (d + 2) ac_SK 285 [.int i7] V (aa_rI (fun x1 V1 =>
        (x1 = i1 →
          ab_E G (ac_ST L xs) l (d + 2) ac_SK 190 [.ref 0, .int i7, .int i2, .int i3] V1 (aa_rI (fun x2 V2 =>
            (i6 < x2 →
              ab_J G (ac_ST L xs) l (d + 3) 170 49 [some (.ref 0), some (.int i1), some (.int i2), some (.int i3), some (.int i4), some (.int i7), some (.int x2), some (.int (i7 + 1)), none] [] ac_SK V2 ac_SK K) ∧
            (¬ i6 < x2 →
              ab_J G (ac_ST L xs) l (d + 3) 170 49 [some (.ref 0), some (.int i1), some (.int i2), some (.int i3), some (.int i4), some (.int i5), some (.int i6), some (.int (i7 + 1)), none] [] ac_SK V2 ac_SK K)))) ∧
        (¬ x1 = i1 →
          ab_J G (ac_ST L xs) l (d + 3) 170 49 [some (.ref 0), some (.int i1), some (.int i2), some (.int i3), some (.int i4), some (.int i5), some (.int i6), some (.int (i7 + 1)), none] [] ac_SK V1 ac_SK K)))) ∧
    (¬ i7 < (256 : Int32) →
      (i4 = 0 →
        K (some (.int i5)) V) ∧
      (¬ i4 = 0 →
        K (some (.int i6)) V))) :
    ab_J G (ac_ST L xs) l (d + 3) 170 49 [some (.ref 0), some (.int i1), some (.int i2), some (.int i3), some (.int i4), some (.int i5), some (.int i6), some (.int i7), none] [] ac_SK V ac_SK K := by
  refine vc_170_49 ?_
  exact h

set_option maxRecDepth 20000 in
/-- FrameCounty clause(II)I, from 0 -/
theorem iv_171_0 {G : ab_G} {L : Nat} {xs : Nat → Int32} {l : Launch} {d : Nat} {i1 : Int32} {i2 : Int32} {V : aa_V} {K : aa_K} (h :
    (i1 < (-99 : Int32) →
      K (some (.int (-2 : Int32))) V) ∧
    (¬ i1 < (-99 : Int32) →
      ((99 : Int32) < i1 →
        K (some (.int (-2 : Int32))) V) ∧
      (¬ (99 : Int32) < i1 →
        (i2 < (-99 : Int32) →
          K (some (.int (-2 : Int32))) V) ∧
        (¬ i2 < (-99 : Int32) →
          ((99 : Int32) < i2 →
            K (some (.int (-2 : Int32))) V) ∧
          (¬ (99 : Int32) < i2 →
            ((V 60 0) < (8 : Int32) →
              vp_in (V 60 0) 8 ∧
              vp_in (V 60 0) 8 ∧
              K (some (.int (((V 60 0) + (1 : Int32)) - (1 : Int32)))) (aa_up (aa_up (aa_up V 61 (((V 60 0)).toNatClampNeg) i1) 62 (((V 60 0)).toNatClampNeg) i2) 60 0 ((V 60 0) + (1 : Int32)))) ∧
            (¬ (V 60 0) < (8 : Int32) →
              K (some (.int (-4 : Int32))) V)))))) :
    ab_E G (ac_ST L xs) l (d + 2) ac_SK 171 [.ref 0, .int i1, .int i2] V K := by
  refine vc_171_0 ?_
  refine vc_182_0 ?_
  refine ⟨fun c => ?_, fun c => ?_⟩
  · replace h := h.1 c
    refine ⟨Or.inl rfl, ?_⟩
    refine ⟨fun q => ?_, fun q => absurd rfl q⟩
    exact h
  · replace h := h.2 c
    refine ⟨fun c => ?_, fun c => ?_⟩
    · replace h := h.1 c
      refine ⟨Or.inl rfl, ?_⟩
      refine ⟨fun q => ?_, fun q => absurd rfl q⟩
      exact h
    · replace h := h.2 c
      refine ⟨Or.inr rfl, ?_⟩
      refine ⟨fun q => absurd q (by decide), fun q => ?_⟩
      refine vc_182_0 ?_
      refine ⟨fun c => ?_, fun c => ?_⟩
      · replace h := h.1 c
        refine ⟨Or.inl rfl, ?_⟩
        refine ⟨fun q => ?_, fun q => absurd rfl q⟩
        exact h
      · replace h := h.2 c
        refine ⟨fun c => ?_, fun c => ?_⟩
        · replace h := h.1 c
          refine ⟨Or.inl rfl, ?_⟩
          refine ⟨fun q => ?_, fun q => absurd rfl q⟩
          exact h
        · replace h := h.2 c
          refine ⟨Or.inr rfl, ?_⟩
          refine ⟨fun q => absurd q (by decide), fun q => ?_⟩
          refine vc_3_0 ?_
          refine ⟨fun c => ?_, fun c => ?_⟩
          · replace h := h.1 c
            refine ⟨h.1, ?_⟩
            replace h := h.2
            refine ⟨h.1, ?_⟩
            replace h := h.2
            exact h
          · replace h := h.2 c
            exact h

set_option maxRecDepth 20000 in
/-- FrameCounty against(II)I, from 0 -/
theorem iv_172_0 {G : ab_G} {L : Nat} {xs : Nat → Int32} {l : Launch} {d : Nat} {i1 : Int32} {i2 : Int32} {V : aa_V} {K : aa_K} (h :
    (i1 < (0 : Int32) →
      K (some (.int (-2 : Int32))) V) ∧
    (¬ i1 < (0 : Int32) →
      (((V 60 0) - (1 : Int32)) < i1 →
        K (some (.int (-2 : Int32))) V) ∧
      (¬ ((V 60 0) - (1 : Int32)) < i1 →
        (i2 < (0 : Int32) →
          K (some (.int (-2 : Int32))) V) ∧
        (¬ i2 < (0 : Int32) →
          (((V 60 0) - (1 : Int32)) < i2 →
            K (some (.int (-2 : Int32))) V) ∧
          (¬ ((V 60 0) - (1 : Int32)) < i2 →
            (i1 = i2 →
              K (some (.int (-2 : Int32))) V) ∧
            (¬ i1 = i2 →
              vp_in i1 8 ∧
              ((((V 63 ((i1).toNatClampNeg)) >>> (i2 &&& 31)) &&& (1 : Int32)) = 0 →
                vp_in i1 8 ∧
                vp_in i1 8 ∧
                vp_in i2 8 ∧
                vp_in i2 8 ∧
                K (some (.int (1 : Int32))) (aa_up (aa_up V 63 ((i1).toNatClampNeg) ((V 63 ((i1).toNatClampNeg)) ||| ((1 : Int32) <<< (i2 &&& 31)))) 63 ((i2).toNatClampNeg) (((aa_up V 63 ((i1).toNatClampNeg) ((V 63 ((i1).toNatClampNeg)) ||| ((1 : Int32) <<< (i2 &&& 31)))) 63 ((i2).toNatClampNeg)) ||| ((1 : Int32) <<< (i1 &&& 31))))) ∧
              (¬ (((V 63 ((i1).toNatClampNeg)) >>> (i2 &&& 31)) &&& (1 : Int32)) = 0 →
                vp_in i1 8 ∧
                vp_in i1 8 ∧
                vp_in i2 8 ∧
                vp_in i2 8 ∧
                K (some (.int (0 : Int32))) (aa_up (aa_up V 63 ((i1).toNatClampNeg) ((V 63 ((i1).toNatClampNeg)) ||| ((1 : Int32) <<< (i2 &&& 31)))) 63 ((i2).toNatClampNeg) (((aa_up V 63 ((i1).toNatClampNeg) ((V 63 ((i1).toNatClampNeg)) ||| ((1 : Int32) <<< (i2 &&& 31)))) 63 ((i2).toNatClampNeg)) ||| ((1 : Int32) <<< (i1 &&& 31))))))))))) :
    ab_E G (ac_ST L xs) l (d + 3) ac_SK 172 [.ref 0, .int i1, .int i2] V K := by
  refine vc_172_0 ?_
  refine vc_1_0 ?_
  refine vc_182_0 ?_
  refine ⟨fun c => ?_, fun c => ?_⟩
  · replace h := h.1 c
    refine ⟨Or.inl rfl, ?_⟩
    refine ⟨Or.inl rfl, ?_⟩
    refine ⟨fun q => ?_, fun q => absurd rfl q⟩
    exact h
  · replace h := h.2 c
    refine ⟨fun c => ?_, fun c => ?_⟩
    · replace h := h.1 c
      refine ⟨Or.inl rfl, ?_⟩
      refine ⟨Or.inl rfl, ?_⟩
      refine ⟨fun q => ?_, fun q => absurd rfl q⟩
      exact h
    · replace h := h.2 c
      refine ⟨Or.inr rfl, ?_⟩
      refine ⟨Or.inr rfl, ?_⟩
      refine ⟨fun q => absurd q (by decide), fun q => ?_⟩
      refine vc_1_0 ?_
      refine vc_182_0 ?_
      refine ⟨fun c => ?_, fun c => ?_⟩
      · replace h := h.1 c
        refine ⟨Or.inl rfl, ?_⟩
        refine ⟨Or.inl rfl, ?_⟩
        refine ⟨fun q => ?_, fun q => absurd rfl q⟩
        exact h
      · replace h := h.2 c
        refine ⟨fun c => ?_, fun c => ?_⟩
        · replace h := h.1 c
          refine ⟨Or.inl rfl, ?_⟩
          refine ⟨Or.inl rfl, ?_⟩
          refine ⟨fun q => ?_, fun q => absurd rfl q⟩
          exact h
        · replace h := h.2 c
          refine ⟨Or.inr rfl, ?_⟩
          refine ⟨Or.inr rfl, ?_⟩
          refine ⟨fun q => absurd q (by decide), fun q => ?_⟩
          refine ⟨fun c => ?_, fun c => ?_⟩
          · replace h := h.1 c
            exact h
          · replace h := h.2 c
            refine vc_4_0 ?_
            refine ⟨h.1, ?_⟩
            replace h := h.2
            refine ⟨fun c => ?_, fun c => ?_⟩
            · replace h := h.1 c
              refine ⟨h.1, ?_⟩
              replace h := h.2
              refine ⟨h.1, ?_⟩
              replace h := h.2
              refine ⟨h.1, ?_⟩
              replace h := h.2
              refine ⟨h.1, ?_⟩
              replace h := h.2
              refine ⟨Or.inr rfl, ?_⟩
              refine ⟨fun q => absurd q (by decide), fun q => ?_⟩
              exact h
            · replace h := h.2 c
              refine ⟨h.1, ?_⟩
              replace h := h.2
              refine ⟨h.1, ?_⟩
              replace h := h.2
              refine ⟨h.1, ?_⟩
              replace h := h.2
              refine ⟨h.1, ?_⟩
              replace h := h.2
              refine ⟨Or.inl rfl, ?_⟩
              refine ⟨fun q => ?_, fun q => absurd rfl q⟩
              exact h

set_option maxRecDepth 20000 in
/-- FrameCounty offer(II)I, from 0 -/
theorem iv_173_0 {G : ab_G} {L : Nat} {xs : Nat → Int32} {l : Launch} {d : Nat} {i1 : Int32} {i2 : Int32} {V : aa_V} {K : aa_K} (h :
    (i1 < (-999 : Int32) →
      K (some (.int (-2 : Int32))) V) ∧
    (¬ i1 < (-999 : Int32) →
      ((999 : Int32) < i1 →
        K (some (.int (-2 : Int32))) V) ∧
      (¬ (999 : Int32) < i1 →
        (i2 < (-999 : Int32) →
          K (some (.int (-2 : Int32))) V) ∧
        (¬ i2 < (-999 : Int32) →
          ((999 : Int32) < i2 →
            K (some (.int (-2 : Int32))) V) ∧
          (¬ (999 : Int32) < i2 →
            ab_E G (ac_ST L xs) l (d + 1) ac_SK 5 [.ref 60, .int i1, .int i2] V (aa_rI (fun x1 V1 =>
              K (some (.int x1)) V1))))))) :
    ab_E G (ac_ST L xs) l (d + 2) ac_SK 173 [.ref 0, .int i1, .int i2] V K := by
  refine vc_173_0 ?_
  refine vc_182_0 ?_
  refine ⟨fun c => ?_, fun c => ?_⟩
  · replace h := h.1 c
    refine ⟨Or.inl rfl, ?_⟩
    refine ⟨fun q => ?_, fun q => absurd rfl q⟩
    exact h
  · replace h := h.2 c
    refine ⟨fun c => ?_, fun c => ?_⟩
    · replace h := h.1 c
      refine ⟨Or.inl rfl, ?_⟩
      refine ⟨fun q => ?_, fun q => absurd rfl q⟩
      exact h
    · replace h := h.2 c
      refine ⟨Or.inr rfl, ?_⟩
      refine ⟨fun q => absurd q (by decide), fun q => ?_⟩
      refine vc_182_0 ?_
      refine ⟨fun c => ?_, fun c => ?_⟩
      · replace h := h.1 c
        refine ⟨Or.inl rfl, ?_⟩
        refine ⟨fun q => ?_, fun q => absurd rfl q⟩
        exact h
      · replace h := h.2 c
        refine ⟨fun c => ?_, fun c => ?_⟩
        · replace h := h.1 c
          refine ⟨Or.inl rfl, ?_⟩
          refine ⟨fun q => ?_, fun q => absurd rfl q⟩
          exact h
        · replace h := h.2 c
          refine ⟨Or.inr rfl, ?_⟩
          refine ⟨fun q => absurd q (by decide), fun q => ?_⟩
          exact h

set_option maxRecDepth 20000 in
/-- FrameCounty row(J)I, from 0 -/
theorem iv_174_0 {G : ab_G} {L : Nat} {xs : Nat → Int32} {l : Launch} {d : Nat} {l1 : Int64} {V : aa_V} {K : aa_K} (h :
    ((lg_cmp l1 (0 : Int64)) < 0 →
      K (some (.int (-2 : Int32))) V) ∧
    (¬ (lg_cmp l1 (0 : Int64)) < 0 →
      ((lg_cmp l1 (10000000000 : Int64)) < 0 →
        ab_E G (ac_ST L xs) l (d + 1) ac_SK 97 [.ref 64, .long l1] V (aa_rI (fun x1 V1 =>
          K (some (.int x1)) V1))) ∧
      (¬ (lg_cmp l1 (10000000000 : Int64)) < 0 →
        K (some (.int (-2 : Int32))) V))) :
    ab_E G (ac_ST L xs) l (d + 2) ac_SK 174 [.ref 0, .long l1] V K := by
  refine vc_174_0 ?_
  refine vc_95_0 ?_
  refine ⟨fun c => ?_, fun c => ?_⟩
  · replace h := h.1 c
    refine ⟨Or.inl rfl, ?_⟩
    refine ⟨fun q => ?_, fun q => absurd rfl q⟩
    exact h
  · replace h := h.2 c
    refine ⟨fun c => ?_, fun c => ?_⟩
    · replace h := h.1 c
      refine ⟨Or.inr rfl, ?_⟩
      refine ⟨fun q => absurd q (by decide), fun q => ?_⟩
      exact h
    · replace h := h.2 c
      refine ⟨Or.inl rfl, ?_⟩
      refine ⟨fun q => ?_, fun q => absurd rfl q⟩
      exact h

set_option maxRecDepth 20000 in
/-- FrameCounty plan(II)I, from 0 -/
theorem iv_175_0 {G : ab_G} {L : Nat} {xs : Nat → Int32} {l : Launch} {d : Nat} {i1 : Int32} {i2 : Int32} {V : aa_V} {K : aa_K} (h :
    (i1 < (1 : Int32) →
      K (some (.int (-2 : Int32))) V) ∧
    (¬ i1 < (1 : Int32) →
      ((5 : Int32) < i1 →
        K (some (.int (-2 : Int32))) V) ∧
      (¬ (5 : Int32) < i1 →
        (i2 < (-1 : Int32) →
          K (some (.int (-1 : Int32))) V) ∧
        (¬ i2 < (-1 : Int32) →
          ((i1 - (1 : Int32)) < i2 →
            K (some (.int (-1 : Int32))) V) ∧
          (¬ (i1 - (1 : Int32)) < i2 →
            ab_E G (ac_ST L xs) l (d + 1) ac_SK 99 [.ref 64, .int i1] V (aa_rI (fun x1 V1 =>
              (i2 = (-1 : Int32) →
                ab_E G (ac_ST L xs) l (d + 1) ac_SK 100 [.ref 64, .int x1, .int i1] V1 (aa_rI (fun x2 V2 =>
                  K (some (.int x2)) V2))) ∧
              (¬ i2 = (-1 : Int32) →
                vp_in ((i1 - (1 : Int32)) - i2) (ac_ST L xs 1).2.1 ∧
                ¬ ((ac_ST L xs 1).2.2 (((i1 - (1 : Int32)) - i2)).toNatClampNeg) = 0 ∧
                ¬ (3 : Int32) = 0 ∧
                K (some (.int ((x1 / ((ac_ST L xs 1).2.2 (((i1 - (1 : Int32)) - i2)).toNatClampNeg)) - (x1 / ((ac_ST L xs 1).2.2 (((i1 - (1 : Int32)) - i2)).toNatClampNeg)) / (3 : Int32) * (3 : Int32)))) V1)))))))) :
    ab_E G (ac_ST L xs) l (d + 2) ac_SK 175 [.ref 0, .int i1, .int i2] V K := by
  refine vc_175_0 ?_
  refine vc_182_0 ?_
  refine ⟨fun c => ?_, fun c => ?_⟩
  · replace h := h.1 c
    refine ⟨Or.inl rfl, ?_⟩
    refine ⟨fun q => ?_, fun q => absurd rfl q⟩
    exact h
  · replace h := h.2 c
    refine ⟨fun c => ?_, fun c => ?_⟩
    · replace h := h.1 c
      refine ⟨Or.inl rfl, ?_⟩
      refine ⟨fun q => ?_, fun q => absurd rfl q⟩
      exact h
    · replace h := h.2 c
      refine ⟨Or.inr rfl, ?_⟩
      refine ⟨fun q => absurd q (by decide), fun q => ?_⟩
      refine vc_182_0 ?_
      refine ⟨fun c => ?_, fun c => ?_⟩
      · replace h := h.1 c
        refine ⟨Or.inl rfl, ?_⟩
        refine ⟨fun q => ?_, fun q => absurd rfl q⟩
        exact h
      · replace h := h.2 c
        refine ⟨fun c => ?_, fun c => ?_⟩
        · replace h := h.1 c
          refine ⟨Or.inl rfl, ?_⟩
          refine ⟨fun q => ?_, fun q => absurd rfl q⟩
          exact h
        · replace h := h.2 c
          refine ⟨Or.inr rfl, ?_⟩
          refine ⟨fun q => absurd q (by decide), fun q => ?_⟩
          refine ab_EmI (fun x1 V1 h => ?_) h
          refine ⟨fun c => ?_, fun c => ?_⟩
          · replace h := h.1 c
            exact h
          · replace h := h.2 c
            refine vc_98_0 ?_
            refine ⟨h.1, ?_⟩
            replace h := h.2
            refine ⟨h.1, ?_⟩
            replace h := h.2
            refine ⟨h.1, ?_⟩
            replace h := h.2
            exact h

set_option maxRecDepth 20000 in
/-- FrameCounty count(I)I, from 0 -/
theorem iv_176_0 {G : ab_G} {L : Nat} {xs : Nat → Int32} {l : Launch} {d : Nat} {i1 : Int32} {V : aa_V} {K : aa_K} (h :
    (i1 = 0 →
      K (some (.int (V 0 13))) V) ∧
    (¬ i1 = 0 →
    (i1 = 1 →
      K (some (.int (V 29 0))) V) ∧
    (¬ i1 = 1 →
    (i1 = 2 →
      K (some (.int (V 29 3))) V) ∧
    (¬ i1 = 2 →
    (i1 = 3 →
      K (some (.int (V 38 1))) V) ∧
    (¬ i1 = 3 →
    (i1 = 4 →
      K (some (.int (V 42 2))) V) ∧
    (¬ i1 = 4 →
    (i1 = 5 →
      K (some (.int (V 42 4))) V) ∧
    (¬ i1 = 5 →
    (i1 = 6 →
      K (some (.int (V 42 10))) V) ∧
    (¬ i1 = 6 →
    (i1 = 7 →
      K (some (.int (V 54 0))) V) ∧
    (¬ i1 = 7 →
    (i1 = 8 →
      K (some (.int (V 60 0))) V) ∧
    (¬ i1 = 8 →
    (i1 = 9 →
      K (some (.int (V 64 0))) V) ∧
    (¬ i1 = 9 →
    (i1 = 10 →
      K (some (.int (V 0 11))) V) ∧
    (¬ i1 = 10 →
    (i1 = 11 →
      K (some (.int (V 80 1))) V) ∧
    (¬ i1 = 11 →
    (i1 = 12 →
      K (some (.int (V 0 12))) V) ∧
    (¬ i1 = 12 →
    (i1 = 13 →
      ab_E G (ac_ST L xs) l (d + 1) ac_SK 123 [.ref 29, .int (0 : Int32)] V (aa_rI (fun x1 V1 =>
        K (some (.int x1)) V1))) ∧
    (¬ i1 = 13 →
    (i1 = 14 →
      ab_E G (ac_ST L xs) l (d + 1) ac_SK 123 [.ref 29, .int (1 : Int32)] V (aa_rI (fun x1 V1 =>
        K (some (.int x1)) V1))) ∧
    (¬ i1 = 14 →
    (i1 = 15 →
      ab_E G (ac_ST L xs) l (d + 1) ac_SK 123 [.ref 29, .int (2 : Int32)] V (aa_rI (fun x1 V1 =>
        K (some (.int x1)) V1))) ∧
    (¬ i1 = 15 →
    K (some (.int (-2 : Int32))) V))))))))))))))))) :
    ab_E G (ac_ST L xs) l (d + 2) ac_SK 176 [.ref 0, .int i1] V K := by
  refine vc_176_0 ?_
  refine ⟨fun c => ?_, fun c => ?_⟩
  · replace h := h.1 c
    exact h
  · replace h := h.2 c
    refine ⟨fun c => ?_, fun c => ?_⟩
    · replace h := h.1 c
      refine vc_109_0 ?_
      exact h
    · replace h := h.2 c
      refine ⟨fun c => ?_, fun c => ?_⟩
      · replace h := h.1 c
        refine vc_110_0 ?_
        exact h
      · replace h := h.2 c
        refine ⟨fun c => ?_, fun c => ?_⟩
        · replace h := h.1 c
          refine vc_19_0 ?_
          exact h
        · replace h := h.2 c
          refine ⟨fun c => ?_, fun c => ?_⟩
          · replace h := h.1 c
            refine vc_81_0 ?_
            exact h
          · replace h := h.2 c
            refine ⟨fun c => ?_, fun c => ?_⟩
            · replace h := h.1 c
              refine vc_82_0 ?_
              exact h
            · replace h := h.2 c
              refine ⟨fun c => ?_, fun c => ?_⟩
              · replace h := h.1 c
                refine vc_83_0 ?_
                exact h
              · replace h := h.2 c
                refine ⟨fun c => ?_, fun c => ?_⟩
                · replace h := h.1 c
                  refine vc_10_0 ?_
                  exact h
                · replace h := h.2 c
                  refine ⟨fun c => ?_, fun c => ?_⟩
                  · replace h := h.1 c
                    refine vc_2_0 ?_
                    exact h
                  · replace h := h.2 c
                    refine ⟨fun c => ?_, fun c => ?_⟩
                    · replace h := h.1 c
                      refine vc_96_0 ?_
                      exact h
                    · replace h := h.2 c
                      refine ⟨fun c => ?_, fun c => ?_⟩
                      · replace h := h.1 c
                        exact h
                      · replace h := h.2 c
                        refine ⟨fun c => ?_, fun c => ?_⟩
                        · replace h := h.1 c
                          refine vc_25_0 ?_
                          exact h
                        · replace h := h.2 c
                          refine ⟨fun c => ?_, fun c => ?_⟩
                          · replace h := h.1 c
                            exact h
                          · replace h := h.2 c
                            refine ⟨fun c => ?_, fun c => ?_⟩
                            · replace h := h.1 c
                              exact h
                            · replace h := h.2 c
                              refine ⟨fun c => ?_, fun c => ?_⟩
                              · replace h := h.1 c
                                exact h
                              · replace h := h.2 c
                                refine ⟨fun c => ?_, fun c => ?_⟩
                                · replace h := h.1 c
                                  exact h
                                · replace h := h.2 c
                                  exact h

set_option maxRecDepth 20000 in
/-- FrameCounty sheet(III)I, from 0 -/
theorem iv_177_0 {G : ab_G} {L : Nat} {xs : Nat → Int32} {l : Launch} {d : Nat} {i1 : Int32} {i2 : Int32} {i3 : Int32} {V : aa_V} {K : aa_K} (h :
    (i1 < (0 : Int32) →
      K (some (.int (-2 : Int32))) V) ∧
    (¬ i1 < (0 : Int32) →
      ((3 : Int32) < i1 →
        K (some (.int (-2 : Int32))) V) ∧
      (¬ (3 : Int32) < i1 →
        (i2 = (-1 : Int32) →
          (i2 = (-1 : Int32) →
            vp_in i1 4 ∧
            vp_in i1 4 ∧
            K (some (.int (1 : Int32))) (aa_up (aa_up V 73 ((i1).toNatClampNeg) (-1 : Int32)) 74 ((i1).toNatClampNeg) (0 : Int32))) ∧
          (¬ i2 = (-1 : Int32) →
            ((40 : Int32) < i3 →
              K (some (.int (-2 : Int32))) V) ∧
            (¬ (40 : Int32) < i3 →
              (i3 < 0 →
                K (some (.int (-14 : Int32))) V) ∧
              (¬ i3 < 0 →
                ab_E G (ac_ST L xs) l (d + 2) ac_SK 63 [.ref 72, .int i1, .int i2, .int i3] V (aa_rV (fun V1 =>
                  K (some (.int (1 : Int32))) V1)))))) ∧
        (¬ i2 = (-1 : Int32) →
          (i2 < (0 : Int32) →
            K (some (.int (-2 : Int32))) V) ∧
          (¬ i2 < (0 : Int32) →
            ((2 : Int32) < i2 →
              K (some (.int (-2 : Int32))) V) ∧
            (¬ (2 : Int32) < i2 →
              (i2 = (-1 : Int32) →
                vp_in i1 4 ∧
                vp_in i1 4 ∧
                K (some (.int (1 : Int32))) (aa_up (aa_up V 73 ((i1).toNatClampNeg) (-1 : Int32)) 74 ((i1).toNatClampNeg) (0 : Int32))) ∧
              (¬ i2 = (-1 : Int32) →
                ((40 : Int32) < i3 →
                  K (some (.int (-2 : Int32))) V) ∧
                (¬ (40 : Int32) < i3 →
                  (i3 < 0 →
                    K (some (.int (-14 : Int32))) V) ∧
                  (¬ i3 < 0 →
                    ab_E G (ac_ST L xs) l (d + 2) ac_SK 63 [.ref 72, .int i1, .int i2, .int i3] V (aa_rV (fun V1 =>
                      K (some (.int (1 : Int32))) V1))))))))))) :
    ab_E G (ac_ST L xs) l (d + 3) ac_SK 177 [.ref 0, .int i1, .int i2, .int i3] V K := by
  refine vc_177_0 ?_
  refine vc_56_0 ?_
  refine vc_182_0 ?_
  refine ⟨fun c => ?_, fun c => ?_⟩
  · replace h := h.1 c
    refine ⟨Or.inl rfl, ?_⟩
    refine ⟨Or.inl rfl, ?_⟩
    refine ⟨fun q => ?_, fun q => absurd rfl q⟩
    exact h
  · replace h := h.2 c
    refine ⟨fun c => ?_, fun c => ?_⟩
    · replace h := h.1 c
      refine ⟨Or.inl rfl, ?_⟩
      refine ⟨Or.inl rfl, ?_⟩
      refine ⟨fun q => ?_, fun q => absurd rfl q⟩
      exact h
    · replace h := h.2 c
      refine ⟨Or.inr rfl, ?_⟩
      refine ⟨Or.inr rfl, ?_⟩
      refine ⟨fun q => absurd q (by decide), fun q => ?_⟩
      refine ⟨fun c => ?_, fun c => ?_⟩
      · replace h := h.1 c
        refine ⟨fun c => ?_, fun c => ?_⟩
        · replace h := h.1 c
          refine vc_62_0 ?_
          refine ⟨h.1, ?_⟩
          replace h := h.2
          refine ⟨h.1, ?_⟩
          replace h := h.2
          exact h
        · replace h := h.2 c
          exact h
      · replace h := h.2 c
        refine vc_57_0 ?_
        refine vc_182_0 ?_
        refine ⟨fun c => ?_, fun c => ?_⟩
        · replace h := h.1 c
          refine ⟨Or.inl rfl, ?_⟩
          refine ⟨Or.inl rfl, ?_⟩
          refine ⟨fun q => ?_, fun q => absurd rfl q⟩
          exact h
        · replace h := h.2 c
          refine ⟨fun c => ?_, fun c => ?_⟩
          · replace h := h.1 c
            refine ⟨Or.inl rfl, ?_⟩
            refine ⟨Or.inl rfl, ?_⟩
            refine ⟨fun q => ?_, fun q => absurd rfl q⟩
            exact h
          · replace h := h.2 c
            refine ⟨Or.inr rfl, ?_⟩
            refine ⟨Or.inr rfl, ?_⟩
            refine ⟨fun q => absurd q (by decide), fun q => ?_⟩
            refine ⟨fun c => ?_, fun c => ?_⟩
            · replace h := h.1 c
              refine vc_62_0 ?_
              refine ⟨h.1, ?_⟩
              replace h := h.2
              refine ⟨h.1, ?_⟩
              replace h := h.2
              exact h
            · replace h := h.2 c
              exact h

set_option maxRecDepth 20000 in
/-- FrameCounty cell(III)I, from 0 -/
theorem iv_178_0 {G : ab_G} {L : Nat} {xs : Nat → Int32} {l : Launch} {d : Nat} {i1 : Int32} {i2 : Int32} {i3 : Int32} {V : aa_V} {K : aa_K} (h :
    (i1 < (0 : Int32) →
      K (some (.int (-2 : Int32))) V) ∧
    (¬ i1 < (0 : Int32) →
      ((3 : Int32) < i1 →
        K (some (.int (-2 : Int32))) V) ∧
      (¬ (3 : Int32) < i1 →
        vp_in i1 4 ∧
        ((V 73 ((i1).toNatClampNeg)) = (-1 : Int32) →
          K (some (.int (-11 : Int32))) V) ∧
        (¬ (V 73 ((i1).toNatClampNeg)) = (-1 : Int32) →
          vp_in i1 4 ∧
          (i2 < (0 : Int32) →
            K (some (.int (-12 : Int32))) V) ∧
          (¬ i2 < (0 : Int32) →
            (((V 74 ((i1).toNatClampNeg)) - (1 : Int32)) < i2 →
              K (some (.int (-12 : Int32))) V) ∧
            (¬ ((V 74 ((i1).toNatClampNeg)) - (1 : Int32)) < i2 →
              ab_E G (ac_ST L xs) l (d + 2) ac_SK 64 [.ref 72, .int i1, .int i2, .int i3] V (aa_rV (fun V1 =>
                K (some (.int (1 : Int32))) V1)))))))) :
    ab_E G (ac_ST L xs) l (d + 3) ac_SK 178 [.ref 0, .int i1, .int i2, .int i3] V K := by
  refine vc_178_0 ?_
  refine vc_56_0 ?_
  refine vc_182_0 ?_
  refine ⟨fun c => ?_, fun c => ?_⟩
  · replace h := h.1 c
    refine ⟨Or.inl rfl, ?_⟩
    refine ⟨Or.inl rfl, ?_⟩
    refine ⟨fun q => ?_, fun q => absurd rfl q⟩
    exact h
  · replace h := h.2 c
    refine ⟨fun c => ?_, fun c => ?_⟩
    · replace h := h.1 c
      refine ⟨Or.inl rfl, ?_⟩
      refine ⟨Or.inl rfl, ?_⟩
      refine ⟨fun q => ?_, fun q => absurd rfl q⟩
      exact h
    · replace h := h.2 c
      refine ⟨Or.inr rfl, ?_⟩
      refine ⟨Or.inr rfl, ?_⟩
      refine ⟨fun q => absurd q (by decide), fun q => ?_⟩
      refine vc_58_0 ?_
      refine ⟨h.1, ?_⟩
      replace h := h.2
      refine ⟨fun c => ?_, fun c => ?_⟩
      · replace h := h.1 c
        refine ⟨Or.inr rfl, ?_⟩
        refine ⟨fun q => absurd q (by decide), fun q => ?_⟩
        exact h
      · replace h := h.2 c
        refine ⟨Or.inl rfl, ?_⟩
        refine ⟨fun q => ?_, fun q => absurd rfl q⟩
        refine vc_60_0 ?_
        refine ⟨h.1, ?_⟩
        replace h := h.2
        refine vc_182_0 ?_
        refine ⟨fun c => ?_, fun c => ?_⟩
        · replace h := h.1 c
          refine ⟨Or.inl rfl, ?_⟩
          refine ⟨Or.inl rfl, ?_⟩
          refine ⟨fun q => ?_, fun q => absurd rfl q⟩
          exact h
        · replace h := h.2 c
          refine ⟨fun c => ?_, fun c => ?_⟩
          · replace h := h.1 c
            refine ⟨Or.inl rfl, ?_⟩
            refine ⟨Or.inl rfl, ?_⟩
            refine ⟨fun q => ?_, fun q => absurd rfl q⟩
            exact h
          · replace h := h.2 c
            refine ⟨Or.inr rfl, ?_⟩
            refine ⟨Or.inr rfl, ?_⟩
            refine ⟨fun q => absurd q (by decide), fun q => ?_⟩
            exact h

set_option maxRecDepth 20000 in
/-- FrameCounty copy(IIIII)I, from 0 -/
theorem iv_179_0 {G : ab_G} {L : Nat} {xs : Nat → Int32} {l : Launch} {d : Nat} {i1 : Int32} {i2 : Int32} {i3 : Int32} {i4 : Int32} {i5 : Int32} {V : aa_V} {K : aa_K} (h :
    (i1 < (0 : Int32) →
      K (some (.int (-2 : Int32))) V) ∧
    (¬ i1 < (0 : Int32) →
      ((3 : Int32) < i1 →
        K (some (.int (-2 : Int32))) V) ∧
      (¬ (3 : Int32) < i1 →
        (i3 < (0 : Int32) →
          K (some (.int (-2 : Int32))) V) ∧
        (¬ i3 < (0 : Int32) →
          ((3 : Int32) < i3 →
            K (some (.int (-2 : Int32))) V) ∧
          (¬ (3 : Int32) < i3 →
            vp_in i1 4 ∧
            ((V 73 ((i1).toNatClampNeg)) = (-1 : Int32) →
              K (some (.int (-11 : Int32))) V) ∧
            (¬ (V 73 ((i1).toNatClampNeg)) = (-1 : Int32) →
              vp_in i3 4 ∧
              ((V 73 ((i3).toNatClampNeg)) = (-1 : Int32) →
                K (some (.int (-11 : Int32))) V) ∧
              (¬ (V 73 ((i3).toNatClampNeg)) = (-1 : Int32) →
                vp_in i1 4 ∧
                vp_in i3 4 ∧
                ((V 73 ((i1).toNatClampNeg)) = (V 73 ((i3).toNatClampNeg)) →
                  ab_E G (ac_ST L xs) l (d + 2) ac_SK 61 [.ref 72, .int i1, .int i2, .int i5] V (aa_rI (fun x1 V1 =>
                    (x1 = 0 →
                      K (some (.int (-12 : Int32))) V1) ∧
                    (¬ x1 = 0 →
                      ab_E G (ac_ST L xs) l (d + 2) ac_SK 61 [.ref 72, .int i3, .int i4, .int i5] V1 (aa_rI (fun x2 V2 =>
                        (x2 = 0 →
                          K (some (.int (-12 : Int32))) V2) ∧
                        (¬ x2 = 0 →
                          ab_E G (ac_ST L xs) l (d + 2) ac_SK 66 [.ref 72, .int i1, .int i2, .int i3, .int i4, .int i5] V2 (aa_rV (fun V3 =>
                            K (some (.int i5)) V3))))))))) ∧
                (¬ (V 73 ((i1).toNatClampNeg)) = (V 73 ((i3).toNatClampNeg)) →
                  K (some (.int (-13 : Int32))) V)))))))) :
    ab_E G (ac_ST L xs) l (d + 3) ac_SK 179 [.ref 0, .int i1, .int i2, .int i3, .int i4, .int i5] V K := by
  refine vc_179_0 ?_
  refine vc_56_0 ?_
  refine vc_182_0 ?_
  refine ⟨fun c => ?_, fun c => ?_⟩
  · replace h := h.1 c
    refine ⟨Or.inl rfl, ?_⟩
    refine ⟨Or.inl rfl, ?_⟩
    refine ⟨fun q => ?_, fun q => absurd rfl q⟩
    exact h
  · replace h := h.2 c
    refine ⟨fun c => ?_, fun c => ?_⟩
    · replace h := h.1 c
      refine ⟨Or.inl rfl, ?_⟩
      refine ⟨Or.inl rfl, ?_⟩
      refine ⟨fun q => ?_, fun q => absurd rfl q⟩
      exact h
    · replace h := h.2 c
      refine ⟨Or.inr rfl, ?_⟩
      refine ⟨Or.inr rfl, ?_⟩
      refine ⟨fun q => absurd q (by decide), fun q => ?_⟩
      refine vc_56_0 ?_
      refine vc_182_0 ?_
      refine ⟨fun c => ?_, fun c => ?_⟩
      · replace h := h.1 c
        refine ⟨Or.inl rfl, ?_⟩
        refine ⟨Or.inl rfl, ?_⟩
        refine ⟨fun q => ?_, fun q => absurd rfl q⟩
        exact h
      · replace h := h.2 c
        refine ⟨fun c => ?_, fun c => ?_⟩
        · replace h := h.1 c
          refine ⟨Or.inl rfl, ?_⟩
          refine ⟨Or.inl rfl, ?_⟩
          refine ⟨fun q => ?_, fun q => absurd rfl q⟩
          exact h
        · replace h := h.2 c
          refine ⟨Or.inr rfl, ?_⟩
          refine ⟨Or.inr rfl, ?_⟩
          refine ⟨fun q => absurd q (by decide), fun q => ?_⟩
          refine vc_58_0 ?_
          refine ⟨h.1, ?_⟩
          replace h := h.2
          refine ⟨fun c => ?_, fun c => ?_⟩
          · replace h := h.1 c
            refine ⟨Or.inr rfl, ?_⟩
            refine ⟨fun q => absurd q (by decide), fun q => ?_⟩
            exact h
          · replace h := h.2 c
            refine ⟨Or.inl rfl, ?_⟩
            refine ⟨fun q => ?_, fun q => absurd rfl q⟩
            refine vc_58_0 ?_
            refine ⟨h.1, ?_⟩
            replace h := h.2
            refine ⟨fun c => ?_, fun c => ?_⟩
            · replace h := h.1 c
              refine ⟨Or.inr rfl, ?_⟩
              refine ⟨fun q => absurd q (by decide), fun q => ?_⟩
              exact h
            · replace h := h.2 c
              refine ⟨Or.inl rfl, ?_⟩
              refine ⟨fun q => ?_, fun q => absurd rfl q⟩
              refine vc_59_0 ?_
              refine ⟨h.1, ?_⟩
              replace h := h.2
              refine vc_59_0 ?_
              refine ⟨h.1, ?_⟩
              replace h := h.2
              exact h

set_option maxRecDepth 20000 in
/-- FrameCounty paysRow(IIII)I, from 0 -/
theorem iv_180_0 {G : ab_G} {L : Nat} {xs : Nat → Int32} {l : Launch} {d : Nat} {i1 : Int32} {i2 : Int32} {i3 : Int32} {i4 : Int32} {V : aa_V} {K : aa_K} (h :
    (i1 < (0 : Int32) →
      K (some (.int (-2 : Int32))) V) ∧
    (¬ i1 < (0 : Int32) →
      ((3 : Int32) < i1 →
        K (some (.int (-2 : Int32))) V) ∧
      (¬ (3 : Int32) < i1 →
        (i2 < (0 : Int32) →
          K (some (.int (-2 : Int32))) V) ∧
        (¬ i2 < (0 : Int32) →
          ((2 : Int32) < i2 →
            K (some (.int (-2 : Int32))) V) ∧
          (¬ (2 : Int32) < i2 →
            (i4 < (0 : Int32) →
              K (some (.int (-2 : Int32))) V) ∧
            (¬ i4 < (0 : Int32) →
              ((8 : Int32) < i4 →
                K (some (.int (-2 : Int32))) V) ∧
              (¬ (8 : Int32) < i4 →
                vp_in i1 4 ∧
                ((V 73 ((i1).toNatClampNeg)) = (-1 : Int32) →
                  K (some (.int (-11 : Int32))) V) ∧
                (¬ (V 73 ((i1).toNatClampNeg)) = (-1 : Int32) →
                  vp_in i1 4 ∧
                  ((V 73 ((i1).toNatClampNeg)) = i2 →
                    ab_J G (ac_ST L xs) l (d + 3) 180 63 [some (.ref 0), some (.int i1), none, some (.int i3), some (.int i4), some (.int (0 : Int32)), some (.int (0 : Int32)), none, none] [] ac_SK V ac_SK K) ∧
                  (¬ (V 73 ((i1).toNatClampNeg)) = i2 →
                    K (some (.int (-13 : Int32))) V))))))))) :
    ab_E G (ac_ST L xs) l (d + 3) ac_SK 180 [.ref 0, .int i1, .int i2, .int i3, .int i4] V K := by
  refine vc_180_0 ?_
  refine vc_56_0 ?_
  refine vc_182_0 ?_
  refine ⟨fun c => ?_, fun c => ?_⟩
  · replace h := h.1 c
    refine ⟨Or.inl rfl, ?_⟩
    refine ⟨Or.inl rfl, ?_⟩
    refine ⟨fun q => ?_, fun q => absurd rfl q⟩
    exact h
  · replace h := h.2 c
    refine ⟨fun c => ?_, fun c => ?_⟩
    · replace h := h.1 c
      refine ⟨Or.inl rfl, ?_⟩
      refine ⟨Or.inl rfl, ?_⟩
      refine ⟨fun q => ?_, fun q => absurd rfl q⟩
      exact h
    · replace h := h.2 c
      refine ⟨Or.inr rfl, ?_⟩
      refine ⟨Or.inr rfl, ?_⟩
      refine ⟨fun q => absurd q (by decide), fun q => ?_⟩
      refine vc_57_0 ?_
      refine vc_182_0 ?_
      refine ⟨fun c => ?_, fun c => ?_⟩
      · replace h := h.1 c
        refine ⟨Or.inl rfl, ?_⟩
        refine ⟨Or.inl rfl, ?_⟩
        refine ⟨fun q => ?_, fun q => absurd rfl q⟩
        exact h
      · replace h := h.2 c
        refine ⟨fun c => ?_, fun c => ?_⟩
        · replace h := h.1 c
          refine ⟨Or.inl rfl, ?_⟩
          refine ⟨Or.inl rfl, ?_⟩
          refine ⟨fun q => ?_, fun q => absurd rfl q⟩
          exact h
        · replace h := h.2 c
          refine ⟨Or.inr rfl, ?_⟩
          refine ⟨Or.inr rfl, ?_⟩
          refine ⟨fun q => absurd q (by decide), fun q => ?_⟩
          refine vc_182_0 ?_
          refine ⟨fun c => ?_, fun c => ?_⟩
          · replace h := h.1 c
            refine ⟨Or.inl rfl, ?_⟩
            refine ⟨fun q => ?_, fun q => absurd rfl q⟩
            exact h
          · replace h := h.2 c
            refine ⟨fun c => ?_, fun c => ?_⟩
            · replace h := h.1 c
              refine ⟨Or.inl rfl, ?_⟩
              refine ⟨fun q => ?_, fun q => absurd rfl q⟩
              exact h
            · replace h := h.2 c
              refine ⟨Or.inr rfl, ?_⟩
              refine ⟨fun q => absurd q (by decide), fun q => ?_⟩
              refine vc_58_0 ?_
              refine ⟨h.1, ?_⟩
              replace h := h.2
              refine ⟨fun c => ?_, fun c => ?_⟩
              · replace h := h.1 c
                refine ⟨Or.inr rfl, ?_⟩
                refine ⟨fun q => absurd q (by decide), fun q => ?_⟩
                exact h
              · replace h := h.2 c
                refine ⟨Or.inl rfl, ?_⟩
                refine ⟨fun q => ?_, fun q => absurd rfl q⟩
                refine vc_59_0 ?_
                refine ⟨h.1, ?_⟩
                replace h := h.2
                exact h

set_option maxRecDepth 20000 in
/-- FrameCounty paysRow(IIII)I, from 63 -/
theorem iv_180_63 {G : ab_G} {L : Nat} {xs : Nat → Int32} {l : Launch} {d : Nat} {i1 : Int32} {i3 : Int32} {i4 : Int32} {i5 : Int32} {i6 : Int32} {V : aa_V} {K : aa_K} (h :
    (i6 < i4 →
      vp_in i1 4 ∧
      ((i3 + i6) < (0 : Int32) →
        K (some (.int (-12 : Int32))) V) ∧
      (¬ (i3 + i6) < (0 : Int32) →
        (((V 74 ((i1).toNatClampNeg)) - (1 : Int32)) < (i3 + i6) →
          K (some (.int (-12 : Int32))) V) ∧
        (¬ ((V 74 ((i1).toNatClampNeg)) - (1 : Int32)) < (i3 + i6) →
          ab_E G (ac_ST L xs) l (d + 2) ac_SK 65 [.ref 72, .int i1, .int (i3 + i6)] V (aa_rI (fun x1 V1 =>
            (i6 < (0 : Int32) →
              ab_J G (ac_ST L xs) l (d + 3) 180 63 [some (.ref 0), some (.int i1), none, some (.int i3), some (.int i4), some (.int i5), some (.int (i6 + 1)), none, none] [] ac_SK V1 ac_SK K) ∧
            (¬ i6 < (0 : Int32) →
              (((V1 29 0) - (1 : Int32)) < i6 →
                ab_J G (ac_ST L xs) l (d + 3) 180 63 [some (.ref 0), some (.int i1), none, some (.int i3), some (.int i4), some (.int i5), some (.int (i6 + 1)), none, none] [] ac_SK V1 ac_SK K) ∧
              (¬ ((V1 29 0) - (1 : Int32)) < i6 →
                (x1 < (0 : Int32) →
                  ab_J G (ac_ST L xs) l (d + 3) 180 63 [some (.ref 0), some (.int i1), none, some (.int i3), some (.int i4), some (.int i5), some (.int (i6 + 1)), none, none] [] ac_SK V1 ac_SK K) ∧
                (¬ x1 < (0 : Int32) →
                  ((99 : Int32) < x1 →
                    ab_J G (ac_ST L xs) l (d + 3) 180 63 [some (.ref 0), some (.int i1), none, some (.int i3), some (.int i4), some (.int i5), some (.int (i6 + 1)), none, none] [] ac_SK V1 ac_SK K) ∧
                  (¬ (99 : Int32) < x1 →
                    vp_in i6 8 ∧
                    vp_in i6 8 ∧
                    ab_J G (ac_ST L xs) l (d + 3) 180 63 [some (.ref 0), some (.int i1), none, some (.int i3), some (.int i4), some (.int (i5 + 1)), some (.int (i6 + 1)), none, none] [] ac_SK (aa_up V1 31 ((i6).toNatClampNeg) x1) ac_SK K))))))))) ∧
    (¬ i6 < i4 →
      K (some (.int i5)) V)) :
    ab_J G (ac_ST L xs) l (d + 3) 180 63 [some (.ref 0), some (.int i1), none, some (.int i3), some (.int i4), some (.int i5), some (.int i6), none, none] [] ac_SK V ac_SK K := by
  refine vc_180_63 ?_
  refine ⟨fun c => ?_, fun c => ?_⟩
  · replace h := h.1 c
    refine vc_60_0 ?_
    refine ⟨h.1, ?_⟩
    replace h := h.2
    refine vc_182_0 ?_
    refine ⟨fun c => ?_, fun c => ?_⟩
    · replace h := h.1 c
      refine ⟨Or.inl rfl, ?_⟩
      refine ⟨Or.inl rfl, ?_⟩
      refine ⟨fun q => ?_, fun q => absurd rfl q⟩
      exact h
    · replace h := h.2 c
      refine ⟨fun c => ?_, fun c => ?_⟩
      · replace h := h.1 c
        refine ⟨Or.inl rfl, ?_⟩
        refine ⟨Or.inl rfl, ?_⟩
        refine ⟨fun q => ?_, fun q => absurd rfl q⟩
        exact h
      · replace h := h.2 c
        refine ⟨Or.inr rfl, ?_⟩
        refine ⟨Or.inr rfl, ?_⟩
        refine ⟨fun q => absurd q (by decide), fun q => ?_⟩
        refine ab_EmI (fun x1 V1 h => ?_) h
        refine vc_107_0 ?_
        refine vc_182_0 ?_
        refine ⟨fun c => ?_, fun c => ?_⟩
        · replace h := h.1 c
          refine ⟨Or.inl rfl, ?_⟩
          refine ⟨Or.inl rfl, ?_⟩
          refine ⟨fun q => ?_, fun q => absurd rfl q⟩
          exact h
        · replace h := h.2 c
          refine ⟨fun c => ?_, fun c => ?_⟩
          · replace h := h.1 c
            refine ⟨Or.inl rfl, ?_⟩
            refine ⟨Or.inl rfl, ?_⟩
            refine ⟨fun q => ?_, fun q => absurd rfl q⟩
            exact h
          · replace h := h.2 c
            refine ⟨Or.inr rfl, ?_⟩
            refine ⟨Or.inr rfl, ?_⟩
            refine ⟨fun q => absurd q (by decide), fun q => ?_⟩
            refine vc_104_0 ?_
            refine vc_182_0 ?_
            refine ⟨fun c => ?_, fun c => ?_⟩
            · replace h := h.1 c
              refine ⟨Or.inl rfl, ?_⟩
              refine ⟨Or.inl rfl, ?_⟩
              refine ⟨fun q => ?_, fun q => absurd rfl q⟩
              exact h
            · replace h := h.2 c
              refine ⟨fun c => ?_, fun c => ?_⟩
              · replace h := h.1 c
                refine ⟨Or.inl rfl, ?_⟩
                refine ⟨Or.inl rfl, ?_⟩
                refine ⟨fun q => ?_, fun q => absurd rfl q⟩
                exact h
              · replace h := h.2 c
                refine ⟨Or.inr rfl, ?_⟩
                refine ⟨Or.inr rfl, ?_⟩
                refine ⟨fun q => absurd q (by decide), fun q => ?_⟩
                refine vc_118_0 ?_
                refine ⟨h.1, ?_⟩
                replace h := h.2
                refine ⟨h.1, ?_⟩
                replace h := h.2
                exact h
  · replace h := h.2 c
    exact h

set_option maxRecDepth 20000 in
/-- FrameCounty taken(II)I, from 0 -/
theorem iv_181_0 {G : ab_G} {L : Nat} {xs : Nat → Int32} {l : Launch} {d : Nat} {i1 : Int32} {i2 : Int32} {V : aa_V} {K : aa_K} (h :
    (i2 < (0 : Int32) →
      K (some (.int (-2 : Int32))) V) ∧
    (¬ i2 < (0 : Int32) →
      ((5 : Int32) < i2 →
        K (some (.int (-2 : Int32))) V) ∧
      (¬ (5 : Int32) < i2 →
        (i1 < (0 : Int32) →
          K (some (.int (-11 : Int32))) V) ∧
        (¬ i1 < (0 : Int32) →
          (((V 29 3) - (1 : Int32)) < i1 →
            K (some (.int (-11 : Int32))) V) ∧
          (¬ ((V 29 3) - (1 : Int32)) < i1 →
            ab_E G (ac_ST L xs) l (d + 2) ac_SK 124 [.ref 29, .int i1, .int i2] V (aa_rI (fun x1 V1 =>
              (x1 = 0 →
                K (some (.int (-13 : Int32))) V1) ∧
              (¬ x1 = 0 →
                vp_in i1 20 ∧
                K (some (.int (V1 34 ((i1).toNatClampNeg)))) V1)))))))) :
    ab_E G (ac_ST L xs) l (d + 3) ac_SK 181 [.ref 0, .int i1, .int i2] V K := by
  refine vc_181_0 ?_
  refine vc_105_0 ?_
  refine vc_182_0 ?_
  refine ⟨fun c => ?_, fun c => ?_⟩
  · replace h := h.1 c
    refine ⟨Or.inl rfl, ?_⟩
    refine ⟨Or.inl rfl, ?_⟩
    refine ⟨fun q => ?_, fun q => absurd rfl q⟩
    exact h
  · replace h := h.2 c
    refine ⟨fun c => ?_, fun c => ?_⟩
    · replace h := h.1 c
      refine ⟨Or.inl rfl, ?_⟩
      refine ⟨Or.inl rfl, ?_⟩
      refine ⟨fun q => ?_, fun q => absurd rfl q⟩
      exact h
    · replace h := h.2 c
      refine ⟨Or.inr rfl, ?_⟩
      refine ⟨Or.inr rfl, ?_⟩
      refine ⟨fun q => absurd q (by decide), fun q => ?_⟩
      refine vc_108_0 ?_
      refine vc_182_0 ?_
      refine ⟨fun c => ?_, fun c => ?_⟩
      · replace h := h.1 c
        refine ⟨Or.inl rfl, ?_⟩
        refine ⟨Or.inl rfl, ?_⟩
        refine ⟨fun q => ?_, fun q => absurd rfl q⟩
        exact h
      · replace h := h.2 c
        refine ⟨fun c => ?_, fun c => ?_⟩
        · replace h := h.1 c
          refine ⟨Or.inl rfl, ?_⟩
          refine ⟨Or.inl rfl, ?_⟩
          refine ⟨fun q => ?_, fun q => absurd rfl q⟩
          exact h
        · replace h := h.2 c
          refine ⟨Or.inr rfl, ?_⟩
          refine ⟨Or.inr rfl, ?_⟩
          refine ⟨fun q => absurd q (by decide), fun q => ?_⟩
          refine ab_EmI (fun x1 V1 h => ?_) h
          refine ⟨fun c => ?_, fun c => ?_⟩
          · replace h := h.1 c
            exact h
          · replace h := h.2 c
            refine vc_115_0 ?_
            refine ⟨h.1, ?_⟩
            replace h := h.2
            exact h

set_option maxRecDepth 20000 in
/-- FrameCounty priceOf(I)I, from 0 -/
theorem iv_187_0 {G : ab_G} {L : Nat} {xs : Nat → Int32} {l : Launch} {d : Nat} {i1 : Int32} {V : aa_V} {K : aa_K} (h :
    ab_E G (ac_ST L xs) l (d + 1) ac_SK 299 [.ref 86, .int (0 : Int32)] V (aa_rV (fun V1 =>
      vp_in i1 20 ∧
      vp_in (0 : Int32) 6 ∧
      vp_in i1 20 ∧
      vp_in (1 : Int32) 6 ∧
      ¬ (7 : Int32) = 0 ∧
      vp_in (2 : Int32) 6 ∧
      ab_E G (ac_ST L xs) l (d + 1) ac_SK 125 [.ref 29, .int i1] (aa_up (aa_up (aa_up V1 86 (((0 : Int32)).toNatClampNeg) (V1 32 ((i1).toNatClampNeg))) 86 (((1 : Int32)).toNatClampNeg) (V1 34 ((i1).toNatClampNeg))) 86 (((2 : Int32)).toNatClampNeg) ((V1 0 13) / (7 : Int32))) (aa_rI (fun x2 V2 =>
        vp_in (3 : Int32) 6 ∧
        ∃ (n3 : Nat) (rs3 : List Nat) (q3 : Nat), aa_sh ac_SK 85 = some (102, n3, rs3) ∧ vp_in (V2 0 12) n3 ∧ aa_nth rs3 ((V2 0 12)).toNatClampNeg = q3 + 1 ∧
        aa_is ac_SK q3 6 ∧
        ab_E G (ac_ST L xs) l (d + 1) ac_SK 72 [.ref q3, .ref 86] (aa_up V2 86 (((3 : Int32)).toNatClampNeg) x2) (aa_rI (fun x4 V4 =>
          K (some (.int x4)) V4))))))) :
    ab_E G (ac_ST L xs) l (d + 2) ac_SK 187 [.ref 0, .int i1] V K := by
  refine vc_187_0 ?_
  refine ab_EmV (fun V1 h => ?_) h
  refine vc_113_0 ?_
  refine ⟨h.1, ?_⟩
  replace h := h.2
  refine ⟨h.1, ?_⟩
  replace h := h.2
  refine vc_115_0 ?_
  refine ⟨h.1, ?_⟩
  replace h := h.2
  refine ⟨h.1, ?_⟩
  replace h := h.2
  refine ⟨h.1, ?_⟩
  replace h := h.2
  refine ⟨h.1, ?_⟩
  replace h := h.2
  exact h

set_option maxRecDepth 20000 in
/-- FrameCounty holdOf(IIII)I, from 0 -/
theorem iv_188_0 {G : ab_G} {L : Nat} {xs : Nat → Int32} {l : Launch} {d : Nat} {i1 : Int32} {i2 : Int32} {i3 : Int32} {i4 : Int32} {V : aa_V} {K : aa_K} (h :
    ab_E G (ac_ST L xs) l (d + 1) ac_SK 92 [.ref 42, .int i1, .int i2] V (aa_rI (fun x1 V1 =>
      (i4 = (-1 : Int32) →
        ab_E G (ac_ST L xs) l (d + 1) ac_SK 299 [.ref 86, .int (0 : Int32)] V1 (aa_rV (fun V2 =>
          ¬ (7 : Int32) = 0 ∧
          vp_in (2 : Int32) 6 ∧
          ab_E G (ac_ST L xs) l (d + 1) ac_SK 285 [.int (x1 &&& (i3 ^^^ (-1 : Int32)))] (aa_up V2 86 (((2 : Int32)).toNatClampNeg) ((V2 0 13) / (7 : Int32))) (aa_rI (fun x3 V3 =>
            vp_in (4 : Int32) 6 ∧
            ab_E G (ac_ST L xs) l (d + 1) ac_SK 93 [.ref 42, .int (x1 &&& (i3 ^^^ (-1 : Int32)))] (aa_up V3 86 (((4 : Int32)).toNatClampNeg) x3) (aa_rI (fun x4 V4 =>
              vp_in (5 : Int32) 6 ∧
              ∃ (n5 : Nat) (rs5 : List Nat) (q5 : Nat), aa_sh ac_SK 85 = some (102, n5, rs5) ∧ vp_in (V4 0 12) n5 ∧ aa_nth rs5 ((V4 0 12)).toNatClampNeg = q5 + 1 ∧
              aa_is ac_SK q5 6 ∧
              ab_E G (ac_ST L xs) l (d + 1) ac_SK 73 [.ref q5, .ref 86] (aa_up V4 86 (((5 : Int32)).toNatClampNeg) x4) (aa_rI (fun x6 V6 =>
                K (some (.int x6)) V6))))))))) ∧
      (¬ i4 = (-1 : Int32) →
        ab_E G (ac_ST L xs) l (d + 1) ac_SK 91 [.ref 42, .int i4, .int i2] V1 (aa_rI (fun x2 V2 =>
          ab_E G (ac_ST L xs) l (d + 1) ac_SK 299 [.ref 86, .int (0 : Int32)] V2 (aa_rV (fun V3 =>
            ¬ (7 : Int32) = 0 ∧
            vp_in (2 : Int32) 6 ∧
            ab_E G (ac_ST L xs) l (d + 1) ac_SK 285 [.int ((x1 &&& (i3 ^^^ (-1 : Int32))) &&& (x2 ^^^ (-1 : Int32)))] (aa_up V3 86 (((2 : Int32)).toNatClampNeg) ((V3 0 13) / (7 : Int32))) (aa_rI (fun x4 V4 =>
              vp_in (4 : Int32) 6 ∧
              ab_E G (ac_ST L xs) l (d + 1) ac_SK 93 [.ref 42, .int ((x1 &&& (i3 ^^^ (-1 : Int32))) &&& (x2 ^^^ (-1 : Int32)))] (aa_up V4 86 (((4 : Int32)).toNatClampNeg) x4) (aa_rI (fun x5 V5 =>
                vp_in (5 : Int32) 6 ∧
                ∃ (n6 : Nat) (rs6 : List Nat) (q6 : Nat), aa_sh ac_SK 85 = some (102, n6, rs6) ∧ vp_in (V5 0 12) n6 ∧ aa_nth rs6 ((V5 0 12)).toNatClampNeg = q6 + 1 ∧
                aa_is ac_SK q6 6 ∧
                ab_E G (ac_ST L xs) l (d + 1) ac_SK 73 [.ref q6, .ref 86] (aa_up V5 86 (((5 : Int32)).toNatClampNeg) x5) (aa_rI (fun x7 V7 =>
                  K (some (.int x7)) V7)))))))))))))) :
    ab_E G (ac_ST L xs) l (d + 2) ac_SK 188 [.ref 0, .int i1, .int i2, .int i3, .int i4] V K := by
  refine vc_188_0 ?_
  exact h

set_option maxRecDepth 20000 in
/-- FrameCounty heldWithout(II)I, from 0 -/
theorem iv_189_0 {G : ab_G} {L : Nat} {xs : Nat → Int32} {l : Launch} {d : Nat} {i1 : Int32} {i2 : Int32} {V : aa_V} {K : aa_K} (h :
    ab_E G (ac_ST L xs) l (d + 1) ac_SK 90 [.ref 42, .int i2] V (aa_rI (fun x1 V1 =>
      ab_J G (ac_ST L xs) l (d + 2) 189 15 [some (.ref 0), some (.int i1), some (.int i2), some (.int (0 : Int32)), some (.int x1), some (.int (0 : Int32))] [] ac_SK V1 ac_SK K))) :
    ab_E G (ac_ST L xs) l (d + 2) ac_SK 189 [.ref 0, .int i1, .int i2] V K := by
  refine vc_189_0 ?_
  exact h

set_option maxRecDepth 20000 in
/-- FrameCounty heldWithout(II)I, from 15 -/
theorem iv_189_15 {G : ab_G} {L : Nat} {xs : Nat → Int32} {l : Launch} {d : Nat} {i1 : Int32} {i2 : Int32} {i3 : Int32} {i4 : Int32} {i5 : Int32} {V : aa_V} {K : aa_K} (h :
    (i5 < (V 42 2) →
      ab_E G (ac_ST L xs) l (d + 1) ac_SK 188 [.ref 0, .int i5, .int i2, .int i4, .int i1] V (aa_rI (fun x1 V1 =>
        (x1 = 0 →
          ab_J G (ac_ST L xs) l (d + 2) 189 15 [some (.ref 0), some (.int i1), some (.int i2), some (.int i3), some (.int i4), some (.int (i5 + 1))] [] ac_SK V1 ac_SK K) ∧
        (¬ x1 = 0 →
          ab_J G (ac_ST L xs) l (d + 2) 189 15 [some (.ref 0), some (.int i1), some (.int i2), some (.int (i3 ||| ((1 : Int32) <<< (i5 &&& 31)))), some (.int i4), some (.int (i5 + 1))] [] ac_SK V1 ac_SK K)))) ∧
    (¬ i5 < (V 42 2) →
      K (some (.int i3)) V)) :
    ab_J G (ac_ST L xs) l (d + 2) 189 15 [some (.ref 0), some (.int i1), some (.int i2), some (.int i3), some (.int i4), some (.int i5)] [] ac_SK V ac_SK K := by
  refine vc_189_15 ?_
  refine vc_81_0 ?_
  exact h

set_option maxRecDepth 20000 in
/-- FrameCounty shopsReached(III)I, from 0 -/
theorem iv_190_0 {G : ab_G} {L : Nat} {xs : Nat → Int32} {l : Launch} {d : Nat} {i1 : Int32} {i2 : Int32} {i3 : Int32} {V : aa_V} {K : aa_K} (h :
    ab_J G (ac_ST L xs) l (d + 2) 190 6 [some (.ref 0), some (.int i1), some (.int i2), some (.int i3), some (.int (0 : Int32)), some (.int (0 : Int32))] [] ac_SK V ac_SK K) :
    ab_E G (ac_ST L xs) l (d + 2) ac_SK 190 [.ref 0, .int i1, .int i2, .int i3] V K := by
  refine vc_190_0 ?_
  exact h

set_option maxRecDepth 20000 in
/-- FrameCounty shopsReached(III)I, from 6 -/
theorem iv_190_6 {G : ab_G} {L : Nat} {xs : Nat → Int32} {l : Launch} {d : Nat} {i1 : Int32} {i2 : Int32} {i3 : Int32} {i4 : Int32} {i5 : Int32} {V : aa_V} {K : aa_K} (h :
    (i5 < (V 29 0) →
      vp_in i5 8 ∧
      ab_E G (ac_ST L xs) l (d + 1) ac_SK 53 [.ref 1, .int i1, .int (V 30 ((i5).toNatClampNeg)), .int i2, .int i3] V (aa_rI (fun x1 V1 =>
        (x1 = 0 →
          ab_J G (ac_ST L xs) l (d + 2) 190 6 [some (.ref 0), some (.int i1), some (.int i2), some (.int i3), some (.int i4), some (.int (i5 + 1))] [] ac_SK V1 ac_SK K) ∧
        (¬ x1 = 0 →
          ab_J G (ac_ST L xs) l (d + 2) 190 6 [some (.ref 0), some (.int i1), some (.int i2), some (.int i3), some (.int (i4 + 1)), some (.int (i5 + 1))] [] ac_SK V1 ac_SK K)))) ∧
    (¬ i5 < (V 29 0) →
      K (some (.int i4)) V)) :
    ab_J G (ac_ST L xs) l (d + 2) 190 6 [some (.ref 0), some (.int i1), some (.int i2), some (.int i3), some (.int i4), some (.int i5)] [] ac_SK V ac_SK K := by
  refine vc_190_6 ?_
  refine vc_109_0 ?_
  refine ⟨fun c => ?_, fun c => ?_⟩
  · replace h := h.1 c
    refine vc_111_0 ?_
    refine ⟨h.1, ?_⟩
    replace h := h.2
    exact h
  · replace h := h.2 c
    exact h
