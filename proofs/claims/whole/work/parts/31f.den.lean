/-! pure methods as functions, 5: printed by den.py -/

def vl_237_15 (i1 : Int32) (i2 : Int32) (V : aa_V) (a0 : Int32) : Int32 := ((fun (a_237 : Int32) => a_237) (fo (fun (i_237 : Nat) (a_237 : Int32) => ((if (va_236 (nI i_237) i1 i2 V) = 0 then (a_237 + (0 : Int32)) else (a_237 + (1 : Int32))) : Int32)) 1500 a0))
set_option maxRecDepth 20000 in
/-- FrameCountyModel left, the loop at 15 -/
theorem lo_237_15 {G : ab_G} {L : Nat} {xs : Nat → Int32} {l : Launch} {d : Nat} {i1 : Int32} {i2 : Int32} {V : aa_V} {K : aa_K} {a0 : Int32} (hp1 : zb (V 105 12) 1000000000) (hv1 : ∀ i_237 : Nat, i_237 < 1500 → ∀ i_236 : Nat, i_236 < ((V 105 12)).toNatClampNeg → (((nI i_237) / (300 : Int32)) = 0) → vp_in (nI i_236) 20) (hv2 : ∀ i_237 : Nat, i_237 < 1500 → ∀ i_236 : Nat, i_236 < ((V 105 12)).toNatClampNeg → ¬ (((nI i_237) / (300 : Int32)) = 0) → (((nI i_237) / (300 : Int32)) = (1 : Int32)) → vp_in (nI i_236) 20) (hv3 : ∀ i_237 : Nat, i_237 < 1500 → ∀ i_236 : Nat, i_236 < ((V 105 12)).toNatClampNeg → ¬ (((nI i_237) / (300 : Int32)) = 0) → ¬ (((nI i_237) / (300 : Int32)) = (1 : Int32)) → (((nI i_237) / (300 : Int32)) = (2 : Int32)) → vp_in (nI i_236) 20) (hv4 : ∀ i_237 : Nat, i_237 < 1500 → ∀ i_236 : Nat, i_236 < ((V 105 12)).toNatClampNeg → ¬ (((nI i_237) / (300 : Int32)) = 0) → ¬ (((nI i_237) / (300 : Int32)) = (1 : Int32)) → ¬ (((nI i_237) / (300 : Int32)) = (2 : Int32)) → (((nI i_237) / (300 : Int32)) = (3 : Int32)) → vp_in (nI i_236) 20) (hv5 : ∀ i_237 : Nat, i_237 < 1500 → ∀ i_236 : Nat, i_236 < ((V 105 12)).toNatClampNeg → ¬ (((nI i_237) / (300 : Int32)) = 0) → ¬ (((nI i_237) / (300 : Int32)) = (1 : Int32)) → ¬ (((nI i_237) / (300 : Int32)) = (2 : Int32)) → (((nI i_237) / (300 : Int32)) = (3 : Int32)) → vp_in (V 111 i_236) 8) (hv6 : ∀ i_237 : Nat, i_237 < 1500 → ∀ i_236 : Nat, i_236 < ((V 105 12)).toNatClampNeg → ¬ (((nI i_237) / (300 : Int32)) = 0) → ¬ (((nI i_237) / (300 : Int32)) = (1 : Int32)) → ¬ (((nI i_237) / (300 : Int32)) = (2 : Int32)) → ¬ (((nI i_237) / (300 : Int32)) = (3 : Int32)) → vp_in (nI i_236) 20) (hv7 : ∀ i_237 : Nat, i_237 < 1500 → ∀ i_236 : Nat, i_236 < ((V 105 12)).toNatClampNeg → ¬ (((nI i_237) / (300 : Int32)) = 0) → ¬ (((nI i_237) / (300 : Int32)) = (1 : Int32)) → ¬ (((nI i_237) / (300 : Int32)) = (2 : Int32)) → ¬ (((nI i_237) / (300 : Int32)) = (3 : Int32)) → vp_in (V 111 i_236) 8) (h : K (some (.int (vl_237_15 i1 i2 V a0))) V) :
    ab_J G (ac_ST L xs) l (d + 4) 237 15 [some (.ref 105), some (.int i1), some (.int i2), some (.int a0), some (.int (0 : Int32))] [] ac_SK V ac_SK K := by
  obtain ⟨n, hn, hm, hN⟩ : ∃ n : Nat, (1500 : Int32) = nI n ∧ n ≤ 1500 ∧ n = 1500 := ⟨1500, by decide +kernel, Nat.le_refl _, rfl⟩
  have hvl : vl_237_15 i1 i2 V a0 = ((fun (a_237 : Int32) => a_237) (fo (fun (i_237 : Nat) (a_237 : Int32) => ((if (va_236 (nI i_237) i1 i2 V) = 0 then (a_237 + (0 : Int32)) else (a_237 + (1 : Int32))) : Int32)) n a0)) := by
    subst hN
    rfl
  rw [hvl] at h
  have hlt : ∀ i_237, i_237 < n → i_237 < 1500 := fun i_237 q => by omega
  refine zz_fo (fun (i_237 : Nat) (a_237 : Int32) => ((if (va_236 (nI i_237) i1 i2 V) = 0 then (a_237 + (0 : Int32)) else (a_237 + (1 : Int32))) : Int32)) (fun i_237 a_237 => ab_J G (ac_ST L xs) l (d + 4) 237 15 [some (.ref 105), some (.int i1), some (.int i2), some (.int a_237), some (.int (nI i_237))] [] ac_SK V ac_SK K) n a0 ?_ ?_
  · refine iv_237_15 ⟨fun q => absurd q (zz_ge hn), fun _ => ?_⟩
    try dsimp only at h
    generalize hfo : fo (fun (i_237 : Nat) (a_237 : Int32) => ((if (va_236 (nI i_237) i1 i2 V) = 0 then (a_237 + (0 : Int32)) else (a_237 + (1 : Int32))) : Int32)) n a0 = a_237 at h ⊢
    subst hN
    exact h
  · intro i_237 hi ih
    have e : (nI i_237).toNatClampNeg = i_237 := zz_ix (by omega)
    rw [fo_s, nI_succ] at ih
    refine iv_237_15 ⟨fun _ => ?_, fun q => absurd (zz_gl hn hi (by omega)) q⟩
    try simp only [e, ac_zs0, ac_zs1]
    refine sp_236 hp1 (by first | exact (hv1 i_237 (hlt i_237 hi)) | (simp only [e]; exact (hv1 i_237 (hlt i_237 hi))) | (simp only [hN]; exact (hv1 i_237 (hlt i_237 hi)))) (by first | exact (hv2 i_237 (hlt i_237 hi)) | (simp only [e]; exact (hv2 i_237 (hlt i_237 hi))) | (simp only [hN]; exact (hv2 i_237 (hlt i_237 hi)))) (by first | exact (hv3 i_237 (hlt i_237 hi)) | (simp only [e]; exact (hv3 i_237 (hlt i_237 hi))) | (simp only [hN]; exact (hv3 i_237 (hlt i_237 hi)))) (by first | exact (hv4 i_237 (hlt i_237 hi)) | (simp only [e]; exact (hv4 i_237 (hlt i_237 hi))) | (simp only [hN]; exact (hv4 i_237 (hlt i_237 hi)))) (by first | exact (hv5 i_237 (hlt i_237 hi)) | (simp only [e]; exact (hv5 i_237 (hlt i_237 hi))) | (simp only [hN]; exact (hv5 i_237 (hlt i_237 hi)))) (by first | exact (hv6 i_237 (hlt i_237 hi)) | (simp only [e]; exact (hv6 i_237 (hlt i_237 hi))) | (simp only [hN]; exact (hv6 i_237 (hlt i_237 hi)))) (by first | exact (hv7 i_237 (hlt i_237 hi)) | (simp only [e]; exact (hv7 i_237 (hlt i_237 hi))) | (simp only [hN]; exact (hv7 i_237 (hlt i_237 hi)))) (fun hb1 => ?_)
    dsimp only [aa_rI, aa_rL]
    refine ⟨fun c2 => ?_, fun c2 => ?_⟩
    · rw [if_pos c2] at ih
      exact ih
    · rw [if_neg c2] at ih
      exact ih

def va_237  (V : aa_V) : Int32 := (vl_237_15 (va_232 V) (va_233 V) V (0 : Int32))
set_option maxRecDepth 20000 in
/-- FrameCountyModel left -/
theorem sp_237 {G : ab_G} {L : Nat} {xs : Nat → Int32} {l : Launch} {d : Nat} {V : aa_V} {K : aa_K} (hw1 : zb (V 105 12) 20) (hw2 : ∀ i_233 : Nat, i_233 < ((V 105 12)).toNatClampNeg → ∀ a_231 : Int32, fo (fun (i_231 : Nat) (a_231 : Int32) => ((if a_231 = 0 then (if (V 111 i_231) = (V 111 i_233) then (if (V 114 i_231) = (1 : Int32) then (if (V 115 i_231) = (V 105 2) then (1 : Int32) else (0 : Int32)) else (0 : Int32)) else (0 : Int32)) else (1 : Int32)) : Int32)) ((V 105 12)).toNatClampNeg (0 : Int32) = a_231 → aa_bit a_231) (hw3 : zb (V 105 12) 1000000000) (hw4 : ∀ i_237 : Nat, i_237 < 1500 → ∀ i_236 : Nat, i_236 < ((V 105 12)).toNatClampNeg → (((nI i_237) / (300 : Int32)) = 0) → vp_in (nI i_236) 20) (hw5 : ∀ i_237 : Nat, i_237 < 1500 → ∀ i_236 : Nat, i_236 < ((V 105 12)).toNatClampNeg → ¬ (((nI i_237) / (300 : Int32)) = 0) → (((nI i_237) / (300 : Int32)) = (1 : Int32)) → vp_in (nI i_236) 20) (hw6 : ∀ i_237 : Nat, i_237 < 1500 → ∀ i_236 : Nat, i_236 < ((V 105 12)).toNatClampNeg → ¬ (((nI i_237) / (300 : Int32)) = 0) → ¬ (((nI i_237) / (300 : Int32)) = (1 : Int32)) → (((nI i_237) / (300 : Int32)) = (2 : Int32)) → vp_in (nI i_236) 20) (hw7 : ∀ i_237 : Nat, i_237 < 1500 → ∀ i_236 : Nat, i_236 < ((V 105 12)).toNatClampNeg → ¬ (((nI i_237) / (300 : Int32)) = 0) → ¬ (((nI i_237) / (300 : Int32)) = (1 : Int32)) → ¬ (((nI i_237) / (300 : Int32)) = (2 : Int32)) → (((nI i_237) / (300 : Int32)) = (3 : Int32)) → vp_in (nI i_236) 20) (hw8 : ∀ i_237 : Nat, i_237 < 1500 → ∀ i_236 : Nat, i_236 < ((V 105 12)).toNatClampNeg → ¬ (((nI i_237) / (300 : Int32)) = 0) → ¬ (((nI i_237) / (300 : Int32)) = (1 : Int32)) → ¬ (((nI i_237) / (300 : Int32)) = (2 : Int32)) → (((nI i_237) / (300 : Int32)) = (3 : Int32)) → vp_in (V 111 i_236) 8) (hw9 : ∀ i_237 : Nat, i_237 < 1500 → ∀ i_236 : Nat, i_236 < ((V 105 12)).toNatClampNeg → ¬ (((nI i_237) / (300 : Int32)) = 0) → ¬ (((nI i_237) / (300 : Int32)) = (1 : Int32)) → ¬ (((nI i_237) / (300 : Int32)) = (2 : Int32)) → ¬ (((nI i_237) / (300 : Int32)) = (3 : Int32)) → vp_in (nI i_236) 20) (hw10 : ∀ i_237 : Nat, i_237 < 1500 → ∀ i_236 : Nat, i_236 < ((V 105 12)).toNatClampNeg → ¬ (((nI i_237) / (300 : Int32)) = 0) → ¬ (((nI i_237) / (300 : Int32)) = (1 : Int32)) → ¬ (((nI i_237) / (300 : Int32)) = (2 : Int32)) → ¬ (((nI i_237) / (300 : Int32)) = (3 : Int32)) → vp_in (V 111 i_236) 8) (h : K (some (.int (va_237  V))) V) :
    ab_E G (ac_ST L xs) l (d + 4) ac_SK 237 [.ref 105] V K := by
  rw [va_237] at h
  refine iv_237_0 ?_
  refine sp_232 hw1 ?_
  dsimp only [aa_rI, aa_rL, aa_rV]
  refine sp_233 hw1 hw2 ?_
  dsimp only [aa_rI, aa_rL, aa_rV]
  exact lo_237_15 hw3 hw4 hw5 hw6 hw7 hw8 hw9 hw10 h

def vl_238_16 (i1 : Int32) (i2 : Int32) (i3 : Int32) (V : aa_V) (a0 : Int32) : Int32 := (match fe (fun (i_238 : Nat) (a_238 : Int32) => ((if (va_236 (nI i_238) i2 i3 V) = 0 then .inl a_238 else (if a_238 = i1 then .inr (nI i_238) else .inl (a_238 + 1))) : Int32 ⊕ Int32)) 1500 a0 with
  | .inl a_238 => (-1 : Int32)
  | .inr b => b)
set_option maxRecDepth 20000 in
/-- FrameCountyModel form, the loop at 16 -/
theorem lo_238_16 {G : ab_G} {L : Nat} {xs : Nat → Int32} {l : Launch} {d : Nat} {i1 : Int32} {i2 : Int32} {i3 : Int32} {V : aa_V} {K : aa_K} {a0 : Int32} (hp1 : zb (V 105 12) 1000000000) (hv1 : ∀ i_238 : Nat, i_238 < 1500 → ∀ i_236 : Nat, i_236 < ((V 105 12)).toNatClampNeg → (((nI i_238) / (300 : Int32)) = 0) → vp_in (nI i_236) 20) (hv2 : ∀ i_238 : Nat, i_238 < 1500 → ∀ i_236 : Nat, i_236 < ((V 105 12)).toNatClampNeg → ¬ (((nI i_238) / (300 : Int32)) = 0) → (((nI i_238) / (300 : Int32)) = (1 : Int32)) → vp_in (nI i_236) 20) (hv3 : ∀ i_238 : Nat, i_238 < 1500 → ∀ i_236 : Nat, i_236 < ((V 105 12)).toNatClampNeg → ¬ (((nI i_238) / (300 : Int32)) = 0) → ¬ (((nI i_238) / (300 : Int32)) = (1 : Int32)) → (((nI i_238) / (300 : Int32)) = (2 : Int32)) → vp_in (nI i_236) 20) (hv4 : ∀ i_238 : Nat, i_238 < 1500 → ∀ i_236 : Nat, i_236 < ((V 105 12)).toNatClampNeg → ¬ (((nI i_238) / (300 : Int32)) = 0) → ¬ (((nI i_238) / (300 : Int32)) = (1 : Int32)) → ¬ (((nI i_238) / (300 : Int32)) = (2 : Int32)) → (((nI i_238) / (300 : Int32)) = (3 : Int32)) → vp_in (nI i_236) 20) (hv5 : ∀ i_238 : Nat, i_238 < 1500 → ∀ i_236 : Nat, i_236 < ((V 105 12)).toNatClampNeg → ¬ (((nI i_238) / (300 : Int32)) = 0) → ¬ (((nI i_238) / (300 : Int32)) = (1 : Int32)) → ¬ (((nI i_238) / (300 : Int32)) = (2 : Int32)) → (((nI i_238) / (300 : Int32)) = (3 : Int32)) → vp_in (V 111 i_236) 8) (hv6 : ∀ i_238 : Nat, i_238 < 1500 → ∀ i_236 : Nat, i_236 < ((V 105 12)).toNatClampNeg → ¬ (((nI i_238) / (300 : Int32)) = 0) → ¬ (((nI i_238) / (300 : Int32)) = (1 : Int32)) → ¬ (((nI i_238) / (300 : Int32)) = (2 : Int32)) → ¬ (((nI i_238) / (300 : Int32)) = (3 : Int32)) → vp_in (nI i_236) 20) (hv7 : ∀ i_238 : Nat, i_238 < 1500 → ∀ i_236 : Nat, i_236 < ((V 105 12)).toNatClampNeg → ¬ (((nI i_238) / (300 : Int32)) = 0) → ¬ (((nI i_238) / (300 : Int32)) = (1 : Int32)) → ¬ (((nI i_238) / (300 : Int32)) = (2 : Int32)) → ¬ (((nI i_238) / (300 : Int32)) = (3 : Int32)) → vp_in (V 111 i_236) 8) (h : K (some (.int (vl_238_16 i1 i2 i3 V a0))) V) :
    ab_J G (ac_ST L xs) l (d + 4) 238 16 [some (.ref 105), some (.int i1), some (.int i2), some (.int i3), some (.int a0), some (.int (0 : Int32))] [] ac_SK V ac_SK K := by
  obtain ⟨n, hn, hm, hN⟩ : ∃ n : Nat, (1500 : Int32) = nI n ∧ n ≤ 1500 ∧ n = 1500 := ⟨1500, by decide +kernel, Nat.le_refl _, rfl⟩
  have hvl : vl_238_16 i1 i2 i3 V a0 = (match fe (fun (i_238 : Nat) (a_238 : Int32) => ((if (va_236 (nI i_238) i2 i3 V) = 0 then .inl a_238 else (if a_238 = i1 then .inr (nI i_238) else .inl (a_238 + 1))) : Int32 ⊕ Int32)) n a0 with
  | .inl a_238 => (-1 : Int32)
  | .inr b => b) := by
    subst hN
    rfl
  rw [hvl] at h
  have hlt : ∀ i_238, i_238 < n → i_238 < 1500 := fun i_238 q => by omega
  refine zz_fe (fun (i_238 : Nat) (a_238 : Int32) => ((if (va_236 (nI i_238) i2 i3 V) = 0 then .inl a_238 else (if a_238 = i1 then .inr (nI i_238) else .inl (a_238 + 1))) : Int32 ⊕ Int32)) (fun i_238 a_238 => ab_J G (ac_ST L xs) l (d + 4) 238 16 [some (.ref 105), some (.int i1), some (.int i2), some (.int i3), some (.int a_238), some (.int (nI i_238))] [] ac_SK V ac_SK K) (fun b => K (some (.int b)) V) n a0 ?_ ?_ ?_
  · intro a_238 hfo
    rw [hfo] at h
    refine iv_238_16 ⟨fun q => absurd q (zz_ge hn), fun _ => ?_⟩
    subst hN
    exact h
  · intro i_238 a_238 hi hfe hnx hex
    have e : (nI i_238).toNatClampNeg = i_238 := zz_ix (by omega)
    rw [nI_succ] at hnx
    refine iv_238_16 ⟨fun _ => ?_, fun q => absurd (zz_gl hn hi (by omega)) q⟩
    try simp only [e, ac_zs0, ac_zs1]
    refine sp_236 hp1 (by first | exact (hv1 i_238 (hlt i_238 hi)) | (simp only [e]; exact (hv1 i_238 (hlt i_238 hi))) | (simp only [hN]; exact (hv1 i_238 (hlt i_238 hi)))) (by first | exact (hv2 i_238 (hlt i_238 hi)) | (simp only [e]; exact (hv2 i_238 (hlt i_238 hi))) | (simp only [hN]; exact (hv2 i_238 (hlt i_238 hi)))) (by first | exact (hv3 i_238 (hlt i_238 hi)) | (simp only [e]; exact (hv3 i_238 (hlt i_238 hi))) | (simp only [hN]; exact (hv3 i_238 (hlt i_238 hi)))) (by first | exact (hv4 i_238 (hlt i_238 hi)) | (simp only [e]; exact (hv4 i_238 (hlt i_238 hi))) | (simp only [hN]; exact (hv4 i_238 (hlt i_238 hi)))) (by first | exact (hv5 i_238 (hlt i_238 hi)) | (simp only [e]; exact (hv5 i_238 (hlt i_238 hi))) | (simp only [hN]; exact (hv5 i_238 (hlt i_238 hi)))) (by first | exact (hv6 i_238 (hlt i_238 hi)) | (simp only [e]; exact (hv6 i_238 (hlt i_238 hi))) | (simp only [hN]; exact (hv6 i_238 (hlt i_238 hi)))) (by first | exact (hv7 i_238 (hlt i_238 hi)) | (simp only [e]; exact (hv7 i_238 (hlt i_238 hi))) | (simp only [hN]; exact (hv7 i_238 (hlt i_238 hi)))) (fun hb1 => ?_)
    dsimp only [aa_rI, aa_rL]
    refine ⟨fun c2 => ?_, fun c2 => ?_⟩
    · exact hnx _ ((if_pos c2).trans rfl)
    · refine ⟨fun c3 => ?_, fun c3 => ?_⟩
      · exact hex _ ((if_neg c2).trans ((if_pos c3).trans rfl))
      · exact hnx _ ((if_neg c2).trans ((if_neg c3).trans rfl))
  · intro b hb
    rw [hb] at h
    exact h

def va_238 (i1 : Int32) (V : aa_V) : Int32 := (vl_238_16 i1 (va_232 V) (va_233 V) V (0 : Int32))
set_option maxRecDepth 20000 in
/-- FrameCountyModel form -/
theorem sp_238 {G : ab_G} {L : Nat} {xs : Nat → Int32} {l : Launch} {d : Nat} {i1 : Int32} {V : aa_V} {K : aa_K} (hw1 : zb (V 105 12) 20) (hw2 : ∀ i_233 : Nat, i_233 < ((V 105 12)).toNatClampNeg → ∀ a_231 : Int32, fo (fun (i_231 : Nat) (a_231 : Int32) => ((if a_231 = 0 then (if (V 111 i_231) = (V 111 i_233) then (if (V 114 i_231) = (1 : Int32) then (if (V 115 i_231) = (V 105 2) then (1 : Int32) else (0 : Int32)) else (0 : Int32)) else (0 : Int32)) else (1 : Int32)) : Int32)) ((V 105 12)).toNatClampNeg (0 : Int32) = a_231 → aa_bit a_231) (hw3 : zb (V 105 12) 1000000000) (hw4 : ∀ i_238 : Nat, i_238 < 1500 → ∀ i_236 : Nat, i_236 < ((V 105 12)).toNatClampNeg → (((nI i_238) / (300 : Int32)) = 0) → vp_in (nI i_236) 20) (hw5 : ∀ i_238 : Nat, i_238 < 1500 → ∀ i_236 : Nat, i_236 < ((V 105 12)).toNatClampNeg → ¬ (((nI i_238) / (300 : Int32)) = 0) → (((nI i_238) / (300 : Int32)) = (1 : Int32)) → vp_in (nI i_236) 20) (hw6 : ∀ i_238 : Nat, i_238 < 1500 → ∀ i_236 : Nat, i_236 < ((V 105 12)).toNatClampNeg → ¬ (((nI i_238) / (300 : Int32)) = 0) → ¬ (((nI i_238) / (300 : Int32)) = (1 : Int32)) → (((nI i_238) / (300 : Int32)) = (2 : Int32)) → vp_in (nI i_236) 20) (hw7 : ∀ i_238 : Nat, i_238 < 1500 → ∀ i_236 : Nat, i_236 < ((V 105 12)).toNatClampNeg → ¬ (((nI i_238) / (300 : Int32)) = 0) → ¬ (((nI i_238) / (300 : Int32)) = (1 : Int32)) → ¬ (((nI i_238) / (300 : Int32)) = (2 : Int32)) → (((nI i_238) / (300 : Int32)) = (3 : Int32)) → vp_in (nI i_236) 20) (hw8 : ∀ i_238 : Nat, i_238 < 1500 → ∀ i_236 : Nat, i_236 < ((V 105 12)).toNatClampNeg → ¬ (((nI i_238) / (300 : Int32)) = 0) → ¬ (((nI i_238) / (300 : Int32)) = (1 : Int32)) → ¬ (((nI i_238) / (300 : Int32)) = (2 : Int32)) → (((nI i_238) / (300 : Int32)) = (3 : Int32)) → vp_in (V 111 i_236) 8) (hw9 : ∀ i_238 : Nat, i_238 < 1500 → ∀ i_236 : Nat, i_236 < ((V 105 12)).toNatClampNeg → ¬ (((nI i_238) / (300 : Int32)) = 0) → ¬ (((nI i_238) / (300 : Int32)) = (1 : Int32)) → ¬ (((nI i_238) / (300 : Int32)) = (2 : Int32)) → ¬ (((nI i_238) / (300 : Int32)) = (3 : Int32)) → vp_in (nI i_236) 20) (hw10 : ∀ i_238 : Nat, i_238 < 1500 → ∀ i_236 : Nat, i_236 < ((V 105 12)).toNatClampNeg → ¬ (((nI i_238) / (300 : Int32)) = 0) → ¬ (((nI i_238) / (300 : Int32)) = (1 : Int32)) → ¬ (((nI i_238) / (300 : Int32)) = (2 : Int32)) → ¬ (((nI i_238) / (300 : Int32)) = (3 : Int32)) → vp_in (V 111 i_236) 8) (h : K (some (.int (va_238 i1 V))) V) :
    ab_E G (ac_ST L xs) l (d + 4) ac_SK 238 [.ref 105, .int i1] V K := by
  rw [va_238] at h
  refine iv_238_0 ?_
  refine sp_232 hw1 ?_
  dsimp only [aa_rI, aa_rL, aa_rV]
  refine sp_233 hw1 hw2 ?_
  dsimp only [aa_rI, aa_rL, aa_rV]
  exact lo_238_16 hw3 hw4 hw5 hw6 hw7 hw8 hw9 hw10 h

def vl_89_5 (i1 : Int32) (i2 : Int32) (V : aa_V) (a0 : Int32) : Int32 := ((fun (a_89 : Int32) => a_89) (fo (fun (i_89 : Nat) (a_89 : Int32) => ((if (va_87 (nI i_89) (V 30 (((V 33 (((V 39 ((i1).toNatClampNeg))).toNatClampNeg))).toNatClampNeg)) (V 40 ((i1).toNatClampNeg)) (V 41 ((i1).toNatClampNeg)) i2 V) = 0 then a_89 else (a_89 ||| ((1 : Int32) <<< ((nI i_89) &&& 31)))) : Int32)) ((V 42 2)).toNatClampNeg a0))
set_option maxRecDepth 20000 in
/-- FrameCounty$Watch couldRaid, the loop at 5 -/
theorem lo_89_5 {G : ab_G} {L : Nat} {xs : Nat → Int32} {l : Launch} {d : Nat} {i1 : Int32} {i2 : Int32} {V : aa_V} {K : aa_K} {a0 : Int32} (hz : zb (V 42 2) 12) (hp1 : vp_in i1 30) (hp2 : vp_in (V 39 ((i1).toNatClampNeg)) 20) (hp3 : vp_in (V 33 (((V 39 ((i1).toNatClampNeg))).toNatClampNeg)) 8) (hp4 : (((V 40 ((i1).toNatClampNeg)) - (V 40 ((i1).toNatClampNeg)) / (30 : Int32) * (30 : Int32)) < (8 : Int32)) → vp_in (V 30 (((V 33 (((V 39 ((i1).toNatClampNeg))).toNatClampNeg))).toNatClampNeg)) 8) (hp5 : ¬ (((V 40 ((i1).toNatClampNeg)) - (V 40 ((i1).toNatClampNeg)) / (30 : Int32) * (30 : Int32)) < (8 : Int32)) → ((22 : Int32) < ((V 40 ((i1).toNatClampNeg)) - (V 40 ((i1).toNatClampNeg)) / (30 : Int32) * (30 : Int32))) → vp_in (V 30 (((V 33 (((V 39 ((i1).toNatClampNeg))).toNatClampNeg))).toNatClampNeg)) 8) (hp6 : ¬ (((V 40 ((i1).toNatClampNeg)) - (V 40 ((i1).toNatClampNeg)) / (30 : Int32) * (30 : Int32)) < (8 : Int32)) → ¬ ((22 : Int32) < ((V 40 ((i1).toNatClampNeg)) - (V 40 ((i1).toNatClampNeg)) / (30 : Int32) * (30 : Int32))) → vp_in (V 30 (((V 33 (((V 39 ((i1).toNatClampNeg))).toNatClampNeg))).toNatClampNeg)) 8) (hp7 : zb (V 42 4) 40) (hp8 : ∀ i_87 : Nat, i_87 < ((V 42 4)).toNatClampNeg → (((V 40 ((i1).toNatClampNeg)) - (V 40 ((i1).toNatClampNeg)) / (30 : Int32) * (30 : Int32)) < (8 : Int32)) → vp_in (V 45 i_87) 8) (hp9 : ∀ i_87 : Nat, i_87 < ((V 42 4)).toNatClampNeg → ¬ (((V 40 ((i1).toNatClampNeg)) - (V 40 ((i1).toNatClampNeg)) / (30 : Int32) * (30 : Int32)) < (8 : Int32)) → ((22 : Int32) < ((V 40 ((i1).toNatClampNeg)) - (V 40 ((i1).toNatClampNeg)) / (30 : Int32) * (30 : Int32))) → vp_in (V 45 i_87) 8) (hp10 : ∀ i_87 : Nat, i_87 < ((V 42 4)).toNatClampNeg → ¬ (((V 40 ((i1).toNatClampNeg)) - (V 40 ((i1).toNatClampNeg)) / (30 : Int32) * (30 : Int32)) < (8 : Int32)) → ¬ ((22 : Int32) < ((V 40 ((i1).toNatClampNeg)) - (V 40 ((i1).toNatClampNeg)) / (30 : Int32) * (30 : Int32))) → vp_in (V 45 i_87) 8) (hv1 : ∀ i_89 : Nat, i_89 < ((V 42 2)).toNatClampNeg → (((V 40 ((i1).toNatClampNeg)) - (V 40 ((i1).toNatClampNeg)) / (30 : Int32) * (30 : Int32)) < (8 : Int32)) → vp_in (V 43 i_89) 8) (hv2 : ∀ i_89 : Nat, i_89 < ((V 42 2)).toNatClampNeg → ¬ (((V 40 ((i1).toNatClampNeg)) - (V 40 ((i1).toNatClampNeg)) / (30 : Int32) * (30 : Int32)) < (8 : Int32)) → ((22 : Int32) < ((V 40 ((i1).toNatClampNeg)) - (V 40 ((i1).toNatClampNeg)) / (30 : Int32) * (30 : Int32))) → vp_in (V 43 i_89) 8) (hv3 : ∀ i_89 : Nat, i_89 < ((V 42 2)).toNatClampNeg → ¬ (((V 40 ((i1).toNatClampNeg)) - (V 40 ((i1).toNatClampNeg)) / (30 : Int32) * (30 : Int32)) < (8 : Int32)) → ¬ ((22 : Int32) < ((V 40 ((i1).toNatClampNeg)) - (V 40 ((i1).toNatClampNeg)) / (30 : Int32) * (30 : Int32))) → vp_in (V 43 i_89) 8) (h : K (some (.int (vl_89_5 i1 i2 V a0))) V) :
    ab_J G (ac_ST L xs) l (d + 5) 89 5 [some (.ref 42), some (.int i1), some (.int i2), some (.int a0), some (.int (0 : Int32))] [] ac_SK V ac_SK K := by
  obtain ⟨n, hn, hm⟩ : ∃ n : Nat, (V 42 2) = nI n ∧ n ≤ 12 := ⟨_, hz.1, hz.2⟩
  have hN : ((V 42 2)).toNatClampNeg = n := by rw [hn]; exact zz_ix (by omega)
  rw [vl_89_5] at h
  rw [hN] at h
  try simp only [hN] at hv1
  try simp only [hN] at hv2
  try simp only [hN] at hv3
  refine zz_fo (fun (i_89 : Nat) (a_89 : Int32) => ((if (va_87 (nI i_89) (V 30 (((V 33 (((V 39 ((i1).toNatClampNeg))).toNatClampNeg))).toNatClampNeg)) (V 40 ((i1).toNatClampNeg)) (V 41 ((i1).toNatClampNeg)) i2 V) = 0 then a_89 else (a_89 ||| ((1 : Int32) <<< ((nI i_89) &&& 31)))) : Int32)) (fun i_89 a_89 => ab_J G (ac_ST L xs) l (d + 5) 89 5 [some (.ref 42), some (.int i1), some (.int i2), some (.int a_89), some (.int (nI i_89))] [] ac_SK V ac_SK K) n a0 ?_ ?_
  · refine iv_89_5 ⟨fun q => absurd q (zz_ge hn), fun _ => ?_⟩
    try dsimp only at h
    generalize hfo : fo (fun (i_89 : Nat) (a_89 : Int32) => ((if (va_87 (nI i_89) (V 30 (((V 33 (((V 39 ((i1).toNatClampNeg))).toNatClampNeg))).toNatClampNeg)) (V 40 ((i1).toNatClampNeg)) (V 41 ((i1).toNatClampNeg)) i2 V) = 0 then a_89 else (a_89 ||| ((1 : Int32) <<< ((nI i_89) &&& 31)))) : Int32)) n a0 = a_89 at h ⊢
    exact h
  · intro i_89 hi ih
    have e : (nI i_89).toNatClampNeg = i_89 := zz_ix (by omega)
    rw [fo_s, nI_succ] at ih
    refine iv_89_5 ⟨fun _ => ?_, fun q => absurd (zz_gl hn hi (by omega)) q⟩
    try simp only [e, ac_zs0, ac_zs1]
    refine ⟨hp1, ?_⟩
    refine ⟨hp2, ?_⟩
    refine ⟨hp3, ?_⟩
    refine ⟨hp1, ?_⟩
    refine ⟨hp1, ?_⟩
    refine sp_87 (vp_in_nI (by omega) (by decide)) (by first | exact (hv1 i_89 hi) | (simp only [e]; exact (hv1 i_89 hi)) | (simp only [hN]; exact (hv1 i_89 hi))) hp4 (by first | exact (hv2 i_89 hi) | (simp only [e]; exact (hv2 i_89 hi)) | (simp only [hN]; exact (hv2 i_89 hi))) hp5 (by first | exact (hv3 i_89 hi) | (simp only [e]; exact (hv3 i_89 hi)) | (simp only [hN]; exact (hv3 i_89 hi))) hp6 hp7 hp8 hp9 hp10 (fun hb1 => ?_)
    dsimp only [aa_rI, aa_rL]
    refine ⟨hb1, ?_⟩
    refine ⟨fun c2 => ?_, fun c2 => ?_⟩
    · rw [if_pos c2] at ih
      exact ih
    · rw [if_neg c2] at ih
      exact ih

def va_89 (i1 : Int32) (i2 : Int32) (V : aa_V) : Int32 := (vl_89_5 i1 i2 V (0 : Int32))
set_option maxRecDepth 20000 in
/-- FrameCounty$Watch couldRaid -/
theorem sp_89 {G : ab_G} {L : Nat} {xs : Nat → Int32} {l : Launch} {d : Nat} {i1 : Int32} {i2 : Int32} {V : aa_V} {K : aa_K} (hw1 : zb (V 42 2) 12) (hw2 : vp_in i1 30) (hw3 : vp_in (V 39 ((i1).toNatClampNeg)) 20) (hw4 : vp_in (V 33 (((V 39 ((i1).toNatClampNeg))).toNatClampNeg)) 8) (hw5 : (((V 40 ((i1).toNatClampNeg)) - (V 40 ((i1).toNatClampNeg)) / (30 : Int32) * (30 : Int32)) < (8 : Int32)) → vp_in (V 30 (((V 33 (((V 39 ((i1).toNatClampNeg))).toNatClampNeg))).toNatClampNeg)) 8) (hw6 : ¬ (((V 40 ((i1).toNatClampNeg)) - (V 40 ((i1).toNatClampNeg)) / (30 : Int32) * (30 : Int32)) < (8 : Int32)) → ((22 : Int32) < ((V 40 ((i1).toNatClampNeg)) - (V 40 ((i1).toNatClampNeg)) / (30 : Int32) * (30 : Int32))) → vp_in (V 30 (((V 33 (((V 39 ((i1).toNatClampNeg))).toNatClampNeg))).toNatClampNeg)) 8) (hw7 : ¬ (((V 40 ((i1).toNatClampNeg)) - (V 40 ((i1).toNatClampNeg)) / (30 : Int32) * (30 : Int32)) < (8 : Int32)) → ¬ ((22 : Int32) < ((V 40 ((i1).toNatClampNeg)) - (V 40 ((i1).toNatClampNeg)) / (30 : Int32) * (30 : Int32))) → vp_in (V 30 (((V 33 (((V 39 ((i1).toNatClampNeg))).toNatClampNeg))).toNatClampNeg)) 8) (hw8 : zb (V 42 4) 40) (hw9 : ∀ i_87 : Nat, i_87 < ((V 42 4)).toNatClampNeg → (((V 40 ((i1).toNatClampNeg)) - (V 40 ((i1).toNatClampNeg)) / (30 : Int32) * (30 : Int32)) < (8 : Int32)) → vp_in (V 45 i_87) 8) (hw10 : ∀ i_87 : Nat, i_87 < ((V 42 4)).toNatClampNeg → ¬ (((V 40 ((i1).toNatClampNeg)) - (V 40 ((i1).toNatClampNeg)) / (30 : Int32) * (30 : Int32)) < (8 : Int32)) → ((22 : Int32) < ((V 40 ((i1).toNatClampNeg)) - (V 40 ((i1).toNatClampNeg)) / (30 : Int32) * (30 : Int32))) → vp_in (V 45 i_87) 8) (hw11 : ∀ i_87 : Nat, i_87 < ((V 42 4)).toNatClampNeg → ¬ (((V 40 ((i1).toNatClampNeg)) - (V 40 ((i1).toNatClampNeg)) / (30 : Int32) * (30 : Int32)) < (8 : Int32)) → ¬ ((22 : Int32) < ((V 40 ((i1).toNatClampNeg)) - (V 40 ((i1).toNatClampNeg)) / (30 : Int32) * (30 : Int32))) → vp_in (V 45 i_87) 8) (hw12 : ∀ i_89 : Nat, i_89 < ((V 42 2)).toNatClampNeg → (((V 40 ((i1).toNatClampNeg)) - (V 40 ((i1).toNatClampNeg)) / (30 : Int32) * (30 : Int32)) < (8 : Int32)) → vp_in (V 43 i_89) 8) (hw13 : ∀ i_89 : Nat, i_89 < ((V 42 2)).toNatClampNeg → ¬ (((V 40 ((i1).toNatClampNeg)) - (V 40 ((i1).toNatClampNeg)) / (30 : Int32) * (30 : Int32)) < (8 : Int32)) → ((22 : Int32) < ((V 40 ((i1).toNatClampNeg)) - (V 40 ((i1).toNatClampNeg)) / (30 : Int32) * (30 : Int32))) → vp_in (V 43 i_89) 8) (hw14 : ∀ i_89 : Nat, i_89 < ((V 42 2)).toNatClampNeg → ¬ (((V 40 ((i1).toNatClampNeg)) - (V 40 ((i1).toNatClampNeg)) / (30 : Int32) * (30 : Int32)) < (8 : Int32)) → ¬ ((22 : Int32) < ((V 40 ((i1).toNatClampNeg)) - (V 40 ((i1).toNatClampNeg)) / (30 : Int32) * (30 : Int32))) → vp_in (V 43 i_89) 8) (h : K (some (.int (va_89 i1 i2 V))) V) :
    ab_E G (ac_ST L xs) l (d + 5) ac_SK 89 [.ref 42, .int i1, .int i2] V K := by
  rw [va_89] at h
  refine iv_89_0 ?_
  exact lo_89_5 hw1 hw2 hw3 hw4 hw5 hw6 hw7 hw8 hw9 hw10 hw11 hw12 hw13 hw14 h

def vl_90_4 (i1 : Int32) (V : aa_V) (a0 : Int32) : Int32 := ((fun (a_90 : Int32) => a_90) (fo (fun (i_90 : Nat) (a_90 : Int32) => ((if i1 < (V 53 i_90) then a_90 else (if (va_87 (V 50 i_90) (V 30 (((V 33 (((V 39 (((V 51 i_90)).toNatClampNeg))).toNatClampNeg))).toNatClampNeg)) (V 40 (((V 51 i_90)).toNatClampNeg)) (V 41 (((V 51 i_90)).toNatClampNeg)) i1 V) = 0 then (a_90 ||| ((1 : Int32) <<< ((nI i_90) &&& 31))) else a_90)) : Int32)) ((V 42 10)).toNatClampNeg a0))
set_option maxRecDepth 20000 in
/-- FrameCounty$Watch lies, the loop at 4 -/
theorem lo_90_4 {G : ab_G} {L : Nat} {xs : Nat → Int32} {l : Launch} {d : Nat} {i1 : Int32} {V : aa_V} {K : aa_K} {a0 : Int32} (hz : zb (V 42 10) 24) (hp1 : zb (V 42 4) 40) (hv1 : ∀ i_90 : Nat, i_90 < ((V 42 10)).toNatClampNeg → vp_in (V 51 i_90) 30) (hv2 : ∀ i_90 : Nat, i_90 < ((V 42 10)).toNatClampNeg → vp_in (V 39 (((V 51 i_90)).toNatClampNeg)) 20) (hv3 : ∀ i_90 : Nat, i_90 < ((V 42 10)).toNatClampNeg → vp_in (V 33 (((V 39 (((V 51 i_90)).toNatClampNeg))).toNatClampNeg)) 8) (hv4 : ∀ i_90 : Nat, i_90 < ((V 42 10)).toNatClampNeg → vp_in (V 50 i_90) 12) (hv5 : ∀ i_90 : Nat, i_90 < ((V 42 10)).toNatClampNeg → (((V 40 (((V 51 i_90)).toNatClampNeg)) - (V 40 (((V 51 i_90)).toNatClampNeg)) / (30 : Int32) * (30 : Int32)) < (8 : Int32)) → vp_in (V 43 (((V 50 i_90)).toNatClampNeg)) 8) (hv6 : ∀ i_90 : Nat, i_90 < ((V 42 10)).toNatClampNeg → (((V 40 (((V 51 i_90)).toNatClampNeg)) - (V 40 (((V 51 i_90)).toNatClampNeg)) / (30 : Int32) * (30 : Int32)) < (8 : Int32)) → vp_in (V 30 (((V 33 (((V 39 (((V 51 i_90)).toNatClampNeg))).toNatClampNeg))).toNatClampNeg)) 8) (hv7 : ∀ i_90 : Nat, i_90 < ((V 42 10)).toNatClampNeg → ¬ (((V 40 (((V 51 i_90)).toNatClampNeg)) - (V 40 (((V 51 i_90)).toNatClampNeg)) / (30 : Int32) * (30 : Int32)) < (8 : Int32)) → ((22 : Int32) < ((V 40 (((V 51 i_90)).toNatClampNeg)) - (V 40 (((V 51 i_90)).toNatClampNeg)) / (30 : Int32) * (30 : Int32))) → vp_in (V 43 (((V 50 i_90)).toNatClampNeg)) 8) (hv8 : ∀ i_90 : Nat, i_90 < ((V 42 10)).toNatClampNeg → ¬ (((V 40 (((V 51 i_90)).toNatClampNeg)) - (V 40 (((V 51 i_90)).toNatClampNeg)) / (30 : Int32) * (30 : Int32)) < (8 : Int32)) → ((22 : Int32) < ((V 40 (((V 51 i_90)).toNatClampNeg)) - (V 40 (((V 51 i_90)).toNatClampNeg)) / (30 : Int32) * (30 : Int32))) → vp_in (V 30 (((V 33 (((V 39 (((V 51 i_90)).toNatClampNeg))).toNatClampNeg))).toNatClampNeg)) 8) (hv9 : ∀ i_90 : Nat, i_90 < ((V 42 10)).toNatClampNeg → ¬ (((V 40 (((V 51 i_90)).toNatClampNeg)) - (V 40 (((V 51 i_90)).toNatClampNeg)) / (30 : Int32) * (30 : Int32)) < (8 : Int32)) → ¬ ((22 : Int32) < ((V 40 (((V 51 i_90)).toNatClampNeg)) - (V 40 (((V 51 i_90)).toNatClampNeg)) / (30 : Int32) * (30 : Int32))) → vp_in (V 43 (((V 50 i_90)).toNatClampNeg)) 8) (hv10 : ∀ i_90 : Nat, i_90 < ((V 42 10)).toNatClampNeg → ¬ (((V 40 (((V 51 i_90)).toNatClampNeg)) - (V 40 (((V 51 i_90)).toNatClampNeg)) / (30 : Int32) * (30 : Int32)) < (8 : Int32)) → ¬ ((22 : Int32) < ((V 40 (((V 51 i_90)).toNatClampNeg)) - (V 40 (((V 51 i_90)).toNatClampNeg)) / (30 : Int32) * (30 : Int32))) → vp_in (V 30 (((V 33 (((V 39 (((V 51 i_90)).toNatClampNeg))).toNatClampNeg))).toNatClampNeg)) 8) (hv11 : ∀ i_90 : Nat, i_90 < ((V 42 10)).toNatClampNeg → ∀ i_87 : Nat, i_87 < ((V 42 4)).toNatClampNeg → (((V 40 (((V 51 i_90)).toNatClampNeg)) - (V 40 (((V 51 i_90)).toNatClampNeg)) / (30 : Int32) * (30 : Int32)) < (8 : Int32)) → vp_in (V 45 i_87) 8) (hv12 : ∀ i_90 : Nat, i_90 < ((V 42 10)).toNatClampNeg → ∀ i_87 : Nat, i_87 < ((V 42 4)).toNatClampNeg → ¬ (((V 40 (((V 51 i_90)).toNatClampNeg)) - (V 40 (((V 51 i_90)).toNatClampNeg)) / (30 : Int32) * (30 : Int32)) < (8 : Int32)) → ((22 : Int32) < ((V 40 (((V 51 i_90)).toNatClampNeg)) - (V 40 (((V 51 i_90)).toNatClampNeg)) / (30 : Int32) * (30 : Int32))) → vp_in (V 45 i_87) 8) (hv13 : ∀ i_90 : Nat, i_90 < ((V 42 10)).toNatClampNeg → ∀ i_87 : Nat, i_87 < ((V 42 4)).toNatClampNeg → ¬ (((V 40 (((V 51 i_90)).toNatClampNeg)) - (V 40 (((V 51 i_90)).toNatClampNeg)) / (30 : Int32) * (30 : Int32)) < (8 : Int32)) → ¬ ((22 : Int32) < ((V 40 (((V 51 i_90)).toNatClampNeg)) - (V 40 (((V 51 i_90)).toNatClampNeg)) / (30 : Int32) * (30 : Int32))) → vp_in (V 45 i_87) 8) (h : K (some (.int (vl_90_4 i1 V a0))) V) :
    ab_J G (ac_ST L xs) l (d + 5) 90 4 [some (.ref 42), some (.int i1), some (.int a0), some (.int (0 : Int32))] [] ac_SK V ac_SK K := by
  obtain ⟨n, hn, hm⟩ : ∃ n : Nat, (V 42 10) = nI n ∧ n ≤ 24 := ⟨_, hz.1, hz.2⟩
  have hN : ((V 42 10)).toNatClampNeg = n := by rw [hn]; exact zz_ix (by omega)
  rw [vl_90_4] at h
  rw [hN] at h
  try simp only [hN] at hv1
  try simp only [hN] at hv2
  try simp only [hN] at hv3
  try simp only [hN] at hv4
  try simp only [hN] at hv5
  try simp only [hN] at hv6
  try simp only [hN] at hv7
  try simp only [hN] at hv8
  try simp only [hN] at hv9
  try simp only [hN] at hv10
  try simp only [hN] at hv11
  try simp only [hN] at hv12
  try simp only [hN] at hv13
  refine zz_fo (fun (i_90 : Nat) (a_90 : Int32) => ((if i1 < (V 53 i_90) then a_90 else (if (va_87 (V 50 i_90) (V 30 (((V 33 (((V 39 (((V 51 i_90)).toNatClampNeg))).toNatClampNeg))).toNatClampNeg)) (V 40 (((V 51 i_90)).toNatClampNeg)) (V 41 (((V 51 i_90)).toNatClampNeg)) i1 V) = 0 then (a_90 ||| ((1 : Int32) <<< ((nI i_90) &&& 31))) else a_90)) : Int32)) (fun i_90 a_90 => ab_J G (ac_ST L xs) l (d + 5) 90 4 [some (.ref 42), some (.int i1), some (.int a_90), some (.int (nI i_90))] [] ac_SK V ac_SK K) n a0 ?_ ?_
  · refine iv_90_4 ⟨fun q => absurd q (zz_ge hn), fun _ => ?_⟩
    try dsimp only at h
    generalize hfo : fo (fun (i_90 : Nat) (a_90 : Int32) => ((if i1 < (V 53 i_90) then a_90 else (if (va_87 (V 50 i_90) (V 30 (((V 33 (((V 39 (((V 51 i_90)).toNatClampNeg))).toNatClampNeg))).toNatClampNeg)) (V 40 (((V 51 i_90)).toNatClampNeg)) (V 41 (((V 51 i_90)).toNatClampNeg)) i1 V) = 0 then (a_90 ||| ((1 : Int32) <<< ((nI i_90) &&& 31))) else a_90)) : Int32)) n a0 = a_90 at h ⊢
    exact h
  · intro i_90 hi ih
    have e : (nI i_90).toNatClampNeg = i_90 := zz_ix (by omega)
    rw [fo_s, nI_succ] at ih
    refine iv_90_4 ⟨fun _ => ?_, fun q => absurd (zz_gl hn hi (by omega)) q⟩
    try simp only [e, ac_zs0, ac_zs1]
    refine ⟨vp_in_nI (by omega) (by decide), ?_⟩
    refine ⟨fun c1 => ?_, fun c1 => ?_⟩
    · rw [if_pos c1] at ih
      exact ih
    · refine ⟨vp_in_nI (by omega) (by decide), ?_⟩
      refine ⟨vp_in_nI (by omega) (by decide), ?_⟩
      refine ⟨(hv1 i_90 hi), ?_⟩
      refine ⟨(hv2 i_90 hi), ?_⟩
      refine ⟨(hv3 i_90 hi), ?_⟩
      refine ⟨(hv1 i_90 hi), ?_⟩
      refine ⟨(hv1 i_90 hi), ?_⟩
      refine sp_87 (by first | exact (hv4 i_90 hi) | (simp only [e]; exact (hv4 i_90 hi)) | (simp only [hN]; exact (hv4 i_90 hi))) (by first | exact (hv5 i_90 hi) | (simp only [e]; exact (hv5 i_90 hi)) | (simp only [hN]; exact (hv5 i_90 hi))) (by first | exact (hv6 i_90 hi) | (simp only [e]; exact (hv6 i_90 hi)) | (simp only [hN]; exact (hv6 i_90 hi))) (by first | exact (hv7 i_90 hi) | (simp only [e]; exact (hv7 i_90 hi)) | (simp only [hN]; exact (hv7 i_90 hi))) (by first | exact (hv8 i_90 hi) | (simp only [e]; exact (hv8 i_90 hi)) | (simp only [hN]; exact (hv8 i_90 hi))) (by first | exact (hv9 i_90 hi) | (simp only [e]; exact (hv9 i_90 hi)) | (simp only [hN]; exact (hv9 i_90 hi))) (by first | exact (hv10 i_90 hi) | (simp only [e]; exact (hv10 i_90 hi)) | (simp only [hN]; exact (hv10 i_90 hi))) hp1 (by first | exact (hv11 i_90 hi) | (simp only [e]; exact (hv11 i_90 hi)) | (simp only [hN]; exact (hv11 i_90 hi))) (by first | exact (hv12 i_90 hi) | (simp only [e]; exact (hv12 i_90 hi)) | (simp only [hN]; exact (hv12 i_90 hi))) (by first | exact (hv13 i_90 hi) | (simp only [e]; exact (hv13 i_90 hi)) | (simp only [hN]; exact (hv13 i_90 hi))) (fun hb2 => ?_)
      dsimp only [aa_rI, aa_rL]
      refine ⟨hb2, ?_⟩
      refine ⟨fun c3 => ?_, fun c3 => ?_⟩
      · rw [if_neg c1, if_pos c3] at ih
        exact ih
      · rw [if_neg c1, if_neg c3] at ih
        exact ih

def va_90 (i1 : Int32) (V : aa_V) : Int32 := (vl_90_4 i1 V (0 : Int32))
set_option maxRecDepth 20000 in
/-- FrameCounty$Watch lies -/
theorem sp_90 {G : ab_G} {L : Nat} {xs : Nat → Int32} {l : Launch} {d : Nat} {i1 : Int32} {V : aa_V} {K : aa_K} (hw1 : zb (V 42 10) 24) (hw2 : zb (V 42 4) 40) (hw3 : ∀ i_90 : Nat, i_90 < ((V 42 10)).toNatClampNeg → vp_in (V 51 i_90) 30) (hw4 : ∀ i_90 : Nat, i_90 < ((V 42 10)).toNatClampNeg → vp_in (V 39 (((V 51 i_90)).toNatClampNeg)) 20) (hw5 : ∀ i_90 : Nat, i_90 < ((V 42 10)).toNatClampNeg → vp_in (V 33 (((V 39 (((V 51 i_90)).toNatClampNeg))).toNatClampNeg)) 8) (hw6 : ∀ i_90 : Nat, i_90 < ((V 42 10)).toNatClampNeg → vp_in (V 50 i_90) 12) (hw7 : ∀ i_90 : Nat, i_90 < ((V 42 10)).toNatClampNeg → (((V 40 (((V 51 i_90)).toNatClampNeg)) - (V 40 (((V 51 i_90)).toNatClampNeg)) / (30 : Int32) * (30 : Int32)) < (8 : Int32)) → vp_in (V 43 (((V 50 i_90)).toNatClampNeg)) 8) (hw8 : ∀ i_90 : Nat, i_90 < ((V 42 10)).toNatClampNeg → (((V 40 (((V 51 i_90)).toNatClampNeg)) - (V 40 (((V 51 i_90)).toNatClampNeg)) / (30 : Int32) * (30 : Int32)) < (8 : Int32)) → vp_in (V 30 (((V 33 (((V 39 (((V 51 i_90)).toNatClampNeg))).toNatClampNeg))).toNatClampNeg)) 8) (hw9 : ∀ i_90 : Nat, i_90 < ((V 42 10)).toNatClampNeg → ¬ (((V 40 (((V 51 i_90)).toNatClampNeg)) - (V 40 (((V 51 i_90)).toNatClampNeg)) / (30 : Int32) * (30 : Int32)) < (8 : Int32)) → ((22 : Int32) < ((V 40 (((V 51 i_90)).toNatClampNeg)) - (V 40 (((V 51 i_90)).toNatClampNeg)) / (30 : Int32) * (30 : Int32))) → vp_in (V 43 (((V 50 i_90)).toNatClampNeg)) 8) (hw10 : ∀ i_90 : Nat, i_90 < ((V 42 10)).toNatClampNeg → ¬ (((V 40 (((V 51 i_90)).toNatClampNeg)) - (V 40 (((V 51 i_90)).toNatClampNeg)) / (30 : Int32) * (30 : Int32)) < (8 : Int32)) → ((22 : Int32) < ((V 40 (((V 51 i_90)).toNatClampNeg)) - (V 40 (((V 51 i_90)).toNatClampNeg)) / (30 : Int32) * (30 : Int32))) → vp_in (V 30 (((V 33 (((V 39 (((V 51 i_90)).toNatClampNeg))).toNatClampNeg))).toNatClampNeg)) 8) (hw11 : ∀ i_90 : Nat, i_90 < ((V 42 10)).toNatClampNeg → ¬ (((V 40 (((V 51 i_90)).toNatClampNeg)) - (V 40 (((V 51 i_90)).toNatClampNeg)) / (30 : Int32) * (30 : Int32)) < (8 : Int32)) → ¬ ((22 : Int32) < ((V 40 (((V 51 i_90)).toNatClampNeg)) - (V 40 (((V 51 i_90)).toNatClampNeg)) / (30 : Int32) * (30 : Int32))) → vp_in (V 43 (((V 50 i_90)).toNatClampNeg)) 8) (hw12 : ∀ i_90 : Nat, i_90 < ((V 42 10)).toNatClampNeg → ¬ (((V 40 (((V 51 i_90)).toNatClampNeg)) - (V 40 (((V 51 i_90)).toNatClampNeg)) / (30 : Int32) * (30 : Int32)) < (8 : Int32)) → ¬ ((22 : Int32) < ((V 40 (((V 51 i_90)).toNatClampNeg)) - (V 40 (((V 51 i_90)).toNatClampNeg)) / (30 : Int32) * (30 : Int32))) → vp_in (V 30 (((V 33 (((V 39 (((V 51 i_90)).toNatClampNeg))).toNatClampNeg))).toNatClampNeg)) 8) (hw13 : ∀ i_90 : Nat, i_90 < ((V 42 10)).toNatClampNeg → ∀ i_87 : Nat, i_87 < ((V 42 4)).toNatClampNeg → (((V 40 (((V 51 i_90)).toNatClampNeg)) - (V 40 (((V 51 i_90)).toNatClampNeg)) / (30 : Int32) * (30 : Int32)) < (8 : Int32)) → vp_in (V 45 i_87) 8) (hw14 : ∀ i_90 : Nat, i_90 < ((V 42 10)).toNatClampNeg → ∀ i_87 : Nat, i_87 < ((V 42 4)).toNatClampNeg → ¬ (((V 40 (((V 51 i_90)).toNatClampNeg)) - (V 40 (((V 51 i_90)).toNatClampNeg)) / (30 : Int32) * (30 : Int32)) < (8 : Int32)) → ((22 : Int32) < ((V 40 (((V 51 i_90)).toNatClampNeg)) - (V 40 (((V 51 i_90)).toNatClampNeg)) / (30 : Int32) * (30 : Int32))) → vp_in (V 45 i_87) 8) (hw15 : ∀ i_90 : Nat, i_90 < ((V 42 10)).toNatClampNeg → ∀ i_87 : Nat, i_87 < ((V 42 4)).toNatClampNeg → ¬ (((V 40 (((V 51 i_90)).toNatClampNeg)) - (V 40 (((V 51 i_90)).toNatClampNeg)) / (30 : Int32) * (30 : Int32)) < (8 : Int32)) → ¬ ((22 : Int32) < ((V 40 (((V 51 i_90)).toNatClampNeg)) - (V 40 (((V 51 i_90)).toNatClampNeg)) / (30 : Int32) * (30 : Int32))) → vp_in (V 45 i_87) 8) (h : K (some (.int (va_90 i1 V))) V) :
    ab_E G (ac_ST L xs) l (d + 5) ac_SK 90 [.ref 42, .int i1] V K := by
  rw [va_90] at h
  refine iv_90_0 ?_
  exact lo_90_4 hw1 hw2 hw3 hw4 hw5 hw6 hw7 hw8 hw9 hw10 hw11 hw12 hw13 hw14 hw15 h

def va_156 (i1 : Int32) (V : aa_V) : Int32 := (if i1 < (0 : Int32) then (-2 : Int32) else (if (1499 : Int32) < i1 then (-2 : Int32) else (va_135 i1 (va_129 (V 0 13) V) V)))
set_option maxRecDepth 20000 in
/-- FrameCounty sends -/
theorem sp_156 {G : ab_G} {L : Nat} {xs : Nat → Int32} {l : Launch} {d : Nat} {i1 : Int32} {V : aa_V} {K : aa_K} (hw1 : zb (V 29 3) 20) (hw2 : zb (V 29 0) 1000000000) (hw3 : ∀ i_136 : Nat, i_136 < ((V 29 3)).toNatClampNeg → ((i1 / (300 : Int32)) = 0) → vp_in (nI i_136) 20) (hw4 : ∀ i_136 : Nat, i_136 < ((V 29 3)).toNatClampNeg → ¬ ((i1 / (300 : Int32)) = 0) → ((i1 / (300 : Int32)) = 1) → vp_in (nI i_136) 20) (hw5 : ∀ i_136 : Nat, i_136 < ((V 29 3)).toNatClampNeg → ¬ ((i1 / (300 : Int32)) = 0) → ¬ ((i1 / (300 : Int32)) = 1) → ((i1 / (300 : Int32)) = 2) → vp_in (nI i_136) 20) (hw6 : ∀ i_136 : Nat, i_136 < ((V 29 3)).toNatClampNeg → ¬ ((i1 / (300 : Int32)) = 0) → ¬ ((i1 / (300 : Int32)) = 1) → ¬ ((i1 / (300 : Int32)) = 2) → ((i1 / (300 : Int32)) = 3) → vp_in (nI i_136) 20) (hw7 : ∀ i_136 : Nat, i_136 < ((V 29 3)).toNatClampNeg → ¬ ((i1 / (300 : Int32)) = 0) → ¬ ((i1 / (300 : Int32)) = 1) → ¬ ((i1 / (300 : Int32)) = 2) → ((i1 / (300 : Int32)) = 3) → vp_in (V 33 i_136) 8) (hw8 : ∀ i_136 : Nat, i_136 < ((V 29 3)).toNatClampNeg → ¬ ((i1 / (300 : Int32)) = 0) → ¬ ((i1 / (300 : Int32)) = 1) → ¬ ((i1 / (300 : Int32)) = 2) → ¬ ((i1 / (300 : Int32)) = 3) → vp_in (nI i_136) 20) (hw9 : ∀ i_136 : Nat, i_136 < ((V 29 3)).toNatClampNeg → ¬ ((i1 / (300 : Int32)) = 0) → ¬ ((i1 / (300 : Int32)) = 1) → ¬ ((i1 / (300 : Int32)) = 2) → ¬ ((i1 / (300 : Int32)) = 3) → vp_in (V 33 i_136) 8) (h : K (some (.int (va_156 i1 V))) V) :
    ab_E G (ac_ST L xs) l (d + 5) ac_SK 156 [.ref 0, .int i1] V K := by
  rw [va_156] at h
  refine iv_156_0 ?_
  refine ⟨fun g1 => ?_, fun g1 => ?_⟩
  · simp only [if_pos g1] at h
    exact h
  · refine ⟨fun g2 => ?_, fun g2 => ?_⟩
    · simp only [if_neg g1, if_pos g2] at h
      exact h
    · refine sp_129 hw1 ?_
      dsimp only [aa_rI, aa_rL, aa_rV]
      refine sp_135 hw1 hw2 hw3 hw4 hw5 hw6 hw7 hw8 hw9 ?_
      dsimp only [aa_rI, aa_rL, aa_rV]
      simp only [if_neg g1, if_neg g2] at h
      exact h

def vl_170_49 (i1 : Int32) (i2 : Int32) (i3 : Int32) (i4 : Int32) (V : aa_V) (a0 : Int32 × Int32) : Int32 := ((fun (a_170 : Int32 × Int32) => (if i4 = 0 then a_170.1 else a_170.2)) (fo (fun (i_170 : Nat) (a_170 : Int32 × Int32) => ((if (va_285 (nI i_170) V) = i1 then (if a_170.2 < (va_190 (nI i_170) i2 i3 V) then ((nI i_170), (va_190 (nI i_170) i2 i3 V)) else (a_170.1, a_170.2)) else (a_170.1, a_170.2)) : Int32 × Int32)) 256 a0))
set_option maxRecDepth 20000 in
/-- FrameCounty parties, the loop at 49 -/
theorem lo_170_49 {G : ab_G} {L : Nat} {xs : Nat → Int32} {l : Launch} {d : Nat} {i1 : Int32} {i2 : Int32} {i3 : Int32} {i4 : Int32} {V : aa_V} {K : aa_K} {a0 : Int32 × Int32} (hp1 : zb (V 29 0) 8) (hp2 : ∀ i_53 : Nat, i_53 < 8 → ((i3 - i3 / (30 : Int32) * (30 : Int32)) < (8 : Int32)) → vp_in (nI i_53) 8) (hp3 : ∀ i_53 : Nat, i_53 < 8 → ¬ ((i3 - i3 / (30 : Int32) * (30 : Int32)) < (8 : Int32)) → ((22 : Int32) < (i3 - i3 / (30 : Int32) * (30 : Int32))) → vp_in (nI i_53) 8) (hp4 : ∀ i_53 : Nat, i_53 < 8 → ¬ ((i3 - i3 / (30 : Int32) * (30 : Int32)) < (8 : Int32)) → ¬ ((22 : Int32) < (i3 - i3 / (30 : Int32) * (30 : Int32))) → vp_in (nI i_53) 8) (hp5 : ∀ i_190 : Nat, i_190 < ((V 29 0)).toNatClampNeg → ((i3 - i3 / (30 : Int32) * (30 : Int32)) < (8 : Int32)) → vp_in (V 30 i_190) 8) (hp6 : ∀ i_190 : Nat, i_190 < ((V 29 0)).toNatClampNeg → ¬ ((i3 - i3 / (30 : Int32) * (30 : Int32)) < (8 : Int32)) → ((22 : Int32) < (i3 - i3 / (30 : Int32) * (30 : Int32))) → vp_in (V 30 i_190) 8) (hp7 : ∀ i_190 : Nat, i_190 < ((V 29 0)).toNatClampNeg → ¬ ((i3 - i3 / (30 : Int32) * (30 : Int32)) < (8 : Int32)) → ¬ ((22 : Int32) < (i3 - i3 / (30 : Int32) * (30 : Int32))) → vp_in (V 30 i_190) 8) (h : K (some (.int (vl_170_49 i1 i2 i3 i4 V a0))) V) :
    ab_J G (ac_ST L xs) l (d + 5) 170 49 [some (.ref 0), some (.int i1), some (.int i2), some (.int i3), some (.int i4), some (.int a0.1), some (.int a0.2), some (.int (0 : Int32)), none] [] ac_SK V ac_SK K := by
  obtain ⟨n, hn, hm, hN⟩ : ∃ n : Nat, (256 : Int32) = nI n ∧ n ≤ 256 ∧ n = 256 := ⟨256, by decide +kernel, Nat.le_refl _, rfl⟩
  have hvl : vl_170_49 i1 i2 i3 i4 V a0 = ((fun (a_170 : Int32 × Int32) => (if i4 = 0 then a_170.1 else a_170.2)) (fo (fun (i_170 : Nat) (a_170 : Int32 × Int32) => ((if (va_285 (nI i_170) V) = i1 then (if a_170.2 < (va_190 (nI i_170) i2 i3 V) then ((nI i_170), (va_190 (nI i_170) i2 i3 V)) else (a_170.1, a_170.2)) else (a_170.1, a_170.2)) : Int32 × Int32)) n a0)) := by
    subst hN
    rfl
  rw [hvl] at h
  have hlt : ∀ i_170, i_170 < n → i_170 < 256 := fun i_170 q => by omega
  refine zz_fo (fun (i_170 : Nat) (a_170 : Int32 × Int32) => ((if (va_285 (nI i_170) V) = i1 then (if a_170.2 < (va_190 (nI i_170) i2 i3 V) then ((nI i_170), (va_190 (nI i_170) i2 i3 V)) else (a_170.1, a_170.2)) else (a_170.1, a_170.2)) : Int32 × Int32)) (fun i_170 a_170 => ab_J G (ac_ST L xs) l (d + 5) 170 49 [some (.ref 0), some (.int i1), some (.int i2), some (.int i3), some (.int i4), some (.int a_170.1), some (.int a_170.2), some (.int (nI i_170)), none] [] ac_SK V ac_SK K) n a0 ?_ ?_
  · refine iv_170_49 ⟨fun q => absurd q (zz_ge hn), fun _ => ?_⟩
    try dsimp only at h
    generalize hfo : fo (fun (i_170 : Nat) (a_170 : Int32 × Int32) => ((if (va_285 (nI i_170) V) = i1 then (if a_170.2 < (va_190 (nI i_170) i2 i3 V) then ((nI i_170), (va_190 (nI i_170) i2 i3 V)) else (a_170.1, a_170.2)) else (a_170.1, a_170.2)) : Int32 × Int32)) n a0 = a_170 at h ⊢
    subst hN
    refine ⟨fun g1 => ?_, fun g1 => ?_⟩
    · simp only [if_pos g1] at h
      exact h
    · simp only [if_neg g1] at h
      exact h
  · intro i_170 hi ih
    have e : (nI i_170).toNatClampNeg = i_170 := zz_ix (by omega)
    rw [fo_s, nI_succ] at ih
    refine iv_170_49 ⟨fun _ => ?_, fun q => absurd (zz_gl hn hi (by omega)) q⟩
    try simp only [e, ac_zs0, ac_zs1]
    refine sp_285  ?_
    dsimp only [aa_rI, aa_rL]
    refine ⟨fun c2 => ?_, fun c2 => ?_⟩
    · refine sp_190 hp1 hp2 hp3 hp4 hp5 hp6 hp7 ?_
      dsimp only [aa_rI, aa_rL]
      refine ⟨fun c4 => ?_, fun c4 => ?_⟩
      · rw [if_pos c2, if_pos c4] at ih
        exact ih
      · rw [if_pos c2, if_neg c4] at ih
        exact ih
    · rw [if_neg c2] at ih
      exact ih

def va_170 (i1 : Int32) (i2 : Int32) (i3 : Int32) (i4 : Int32) (V : aa_V) : Int32 := (if i1 < (0 : Int32) then (-2 : Int32) else (if (8 : Int32) < i1 then (-2 : Int32) else (if i2 < (0 : Int32) then (-2 : Int32) else (if (99 : Int32) < i2 then (-2 : Int32) else (if i3 < (0 : Int32) then (-2 : Int32) else (if (399 : Int32) < i3 then (-2 : Int32) else (if i4 < (0 : Int32) then (-2 : Int32) else (if (1 : Int32) < i4 then (-2 : Int32) else (vl_170_49 i1 i2 i3 i4 V ((-1 : Int32), (-1 : Int32)))))))))))
set_option maxRecDepth 20000 in
/-- FrameCounty parties -/
theorem sp_170 {G : ab_G} {L : Nat} {xs : Nat → Int32} {l : Launch} {d : Nat} {i1 : Int32} {i2 : Int32} {i3 : Int32} {i4 : Int32} {V : aa_V} {K : aa_K} (hw1 : zb (V 29 0) 8) (hw2 : ∀ i_53 : Nat, i_53 < 8 → ((i3 - i3 / (30 : Int32) * (30 : Int32)) < (8 : Int32)) → vp_in (nI i_53) 8) (hw3 : ∀ i_53 : Nat, i_53 < 8 → ¬ ((i3 - i3 / (30 : Int32) * (30 : Int32)) < (8 : Int32)) → ((22 : Int32) < (i3 - i3 / (30 : Int32) * (30 : Int32))) → vp_in (nI i_53) 8) (hw4 : ∀ i_53 : Nat, i_53 < 8 → ¬ ((i3 - i3 / (30 : Int32) * (30 : Int32)) < (8 : Int32)) → ¬ ((22 : Int32) < (i3 - i3 / (30 : Int32) * (30 : Int32))) → vp_in (nI i_53) 8) (hw5 : ∀ i_190 : Nat, i_190 < ((V 29 0)).toNatClampNeg → ((i3 - i3 / (30 : Int32) * (30 : Int32)) < (8 : Int32)) → vp_in (V 30 i_190) 8) (hw6 : ∀ i_190 : Nat, i_190 < ((V 29 0)).toNatClampNeg → ¬ ((i3 - i3 / (30 : Int32) * (30 : Int32)) < (8 : Int32)) → ((22 : Int32) < (i3 - i3 / (30 : Int32) * (30 : Int32))) → vp_in (V 30 i_190) 8) (hw7 : ∀ i_190 : Nat, i_190 < ((V 29 0)).toNatClampNeg → ¬ ((i3 - i3 / (30 : Int32) * (30 : Int32)) < (8 : Int32)) → ¬ ((22 : Int32) < (i3 - i3 / (30 : Int32) * (30 : Int32))) → vp_in (V 30 i_190) 8) (h : K (some (.int (va_170 i1 i2 i3 i4 V))) V) :
    ab_E G (ac_ST L xs) l (d + 5) ac_SK 170 [.ref 0, .int i1, .int i2, .int i3, .int i4] V K := by
  rw [va_170] at h
  refine iv_170_0 ?_
  refine ⟨fun g1 => ?_, fun g1 => ?_⟩
  · simp only [if_pos g1] at h
    exact h
  · refine ⟨fun g2 => ?_, fun g2 => ?_⟩
    · simp only [if_neg g1, if_pos g2] at h
      exact h
    · refine ⟨fun g3 => ?_, fun g3 => ?_⟩
      · simp only [if_neg g1, if_neg g2, if_pos g3] at h
        exact h
      · refine ⟨fun g4 => ?_, fun g4 => ?_⟩
        · simp only [if_neg g1, if_neg g2, if_neg g3, if_pos g4] at h
          exact h
        · refine ⟨fun g5 => ?_, fun g5 => ?_⟩
          · simp only [if_neg g1, if_neg g2, if_neg g3, if_neg g4, if_pos g5] at h
            exact h
          · refine ⟨fun g6 => ?_, fun g6 => ?_⟩
            · simp only [if_neg g1, if_neg g2, if_neg g3, if_neg g4, if_neg g5, if_pos g6] at h
              exact h
            · refine ⟨fun g7 => ?_, fun g7 => ?_⟩
              · simp only [if_neg g1, if_neg g2, if_neg g3, if_neg g4, if_neg g5, if_neg g6, if_pos g7] at h
                exact h
              · refine ⟨fun g8 => ?_, fun g8 => ?_⟩
                · simp only [if_neg g1, if_neg g2, if_neg g3, if_neg g4, if_neg g5, if_neg g6, if_neg g7, if_pos g8] at h
                  exact h
                · simp only [if_neg g1, if_neg g2, if_neg g3, if_neg g4, if_neg g5, if_neg g6, if_neg g7, if_neg g8] at h
                  exact lo_170_49 hw1 hw2 hw3 hw4 hw5 hw6 hw7 h

def va_160 (i1 : Int32) (i2 : Int32) (V : aa_V) : Int32 := (if i1 < (0 : Int32) then (-2 : Int32) else (if ((V 38 1) - (1 : Int32)) < i1 then (-2 : Int32) else (if i2 < (0 : Int32) then (-2 : Int32) else (if (V 0 13) < i2 then (-2 : Int32) else (va_89 i1 i2 V)))))
set_option maxRecDepth 20000 in
/-- FrameCounty suspects -/
theorem sp_160 {G : ab_G} {L : Nat} {xs : Nat → Int32} {l : Launch} {d : Nat} {i1 : Int32} {i2 : Int32} {V : aa_V} {K : aa_K} (hw1 : zb (V 42 2) 12) (hw2 : ¬ (i1 < (0 : Int32)) → ¬ (((V 38 1) - (1 : Int32)) < i1) → ¬ (i2 < (0 : Int32)) → ¬ ((V 0 13) < i2) → vp_in i1 30) (hw3 : ¬ (i1 < (0 : Int32)) → ¬ (((V 38 1) - (1 : Int32)) < i1) → ¬ (i2 < (0 : Int32)) → ¬ ((V 0 13) < i2) → vp_in (V 39 ((i1).toNatClampNeg)) 20) (hw4 : ¬ (i1 < (0 : Int32)) → ¬ (((V 38 1) - (1 : Int32)) < i1) → ¬ (i2 < (0 : Int32)) → ¬ ((V 0 13) < i2) → vp_in (V 33 (((V 39 ((i1).toNatClampNeg))).toNatClampNeg)) 8) (hw5 : ¬ (i1 < (0 : Int32)) → ¬ (((V 38 1) - (1 : Int32)) < i1) → ¬ (i2 < (0 : Int32)) → ¬ ((V 0 13) < i2) → (((V 40 ((i1).toNatClampNeg)) - (V 40 ((i1).toNatClampNeg)) / (30 : Int32) * (30 : Int32)) < (8 : Int32)) → vp_in (V 30 (((V 33 (((V 39 ((i1).toNatClampNeg))).toNatClampNeg))).toNatClampNeg)) 8) (hw6 : ¬ (i1 < (0 : Int32)) → ¬ (((V 38 1) - (1 : Int32)) < i1) → ¬ (i2 < (0 : Int32)) → ¬ ((V 0 13) < i2) → ¬ (((V 40 ((i1).toNatClampNeg)) - (V 40 ((i1).toNatClampNeg)) / (30 : Int32) * (30 : Int32)) < (8 : Int32)) → ((22 : Int32) < ((V 40 ((i1).toNatClampNeg)) - (V 40 ((i1).toNatClampNeg)) / (30 : Int32) * (30 : Int32))) → vp_in (V 30 (((V 33 (((V 39 ((i1).toNatClampNeg))).toNatClampNeg))).toNatClampNeg)) 8) (hw7 : ¬ (i1 < (0 : Int32)) → ¬ (((V 38 1) - (1 : Int32)) < i1) → ¬ (i2 < (0 : Int32)) → ¬ ((V 0 13) < i2) → ¬ (((V 40 ((i1).toNatClampNeg)) - (V 40 ((i1).toNatClampNeg)) / (30 : Int32) * (30 : Int32)) < (8 : Int32)) → ¬ ((22 : Int32) < ((V 40 ((i1).toNatClampNeg)) - (V 40 ((i1).toNatClampNeg)) / (30 : Int32) * (30 : Int32))) → vp_in (V 30 (((V 33 (((V 39 ((i1).toNatClampNeg))).toNatClampNeg))).toNatClampNeg)) 8) (hw8 : zb (V 42 4) 40) (hw9 : ∀ i_87 : Nat, i_87 < ((V 42 4)).toNatClampNeg → (((V 40 ((i1).toNatClampNeg)) - (V 40 ((i1).toNatClampNeg)) / (30 : Int32) * (30 : Int32)) < (8 : Int32)) → vp_in (V 45 i_87) 8) (hw10 : ∀ i_87 : Nat, i_87 < ((V 42 4)).toNatClampNeg → ¬ (((V 40 ((i1).toNatClampNeg)) - (V 40 ((i1).toNatClampNeg)) / (30 : Int32) * (30 : Int32)) < (8 : Int32)) → ((22 : Int32) < ((V 40 ((i1).toNatClampNeg)) - (V 40 ((i1).toNatClampNeg)) / (30 : Int32) * (30 : Int32))) → vp_in (V 45 i_87) 8) (hw11 : ∀ i_87 : Nat, i_87 < ((V 42 4)).toNatClampNeg → ¬ (((V 40 ((i1).toNatClampNeg)) - (V 40 ((i1).toNatClampNeg)) / (30 : Int32) * (30 : Int32)) < (8 : Int32)) → ¬ ((22 : Int32) < ((V 40 ((i1).toNatClampNeg)) - (V 40 ((i1).toNatClampNeg)) / (30 : Int32) * (30 : Int32))) → vp_in (V 45 i_87) 8) (hw12 : ∀ i_89 : Nat, i_89 < ((V 42 2)).toNatClampNeg → (((V 40 ((i1).toNatClampNeg)) - (V 40 ((i1).toNatClampNeg)) / (30 : Int32) * (30 : Int32)) < (8 : Int32)) → vp_in (V 43 i_89) 8) (hw13 : ∀ i_89 : Nat, i_89 < ((V 42 2)).toNatClampNeg → ¬ (((V 40 ((i1).toNatClampNeg)) - (V 40 ((i1).toNatClampNeg)) / (30 : Int32) * (30 : Int32)) < (8 : Int32)) → ((22 : Int32) < ((V 40 ((i1).toNatClampNeg)) - (V 40 ((i1).toNatClampNeg)) / (30 : Int32) * (30 : Int32))) → vp_in (V 43 i_89) 8) (hw14 : ∀ i_89 : Nat, i_89 < ((V 42 2)).toNatClampNeg → ¬ (((V 40 ((i1).toNatClampNeg)) - (V 40 ((i1).toNatClampNeg)) / (30 : Int32) * (30 : Int32)) < (8 : Int32)) → ¬ ((22 : Int32) < ((V 40 ((i1).toNatClampNeg)) - (V 40 ((i1).toNatClampNeg)) / (30 : Int32) * (30 : Int32))) → vp_in (V 43 i_89) 8) (h : K (some (.int (va_160 i1 i2 V))) V) :
    ab_E G (ac_ST L xs) l (d + 6) ac_SK 160 [.ref 0, .int i1, .int i2] V K := by
  rw [va_160] at h
  refine iv_160_0 ?_
  refine ⟨fun g1 => ?_, fun g1 => ?_⟩
  · simp only [if_pos g1] at h
    exact h
  · refine ⟨fun g2 => ?_, fun g2 => ?_⟩
    · simp only [if_neg g1, if_pos g2] at h
      exact h
    · refine ⟨fun g3 => ?_, fun g3 => ?_⟩
      · simp only [if_neg g1, if_neg g2, if_pos g3] at h
        exact h
      · refine ⟨fun g4 => ?_, fun g4 => ?_⟩
        · simp only [if_neg g1, if_neg g2, if_neg g3, if_pos g4] at h
          exact h
        · refine sp_89 hw1 (hw2 g1 g2 g3 g4) (hw3 g1 g2 g3 g4) (hw4 g1 g2 g3 g4) (hw5 g1 g2 g3 g4) (hw6 g1 g2 g3 g4) (hw7 g1 g2 g3 g4) hw8 hw9 hw10 hw11 hw12 hw13 hw14 ?_
          dsimp only [aa_rI, aa_rL, aa_rV]
          simp only [if_neg g1, if_neg g2, if_neg g3, if_neg g4] at h
          exact h

def va_162 (i1 : Int32) (V : aa_V) : Int32 := (if i1 < (0 : Int32) then (-2 : Int32) else (if (V 0 13) < i1 then (-2 : Int32) else (va_90 i1 V)))
set_option maxRecDepth 20000 in
/-- FrameCounty falseWords -/
theorem sp_162 {G : ab_G} {L : Nat} {xs : Nat → Int32} {l : Launch} {d : Nat} {i1 : Int32} {V : aa_V} {K : aa_K} (hw1 : zb (V 42 10) 24) (hw2 : zb (V 42 4) 40) (hw3 : ∀ i_90 : Nat, i_90 < ((V 42 10)).toNatClampNeg → vp_in (V 51 i_90) 30) (hw4 : ∀ i_90 : Nat, i_90 < ((V 42 10)).toNatClampNeg → vp_in (V 39 (((V 51 i_90)).toNatClampNeg)) 20) (hw5 : ∀ i_90 : Nat, i_90 < ((V 42 10)).toNatClampNeg → vp_in (V 33 (((V 39 (((V 51 i_90)).toNatClampNeg))).toNatClampNeg)) 8) (hw6 : ∀ i_90 : Nat, i_90 < ((V 42 10)).toNatClampNeg → vp_in (V 50 i_90) 12) (hw7 : ∀ i_90 : Nat, i_90 < ((V 42 10)).toNatClampNeg → (((V 40 (((V 51 i_90)).toNatClampNeg)) - (V 40 (((V 51 i_90)).toNatClampNeg)) / (30 : Int32) * (30 : Int32)) < (8 : Int32)) → vp_in (V 43 (((V 50 i_90)).toNatClampNeg)) 8) (hw8 : ∀ i_90 : Nat, i_90 < ((V 42 10)).toNatClampNeg → (((V 40 (((V 51 i_90)).toNatClampNeg)) - (V 40 (((V 51 i_90)).toNatClampNeg)) / (30 : Int32) * (30 : Int32)) < (8 : Int32)) → vp_in (V 30 (((V 33 (((V 39 (((V 51 i_90)).toNatClampNeg))).toNatClampNeg))).toNatClampNeg)) 8) (hw9 : ∀ i_90 : Nat, i_90 < ((V 42 10)).toNatClampNeg → ¬ (((V 40 (((V 51 i_90)).toNatClampNeg)) - (V 40 (((V 51 i_90)).toNatClampNeg)) / (30 : Int32) * (30 : Int32)) < (8 : Int32)) → ((22 : Int32) < ((V 40 (((V 51 i_90)).toNatClampNeg)) - (V 40 (((V 51 i_90)).toNatClampNeg)) / (30 : Int32) * (30 : Int32))) → vp_in (V 43 (((V 50 i_90)).toNatClampNeg)) 8) (hw10 : ∀ i_90 : Nat, i_90 < ((V 42 10)).toNatClampNeg → ¬ (((V 40 (((V 51 i_90)).toNatClampNeg)) - (V 40 (((V 51 i_90)).toNatClampNeg)) / (30 : Int32) * (30 : Int32)) < (8 : Int32)) → ((22 : Int32) < ((V 40 (((V 51 i_90)).toNatClampNeg)) - (V 40 (((V 51 i_90)).toNatClampNeg)) / (30 : Int32) * (30 : Int32))) → vp_in (V 30 (((V 33 (((V 39 (((V 51 i_90)).toNatClampNeg))).toNatClampNeg))).toNatClampNeg)) 8) (hw11 : ∀ i_90 : Nat, i_90 < ((V 42 10)).toNatClampNeg → ¬ (((V 40 (((V 51 i_90)).toNatClampNeg)) - (V 40 (((V 51 i_90)).toNatClampNeg)) / (30 : Int32) * (30 : Int32)) < (8 : Int32)) → ¬ ((22 : Int32) < ((V 40 (((V 51 i_90)).toNatClampNeg)) - (V 40 (((V 51 i_90)).toNatClampNeg)) / (30 : Int32) * (30 : Int32))) → vp_in (V 43 (((V 50 i_90)).toNatClampNeg)) 8) (hw12 : ∀ i_90 : Nat, i_90 < ((V 42 10)).toNatClampNeg → ¬ (((V 40 (((V 51 i_90)).toNatClampNeg)) - (V 40 (((V 51 i_90)).toNatClampNeg)) / (30 : Int32) * (30 : Int32)) < (8 : Int32)) → ¬ ((22 : Int32) < ((V 40 (((V 51 i_90)).toNatClampNeg)) - (V 40 (((V 51 i_90)).toNatClampNeg)) / (30 : Int32) * (30 : Int32))) → vp_in (V 30 (((V 33 (((V 39 (((V 51 i_90)).toNatClampNeg))).toNatClampNeg))).toNatClampNeg)) 8) (hw13 : ∀ i_90 : Nat, i_90 < ((V 42 10)).toNatClampNeg → ∀ i_87 : Nat, i_87 < ((V 42 4)).toNatClampNeg → (((V 40 (((V 51 i_90)).toNatClampNeg)) - (V 40 (((V 51 i_90)).toNatClampNeg)) / (30 : Int32) * (30 : Int32)) < (8 : Int32)) → vp_in (V 45 i_87) 8) (hw14 : ∀ i_90 : Nat, i_90 < ((V 42 10)).toNatClampNeg → ∀ i_87 : Nat, i_87 < ((V 42 4)).toNatClampNeg → ¬ (((V 40 (((V 51 i_90)).toNatClampNeg)) - (V 40 (((V 51 i_90)).toNatClampNeg)) / (30 : Int32) * (30 : Int32)) < (8 : Int32)) → ((22 : Int32) < ((V 40 (((V 51 i_90)).toNatClampNeg)) - (V 40 (((V 51 i_90)).toNatClampNeg)) / (30 : Int32) * (30 : Int32))) → vp_in (V 45 i_87) 8) (hw15 : ∀ i_90 : Nat, i_90 < ((V 42 10)).toNatClampNeg → ∀ i_87 : Nat, i_87 < ((V 42 4)).toNatClampNeg → ¬ (((V 40 (((V 51 i_90)).toNatClampNeg)) - (V 40 (((V 51 i_90)).toNatClampNeg)) / (30 : Int32) * (30 : Int32)) < (8 : Int32)) → ¬ ((22 : Int32) < ((V 40 (((V 51 i_90)).toNatClampNeg)) - (V 40 (((V 51 i_90)).toNatClampNeg)) / (30 : Int32) * (30 : Int32))) → vp_in (V 45 i_87) 8) (h : K (some (.int (va_162 i1 V))) V) :
    ab_E G (ac_ST L xs) l (d + 6) ac_SK 162 [.ref 0, .int i1] V K := by
  rw [va_162] at h
  refine iv_162_0 ?_
  refine ⟨fun g1 => ?_, fun g1 => ?_⟩
  · simp only [if_pos g1] at h
    exact h
  · refine ⟨fun g2 => ?_, fun g2 => ?_⟩
    · simp only [if_neg g1, if_pos g2] at h
      exact h
    · refine sp_90 hw1 hw2 hw3 hw4 hw5 hw6 hw7 hw8 hw9 hw10 hw11 hw12 hw13 hw14 hw15 ?_
      dsimp only [aa_rI, aa_rL, aa_rV]
      simp only [if_neg g1, if_neg g2] at h
      exact h

def va_163 (i1 : Int32) (i2 : Int32) (i3 : Int32) (V : aa_V) : Int64 := (if i1 < (0 : Int32) then (-4611686018427387904 : Int64) else (if (5 : Int32) < i1 then (-4611686018427387904 : Int64) else (if i2 < (0 : Int32) then (-4611686018427387904 : Int64) else (if (1 : Int32) < i2 then (-4611686018427387904 : Int64) else (if i3 < (0 : Int32) then (-4611686018427387904 : Int64) else (if (V 0 13) < i3 then (-4611686018427387904 : Int64) else (if i2 = 0 then ((va_93 (va_91 i1 i3 V) V).toInt64) else ((va_93 ((va_91 i1 i3 V) &&& (va_90 i3 V)) V).toInt64))))))))
set_option maxRecDepth 20000 in
/-- FrameCounty paid -/
theorem sp_163 {G : ab_G} {L : Nat} {xs : Nat → Int32} {l : Launch} {d : Nat} {i1 : Int32} {i2 : Int32} {i3 : Int32} {V : aa_V} {K : aa_K} (hw1 : zb (V 42 10) 24) (hw2 : zb (V 42 4) 40) (hw3 : ∀ i_90 : Nat, i_90 < ((V 42 10)).toNatClampNeg → vp_in (V 51 i_90) 30) (hw4 : ∀ i_90 : Nat, i_90 < ((V 42 10)).toNatClampNeg → vp_in (V 39 (((V 51 i_90)).toNatClampNeg)) 20) (hw5 : ∀ i_90 : Nat, i_90 < ((V 42 10)).toNatClampNeg → vp_in (V 33 (((V 39 (((V 51 i_90)).toNatClampNeg))).toNatClampNeg)) 8) (hw6 : ∀ i_90 : Nat, i_90 < ((V 42 10)).toNatClampNeg → vp_in (V 50 i_90) 12) (hw7 : ∀ i_90 : Nat, i_90 < ((V 42 10)).toNatClampNeg → (((V 40 (((V 51 i_90)).toNatClampNeg)) - (V 40 (((V 51 i_90)).toNatClampNeg)) / (30 : Int32) * (30 : Int32)) < (8 : Int32)) → vp_in (V 43 (((V 50 i_90)).toNatClampNeg)) 8) (hw8 : ∀ i_90 : Nat, i_90 < ((V 42 10)).toNatClampNeg → (((V 40 (((V 51 i_90)).toNatClampNeg)) - (V 40 (((V 51 i_90)).toNatClampNeg)) / (30 : Int32) * (30 : Int32)) < (8 : Int32)) → vp_in (V 30 (((V 33 (((V 39 (((V 51 i_90)).toNatClampNeg))).toNatClampNeg))).toNatClampNeg)) 8) (hw9 : ∀ i_90 : Nat, i_90 < ((V 42 10)).toNatClampNeg → ¬ (((V 40 (((V 51 i_90)).toNatClampNeg)) - (V 40 (((V 51 i_90)).toNatClampNeg)) / (30 : Int32) * (30 : Int32)) < (8 : Int32)) → ((22 : Int32) < ((V 40 (((V 51 i_90)).toNatClampNeg)) - (V 40 (((V 51 i_90)).toNatClampNeg)) / (30 : Int32) * (30 : Int32))) → vp_in (V 43 (((V 50 i_90)).toNatClampNeg)) 8) (hw10 : ∀ i_90 : Nat, i_90 < ((V 42 10)).toNatClampNeg → ¬ (((V 40 (((V 51 i_90)).toNatClampNeg)) - (V 40 (((V 51 i_90)).toNatClampNeg)) / (30 : Int32) * (30 : Int32)) < (8 : Int32)) → ((22 : Int32) < ((V 40 (((V 51 i_90)).toNatClampNeg)) - (V 40 (((V 51 i_90)).toNatClampNeg)) / (30 : Int32) * (30 : Int32))) → vp_in (V 30 (((V 33 (((V 39 (((V 51 i_90)).toNatClampNeg))).toNatClampNeg))).toNatClampNeg)) 8) (hw11 : ∀ i_90 : Nat, i_90 < ((V 42 10)).toNatClampNeg → ¬ (((V 40 (((V 51 i_90)).toNatClampNeg)) - (V 40 (((V 51 i_90)).toNatClampNeg)) / (30 : Int32) * (30 : Int32)) < (8 : Int32)) → ¬ ((22 : Int32) < ((V 40 (((V 51 i_90)).toNatClampNeg)) - (V 40 (((V 51 i_90)).toNatClampNeg)) / (30 : Int32) * (30 : Int32))) → vp_in (V 43 (((V 50 i_90)).toNatClampNeg)) 8) (hw12 : ∀ i_90 : Nat, i_90 < ((V 42 10)).toNatClampNeg → ¬ (((V 40 (((V 51 i_90)).toNatClampNeg)) - (V 40 (((V 51 i_90)).toNatClampNeg)) / (30 : Int32) * (30 : Int32)) < (8 : Int32)) → ¬ ((22 : Int32) < ((V 40 (((V 51 i_90)).toNatClampNeg)) - (V 40 (((V 51 i_90)).toNatClampNeg)) / (30 : Int32) * (30 : Int32))) → vp_in (V 30 (((V 33 (((V 39 (((V 51 i_90)).toNatClampNeg))).toNatClampNeg))).toNatClampNeg)) 8) (hw13 : ∀ i_90 : Nat, i_90 < ((V 42 10)).toNatClampNeg → ∀ i_87 : Nat, i_87 < ((V 42 4)).toNatClampNeg → (((V 40 (((V 51 i_90)).toNatClampNeg)) - (V 40 (((V 51 i_90)).toNatClampNeg)) / (30 : Int32) * (30 : Int32)) < (8 : Int32)) → vp_in (V 45 i_87) 8) (hw14 : ∀ i_90 : Nat, i_90 < ((V 42 10)).toNatClampNeg → ∀ i_87 : Nat, i_87 < ((V 42 4)).toNatClampNeg → ¬ (((V 40 (((V 51 i_90)).toNatClampNeg)) - (V 40 (((V 51 i_90)).toNatClampNeg)) / (30 : Int32) * (30 : Int32)) < (8 : Int32)) → ((22 : Int32) < ((V 40 (((V 51 i_90)).toNatClampNeg)) - (V 40 (((V 51 i_90)).toNatClampNeg)) / (30 : Int32) * (30 : Int32))) → vp_in (V 45 i_87) 8) (hw15 : ∀ i_90 : Nat, i_90 < ((V 42 10)).toNatClampNeg → ∀ i_87 : Nat, i_87 < ((V 42 4)).toNatClampNeg → ¬ (((V 40 (((V 51 i_90)).toNatClampNeg)) - (V 40 (((V 51 i_90)).toNatClampNeg)) / (30 : Int32) * (30 : Int32)) < (8 : Int32)) → ¬ ((22 : Int32) < ((V 40 (((V 51 i_90)).toNatClampNeg)) - (V 40 (((V 51 i_90)).toNatClampNeg)) / (30 : Int32) * (30 : Int32))) → vp_in (V 45 i_87) 8) (h : K (some (.long (va_163 i1 i2 i3 V))) V) :
    ab_E G (ac_ST L xs) l (d + 6) ac_SK 163 [.ref 0, .int i1, .int i2, .int i3] V K := by
  rw [va_163] at h
  refine iv_163_0 ?_
  refine ⟨fun g1 => ?_, fun g1 => ?_⟩
  · simp only [if_pos g1] at h
    exact h
  · refine ⟨fun g2 => ?_, fun g2 => ?_⟩
    · simp only [if_neg g1, if_pos g2] at h
      exact h
    · refine ⟨fun g3 => ?_, fun g3 => ?_⟩
      · simp only [if_neg g1, if_neg g2, if_pos g3] at h
        exact h
      · refine ⟨fun g4 => ?_, fun g4 => ?_⟩
        · simp only [if_neg g1, if_neg g2, if_neg g3, if_pos g4] at h
          exact h
        · refine ⟨fun g5 => ?_, fun g5 => ?_⟩
          · simp only [if_neg g1, if_neg g2, if_neg g3, if_neg g4, if_pos g5] at h
            exact h
          · refine ⟨fun g6 => ?_, fun g6 => ?_⟩
            · simp only [if_neg g1, if_neg g2, if_neg g3, if_neg g4, if_neg g5, if_pos g6] at h
              exact h
            · refine sp_91 hw1 ?_
              dsimp only [aa_rI, aa_rL, aa_rV]
              refine ⟨fun g8 => ?_, fun g8 => ?_⟩
              · refine sp_93 hw1 ?_
                dsimp only [aa_rI, aa_rL, aa_rV]
                simp only [if_neg g1, if_neg g2, if_neg g3, if_neg g4, if_neg g5, if_neg g6, if_pos g8] at h
                exact h
              · refine sp_90 hw1 hw2 hw3 hw4 hw5 hw6 hw7 hw8 hw9 hw10 hw11 hw12 hw13 hw14 hw15 ?_
                dsimp only [aa_rI, aa_rL, aa_rV]
                refine sp_93 hw1 ?_
                dsimp only [aa_rI, aa_rL, aa_rV]
                simp only [if_neg g1, if_neg g2, if_neg g3, if_neg g4, if_neg g5, if_neg g6, if_neg g8] at h
                exact h

