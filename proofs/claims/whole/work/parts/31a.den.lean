/-! pure methods as functions -/
def vl_7_2 (i1 : Int32) (V : aa_V) (a0 : Unit) : Int32 := match fe (fun (i : Nat) (a : Unit) => ((if ((i1 >>> ((nI i) &&& 31)) &&& (1 : Int32)) = (1 : Int32) then (if ((V 63 i) &&& i1) = 0 then .inl () else .inr (0 : Int32)) else .inl ()) : Unit ⊕ Int32)) ((V 60 0)).toNatClampNeg a0 with
  | .inl a => (1 : Int32)
  | .inr b => b
set_option maxRecDepth 20000 in
/-- FrameCounty$Bargain goesTogether, the loop at 2 -/
theorem lo_7_2 {G : ab_G} {L : Nat} {xs : Nat → Int32} {l : Launch} {d : Nat} {i1 : Int32} {V : aa_V} {K : aa_K} {a0 : Unit} (hz : zb (V 60 0) 8) (h : aa_bit (vl_7_2 i1 V a0) → K (some (.int (vl_7_2 i1 V a0))) V) :
    ab_J G (ac_ST L xs) l (d + 1) 7 2 [some (.ref 60), some (.int i1), some (.int (0 : Int32))] [] ac_SK V ac_SK K := by
  obtain ⟨n, hn, hm⟩ : ∃ n : Nat, (V 60 0) = nI n ∧ n ≤ 8 := ⟨_, hz.1, hz.2⟩
  have hN : ((V 60 0)).toNatClampNeg = n := by rw [hn]; exact zz_ix (by omega)
  rw [vl_7_2] at h
  rw [hN] at h
  refine zz_fe (fun (i : Nat) (a : Unit) => ((if ((i1 >>> ((nI i) &&& 31)) &&& (1 : Int32)) = (1 : Int32) then (if ((V 63 i) &&& i1) = 0 then .inl () else .inr (0 : Int32)) else .inl ()) : Unit ⊕ Int32)) (fun i a => ab_J G (ac_ST L xs) l (d + 1) 7 2 [some (.ref 60), some (.int i1), some (.int (nI i))] [] ac_SK V ac_SK K) (fun b => aa_bit b → K (some (.int b)) V) n a0 ?_ ?_ ?_
  · intro a hfo
    rw [hfo] at h
    refine iv_7_2 ⟨fun q => absurd q (zz_ge hn), fun _ => ?_⟩
    exact h (Or.inr rfl)
  · intro i a hi hfe hnx hex
    have e : (nI i).toNatClampNeg = i := zz_ix (by omega)
    rw [nI_succ] at hnx
    refine iv_7_2 ⟨fun _ => ?_, fun q => absurd (zz_gl hn hi (by omega)) q⟩
    try simp only [e]
    refine ⟨fun c1 => ?_, fun c1 => ?_⟩
    · refine ⟨vp_in_nI (by omega) (by decide), ?_⟩
      refine ⟨fun c2 => ?_, fun c2 => ?_⟩
      · refine hnx _ ?_
        rw [if_pos c1, if_pos c2]
      · refine hex _ ?_ (Or.inl rfl)
        rw [if_pos c1, if_neg c2]
    · refine hnx _ ?_
      rw [if_neg c1]
  · intro b hb
    rw [hb] at h
    exact h

def va_7 (i1 : Int32) (V : aa_V) : Int32 := (vl_7_2 i1 V ())
set_option maxRecDepth 20000 in
/-- FrameCounty$Bargain goesTogether -/
theorem sp_7 {G : ab_G} {L : Nat} {xs : Nat → Int32} {l : Launch} {d : Nat} {i1 : Int32} {V : aa_V} {K : aa_K} (hw1 : zb (V 60 0) 8) (h : aa_bit (va_7 i1 V) → K (some (.int (va_7 i1 V))) V) :
    ab_E G (ac_ST L xs) l (d + 1) ac_SK 7 [.ref 60, .int i1] V K := by
  rw [va_7] at h
  refine iv_7_0 ?_
  exact lo_7_2 hw1 h
