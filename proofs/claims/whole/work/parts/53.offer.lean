/-! parties, offer -/
theorem bit0 {z : Int32} : (z &&& (1 : Int32)) = 0 ↔ ¬ (z &&& (1 : Int32)) = 1 := by
  constructor
  · intro h q
    rw [h] at q
    exact absurd q (by decide)
  · intro h
    exact sb_l0 (fun q => h (sb_l.mpr q))
theorem q51b {V : aa_V} (hI : nv V) {a b n : Int32} (ha : zb a 7) (hb : zb b 7) : zb (va_51 a b n V) 99 := by
  have hr := hI.2.1
  have h1 := ha.2
  have h2 := hb.2
  have g0 : zb (V (12 + a.toNatClampNeg) b.toNatClampNeg) 99 := by
    rw [hr.2.2.1 _ _ (by omega) (by omega)]
    exact qf_bb (Or.inl rfl) hr.2.1 _ (by omega)
  have g1 : zb (V (21 + a.toNatClampNeg) b.toNatClampNeg) 99 := by
    rw [hr.2.2.2 _ _ (by omega) (by omega)]
    exact qf_bb (Or.inr rfl) hr.2.1 _ (by omega)
  unfold va_51
  split
  · exact g1
  · split
    · exact g1
    · exact g0
theorem q265 {V X : aa_V} (hI : nv V) {a h n s : Int32} (ha : zb a 7) (hf : ∀ a b : Int32, zb a 7 → zb b 7 → X 107 (((8 : Int32) * a) + b).toNatClampNeg = va_51 a b n V) : va_265 a h s X = va_53 s a h n V := by
  have key : fe (fun (i_265 : Nat) (a_265 : Unit) => ((if ((s >>> ((nI i_265) &&& 31)) &&& (1 : Int32)) = (1 : Int32) then (if (X 107 (((((8 : Int32) * (nI i_265)) + a)).toNatClampNeg)) < (99 : Int32) then (if h < (X 107 (((((8 : Int32) * (nI i_265)) + a)).toNatClampNeg)) then .inl () else .inr (1 : Int32)) else .inl ()) else .inl ()) : Unit ⊕ Int32)) 8 () = fe (fun (i_53 : Nat) (a_53 : Unit) => ((if ((s >>> ((nI i_53) &&& 31)) &&& (1 : Int32)) = (1 : Int32) then (if (va_52 (nI i_53) a h n V) = 0 then .inl () else .inr (1 : Int32)) else .inl ()) : Unit ⊕ Int32)) 8 () := by
    refine fe_c (fun i hi x => ?_)
    have hz : zb (nI i) 7 := zb_n (by omega) (by decide)
    have hb := zb_r (q51b hI (n := n) hz ha) (by decide)
    rw [hf (nI i) a hz ha]
    unfold va_52
    by_cases c1 : ((s >>> ((nI i) &&& 31)) &&& (1 : Int32)) = (1 : Int32)
    · rw [if_pos c1, if_pos c1]
      by_cases c2 : va_51 (nI i) a n V = (99 : Int32)
      · rw [if_neg (by rw [c2]; decide), if_pos c2, if_pos rfl]
      · rw [if_pos (by simp only [zz_lt, zz_eq, zl_99] at c2 ⊢; omega), if_neg c2]
        by_cases c3 : h < va_51 (nI i) a n V
        · rw [if_pos c3, if_pos c3, if_pos rfl]
        · rw [if_neg c3, if_neg c3, if_neg (by decide)]
    · rw [if_neg c1, if_neg c1]
  unfold va_265 va_53 vl_265_3 vl_53_3
  rw [key]
  split <;> rename_i h <;> rw [h]
set_option maxRecDepth 20000 in
theorem cs_170 {G : ab_G} {L : Nat} {xs : Nat → Int32} {l : Launch} {d : Nat} {i1 i2 i3 i4 : Int32} {V : aa_V} {Q : Int32 → Int32 → aa_V → Prop} (hI : nv V) (hQ : ∀ x W, nv W → Q x x W) :
    ab_E G (ac_ST L xs) l (d + 5) ac_SK 170 [.ref 0, .int i1, .int i2, .int i3, .int i4] V (aa_rI fun x V1 => ab_E G (ac_ST L xs) l (d + 3) ac_SK 264 [.ref 105, .int i1, .int i2, .int i3, .int i4] V1 (aa_rI fun y W => Q x y W)) := by
  obtain ⟨⟨w1, w2, w3, w4⟩, ⟨w5, w6, w7, w8, w9, w10, w11, w12⟩, s1, s2, s3, s4, s5, s6, s7, s8⟩ := hI.2.2.1
  refine sp_170 w2 ?_ ?_ ?_ ?_ ?_ ?_ ?_
  · intros; exact vp_in_nI (by assumption) (by decide)
  · intros; exact vp_in_nI (by assumption) (by decide)
  · intros; exact vp_in_nI (by assumption) (by decide)
  · intros; exact vpz (s1 _) (by decide) (by decide)
  · intros; exact vpz (s1 _) (by decide) (by decide)
  · intros; exact vpz (s1 _) (by decide) (by decide)
  dsimp only [aa_rI]
  have key : va_170 i1 i2 i3 i4 V = if (0 ≤ i1.toInt ∧ i1.toInt ≤ 8 ∧ 0 ≤ i2.toInt ∧ i2.toInt ≤ 99 ∧ 0 ≤ i3.toInt ∧ i3.toInt ≤ 399 ∧ 0 ≤ i4.toInt ∧ i4.toInt ≤ 1) then vl_170_49 i1 i2 i3 i4 V ((-1 : Int32), (-1 : Int32)) else -2 := by
    unfold va_170
    by_cases hG : (0 ≤ i1.toInt ∧ i1.toInt ≤ 8 ∧ 0 ≤ i2.toInt ∧ i2.toInt ≤ 99 ∧ 0 ≤ i3.toInt ∧ i3.toInt ≤ 399 ∧ 0 ≤ i4.toInt ∧ i4.toInt ≤ 1)
    · rw [if_pos hG]
      refine itb (fun c => absurd c ?_) (fun _ => itb (fun c => absurd c ?_) (fun _ => itb (fun c => absurd c ?_) (fun _ => itb (fun c => absurd c ?_) (fun _ => itb (fun c => absurd c ?_) (fun _ => itb (fun c => absurd c ?_) (fun _ => itb (fun c => absurd c ?_) (fun _ => itb (fun c => absurd c ?_) (fun _ => rfl))))))))
      all_goals
        simp only [zz_lt, zl_0, zl_1, zl_8, zl_99, zl_399]
        omega
    · rw [if_neg hG]
      refine itb (fun _ => rfl) (fun c1 => itb (fun _ => rfl) (fun c2 => itb (fun _ => rfl) (fun c3 => itb (fun _ => rfl) (fun c4 => itb (fun _ => rfl) (fun c5 => itb (fun _ => rfl) (fun c6 => itb (fun _ => rfl) (fun c7 => itb (fun _ => rfl) (fun c8 => absurd ?_ hG))))))))
      simp only [zz_lt, zl_0, zl_1, zl_8, zl_99, zl_399] at c1 c2 c3 c4 c5 c6 c7 c8
      omega
  have bad : ¬ (0 ≤ i1.toInt ∧ i1.toInt ≤ 8 ∧ 0 ≤ i2.toInt ∧ i2.toInt ≤ 99 ∧ 0 ≤ i3.toInt ∧ i3.toInt ≤ 399 ∧ 0 ≤ i4.toInt ∧ i4.toInt ≤ 1) → Q (va_170 i1 i2 i3 i4 V) (-2) V := fun q => by
    rw [key, if_neg q]
    exact hQ _ _ hI
  refine iv_264_0 ⟨fun c1 => bad ?_, fun c1 => ⟨fun c2 => bad ?_, fun c2 => ⟨fun c3 => bad ?_, fun c3 => ⟨fun c4 => bad ?_, fun c4 => ⟨fun c5 => bad ?_, fun c5 => ⟨fun c6 => bad ?_, fun c6 => ⟨fun c7 => bad ?_, fun c7 => ⟨fun c8 => bad ?_, fun c8 => ?_⟩⟩⟩⟩⟩⟩⟩⟩
  · simp only [zz_lt, zl_0] at c1; omega
  · simp only [zz_lt, zl_8] at c2; omega
  · simp only [zz_lt, zl_0] at c3; omega
  · simp only [zz_lt, zl_99] at c4; omega
  · simp only [zz_lt, zl_0] at c5; omega
  · simp only [zz_lt, zl_399] at c6; omega
  · simp only [zz_lt, zl_0] at c7; omega
  · simp only [zz_lt, zl_1] at c8; omega
  simp only [zz_lt, zl_0, zl_1, zl_8, zl_99, zl_399] at c1 c2 c3 c4 c5 c6 c7 c8
  rw [if_pos (by omega)] at key
  refine sp_far hI sc_r (fun X hX hf => ?_)
  dsimp only [aa_rV]
  obtain ⟨n, hn, hm⟩ := zb_i w2
  have hN : (V 29 0).toNatClampNeg = n := by rw [hn]; exact zz_ix (by omega)
  have hIX := nv_z hX hI
  refine zz_up (σ := Int32 × Int32) (fun i s => ab_J G (ac_ST L xs) l (d + 3) 264 59 [some (.ref 105), some (.int i1), some (.int i2), none, some (.int i4), some (.int s.1), some (.int s.2), some (.int (nI i)), none, none] [] ac_SK X ac_SK (aa_rI fun y W => Q (va_170 i1 i2 i3 i4 V) y W)) (fun i s => s = fo (fun (i_170 : Nat) (a_170 : Int32 × Int32) => ((if (va_285 (nI i_170) V) = i1 then (if a_170.2 < (va_190 (nI i_170) i2 i3 V) then ((nI i_170), (va_190 (nI i_170) i2 i3 V)) else (a_170.1, a_170.2)) else (a_170.1, a_170.2)) : Int32 × Int32)) i ((-1 : Int32), (-1 : Int32))) 256 ?_ ?_ 0 ((-1 : Int32), (-1 : Int32)) (Nat.zero_le _) rfl
  · intro s hs
    refine iv_264_59 ⟨fun q => absurd q (show ¬ nI 256 < nI 256 from nI_nl (Nat.le_refl _) (by decide)), fun _ => ?_⟩
    unfold vl_170_49 at key
    dsimp only at key
    rw [← hs] at key
    refine ⟨fun c => ?_, fun c => ?_⟩
    · show Q _ _ X
      rw [key, if_pos c]
      exact hQ _ _ hIX
    · show Q _ _ X
      rw [key, if_neg c]
      exact hQ _ _ hIX
  · intro i s hi hs ih
    have ih' : ∀ a b, (a, b) = fo (fun (i_170 : Nat) (a_170 : Int32 × Int32) => ((if (va_285 (nI i_170) V) = i1 then (if a_170.2 < (va_190 (nI i_170) i2 i3 V) then ((nI i_170), (va_190 (nI i_170) i2 i3 V)) else (a_170.1, a_170.2)) else (a_170.1, a_170.2)) : Int32 × Int32)) (i + 1) ((-1 : Int32), (-1 : Int32)) → ab_J G (ac_ST L xs) l (d + 3) 264 59 [some (.ref 105), some (.int i1), some (.int i2), none, some (.int i4), some (.int a), some (.int b), some (.int (nI i + 1)), none, none] [] ac_SK X ac_SK (aa_rI fun y W => Q (va_170 i1 i2 i3 i4 V) y W) := fun a b hb => by
      have := ih (a, b) hb
      rw [nI_succ] at this
      exact this
    rw [fo_s, ← hs] at ih'
    refine iv_264_59 ⟨fun _ => ?_, fun q => absurd (show nI i < nI 256 from (zz_nlt (by omega) (by decide)).mpr hi) q⟩
    refine sp_261 ?_
    dsimp only [aa_rI]
    have ec : va_261 (nI i) X = va_285 (nI i) V := by rw [cnt_1, cnt_5 V (by omega)]
    rw [ec]
    refine ⟨fun c => ?_, fun c => ih' _ _ ?_⟩
    · simp only [if_pos c] at ih'
      refine zz_up (σ := Int32) (fun j a => ab_J G (ac_ST L xs) l (d + 3) 264 85 [some (.ref 105), some (.int i1), some (.int i2), none, some (.int i4), some (.int s.1), some (.int s.2), some (.int (nI i)), some (.int a), some (.int (nI j))] [] ac_SK X ac_SK (aa_rI fun y W => Q (va_170 i1 i2 i3 i4 V) y W)) (fun j a => a = fo (fun (i_190 : Nat) (a_190 : Int32) => ((if (va_53 (nI i) (V 30 i_190) i2 i3 V) = 0 then a_190 else (a_190 + 1)) : Int32)) j 0) n ?_ ?_ 0 (0 : Int32) (Nat.zero_le _) rfl
      · intro a ha
        have ea : va_190 (nI i) i2 i3 V = a := by
          unfold va_190 vl_190_6
          rw [hN]
          exact ha.symm
        rw [ea] at ih'
        refine iv_264_85 ⟨fun q => absurd q (zz_ge (by rw [hX 105 rfl, w1, hn])), fun _ => ⟨fun c9 => ih' _ _ ?_, fun c9 => ih' _ _ ?_⟩⟩
        · rw [if_pos c9]
        · rw [if_neg c9]
      · intro j a hj ha ih2
        have e : (nI j).toNatClampNeg = j := zz_ix (by omega)
        refine iv_264_85 ⟨fun _ => ⟨vp_in_nI (by omega) (by decide), ?_⟩, fun q => absurd (zz_gl (by rw [hX 105 rfl, w1, hn]) hj (by omega)) q⟩
        rw [e, hX 108 rfl, w5]
        have ih2' : ∀ b, b = fo (fun (i_190 : Nat) (a_190 : Int32) => ((if (va_53 (nI i) (V 30 i_190) i2 i3 V) = 0 then a_190 else (a_190 + 1)) : Int32)) (j + 1) 0 → ab_J G (ac_ST L xs) l (d + 3) 264 85 [some (.ref 105), some (.int i1), some (.int i2), none, some (.int i4), some (.int s.1), some (.int s.2), some (.int (nI i)), some (.int b), some (.int (nI j + 1))] [] ac_SK X ac_SK (aa_rI fun y W => Q (va_170 i1 i2 i3 i4 V) y W) := fun b hb => by
          have := ih2 b hb
          rw [nI_succ] at this
          exact this
        rw [fo_s, ← ha] at ih2'
        refine sp_265 (fun v hv => ix8 (zb_n (by omega) (by decide)) (s1 _)) (fun _ => ?_)
        dsimp only [aa_rI]
        rw [q265 hI (s1 j) hf]
        refine ⟨fun c9 => ih2' _ ?_, fun c9 => ih2' _ ?_⟩
        · rw [if_pos c9, Int32.add_zero]
        · rw [if_neg c9]
    · rw [if_neg c]
-- offer
theorem q8r {V : aa_V} {r : Nat} (hg : ∀ i, nv_g (V r i)) (hb : zb (V 60 0) 8) (s : Int32) : -800 ≤ (va_8 r s V).toInt ∧ (va_8 r s V).toInt ≤ 800 := by
  have h8 : (V 60 0).toNatClampNeg ≤ 8 := hb.2
  have key := fo_r (f := fun (i : Nat) (a : Int32) => if ((s >>> ((nI i) &&& 31)) &&& (1 : Int32)) = (1 : Int32) then a + V r i else a) (g := fun (_ : Nat) (u : Unit) => u) (R := fun k x _ => k ≤ 8 → (-99 * (k : Int) ≤ x.toInt ∧ x.toInt ≤ 99 * (k : Int))) (n := (V 60 0).toNatClampNeg) (a := 0) (a' := ()) (fun _ => by decide) (fun k hk x _ ih hk2 => by
    have h := ih (by omega)
    have g := hg k
    unfold nv_g at g
    split
    · rw [Int32.toInt_add, Int.bmod_eq_of_le] <;> omega
    · omega) h8
  unfold va_8
  omega
theorem q_dz {x y : Int32} (hx : -800 ≤ x.toInt ∧ x.toInt ≤ 800) (hy : -800 ≤ y.toInt ∧ y.toInt ≤ 800) : ((x - y) = 0 ↔ x = y) ∧ (0 < (x - y) ↔ y < x) := by
  have h : (x - y).toInt = x.toInt - y.toInt := by
    rw [Int32.toInt_sub]
    apply Int.bmod_eq_of_le <;> omega
  simp only [zz_lt, zz_eq, zl_0, h]
  omega
set_option maxRecDepth 20000 in
theorem cs_173 {G : ab_G} {L : Nat} {xs : Nat → Int32} {l : Launch} {d : Nat} {i1 i2 : Int32} {V : aa_V} {Q : Int32 → Int32 → aa_V → Prop} (hI : nv V) (hQ : ∀ x W, nv W → Q x x W) :
    ab_E G (ac_ST L xs) l (d + 4) ac_SK 173 [.ref 0, .int i1, .int i2] V (aa_rI fun x V1 => ab_E G (ac_ST L xs) l (d + 2) ac_SK 268 [.ref 105, .int i1, .int i2] V1 (aa_rI fun y W => Q x y W)) := by
  obtain ⟨⟨b1, b2⟩, ⟨b3, b4, b5⟩, b6, b7⟩ := hI.2.2.2.2.2.2.1
  obtain ⟨n, hn, hm⟩ := zb_i b2
  have hN : (V 60 0).toNatClampNeg = n := by rw [hn]; exact zz_ix (by omega)
  have h4 := two12 (show n ≤ 12 by omega)
  have e2n : ((1 : Int32) <<< ((V 60 0) &&& 31)) = nI (2 ^ n) := by rw [hn, nI_2n (by omega)]
  refine sp_173 (by rw [e2n]; exact zb_n (by omega) (by decide)) b2 rfl rfl ?_
  dsimp only [aa_rI]
  have zl_999m : (-999 : Int32).toInt = -999 := by decide
  have key : va_173 i1 i2 V = if (-999 ≤ i1.toInt ∧ i1.toInt ≤ 999 ∧ -999 ≤ i2.toInt ∧ i2.toInt ≤ 999) then va_5 i1 i2 V else -2 := by
    unfold va_173
    by_cases hG : (-999 ≤ i1.toInt ∧ i1.toInt ≤ 999 ∧ -999 ≤ i2.toInt ∧ i2.toInt ≤ 999)
    · rw [if_pos hG]
      refine itb (fun c => absurd c ?_) (fun _ => itb (fun c => absurd c ?_) (fun _ => itb (fun c => absurd c ?_) (fun _ => itb (fun c => absurd c ?_) (fun _ => rfl))))
      all_goals
        simp only [zz_lt, zl_999m, zl_999]
        omega
    · rw [if_neg hG]
      refine itb (fun _ => rfl) (fun c1 => itb (fun _ => rfl) (fun c2 => itb (fun _ => rfl) (fun c3 => itb (fun _ => rfl) (fun c4 => absurd ?_ hG))))
      simp only [zz_lt, zl_999m, zl_999] at c1 c2 c3 c4
      omega
  have bad : ¬ (-999 ≤ i1.toInt ∧ i1.toInt ≤ 999 ∧ -999 ≤ i2.toInt ∧ i2.toInt ≤ 999) → Q (va_173 i1 i2 V) (-2) V := fun q => by
    rw [key, if_neg q]
    exact hQ _ _ hI
  refine iv_268_0 ⟨fun c1 => bad ?_, fun c1 => ⟨fun c2 => bad ?_, fun c2 => ⟨fun c3 => bad ?_, fun c3 => ⟨fun c4 => bad ?_, fun c4 => ?_⟩⟩⟩⟩
  · simp only [zz_lt, zl_999m] at c1; omega
  · simp only [zz_lt, zl_999] at c2; omega
  · simp only [zz_lt, zl_999m] at c3; omega
  · simp only [zz_lt, zl_999] at c4; omega
  simp only [zz_lt, zl_999m, zl_999] at c1 c2 c3 c4
  rw [if_pos (by omega)] at key
  have e5 : va_5 i1 i2 V = fo (fun (i_5 : Nat) (a_5 : Int32) => ((if (va_7 (nI i_5) V) = 0 then a_5 else (if (va_8 61 (nI i_5) V) < i1 then a_5 else (if (va_8 62 (nI i_5) V) < i2 then a_5 else (if a_5 = (-1 : Int32) then (nI i_5) else (if (va_6 (nI i_5) a_5 V) = 0 then a_5 else (nI i_5)))))) : Int32)) (2 ^ n) (-1 : Int32) := by
    unfold va_5 vl_5_5
    rw [e2n, zz_ix (by omega)]
  rw [e5] at key
  have e58 : V 105 58 = nI n := by rw [b1, hn]
  refine zz_up (σ := Int32 × Int32 × Int32) (fun i s => ab_J G (ac_ST L xs) l (d + 2) 268 42 [some (.ref 105), some (.int i1), some (.int i2), some (.int s.1), some (.int s.2.1), some (.int s.2.2), some (.int (nI i)), none, none, none, none] [] ac_SK V ac_SK (aa_rI fun y W => Q (va_173 i1 i2 V) y W)) (fun i s => s.1 = fo (fun (i_5 : Nat) (a_5 : Int32) => ((if (va_7 (nI i_5) V) = 0 then a_5 else (if (va_8 61 (nI i_5) V) < i1 then a_5 else (if (va_8 62 (nI i_5) V) < i2 then a_5 else (if a_5 = (-1 : Int32) then (nI i_5) else (if (va_6 (nI i_5) a_5 V) = 0 then a_5 else (nI i_5)))))) : Int32)) i (-1 : Int32) ∧ (s.1 = -1 ∨ ∃ t, t < 2 ^ n ∧ s.1 = nI t ∧ s.2.1 = va_8 61 (nI t) V ∧ s.2.2 = va_8 62 (nI t) V)) (2 ^ n) ?_ ?_ 0 ((-1 : Int32), (0 : Int32), (0 : Int32)) (Nat.zero_le _) ⟨rfl, Or.inl rfl⟩
  · intro s hs
    refine iv_268_42 ⟨fun q => absurd q (by rw [b1, e2n]; exact nI_nl (Nat.le_refl _) (by omega)), fun _ => ?_⟩
    show Q _ _ V
    rw [key, ← hs.1]
    exact hQ _ _ hI
  · intro i s hi hs ih
    obtain ⟨a, bo, bm⟩ := s
    obtain ⟨h1, h2⟩ := hs
    dsimp only at h1 h2 ⊢
    have vi : (nI i).toNatClampNeg = i := zz_ix (by omega)
    have hfn : fo (fun (i_5 : Nat) (a_5 : Int32) => ((if (va_7 (nI i_5) V) = 0 then a_5 else (if (va_8 61 (nI i_5) V) < i1 then a_5 else (if (va_8 62 (nI i_5) V) < i2 then a_5 else (if a_5 = (-1 : Int32) then (nI i_5) else (if (va_6 (nI i_5) a_5 V) = 0 then a_5 else (nI i_5)))))) : Int32)) (i + 1) (-1 : Int32) = (if (va_7 (nI i) V) = 0 then a else (if (va_8 61 (nI i) V) < i1 then a else (if (va_8 62 (nI i) V) < i2 then a else (if a = (-1 : Int32) then (nI i) else (if (va_6 (nI i) a V) = 0 then a else (nI i)))))) := by
      rw [fo_s, ← h1]
    have keep : (if (va_7 (nI i) V) = 0 then a else (if (va_8 61 (nI i) V) < i1 then a else (if (va_8 62 (nI i) V) < i2 then a else (if a = (-1 : Int32) then (nI i) else (if (va_6 (nI i) a V) = 0 then a else (nI i)))))) = a → ab_J G (ac_ST L xs) l (d + 2) 268 42 [some (.ref 105), some (.int i1), some (.int i2), some (.int a), some (.int bo), some (.int bm), some (.int (nI i + 1)), none, none, none, none] [] ac_SK V ac_SK (aa_rI fun y W => Q (va_173 i1 i2 V) y W) := fun hb => by
      have := ih (a, bo, bm) ⟨by rw [hfn, hb], h2⟩
      rw [nI_succ] at this
      exact this
    have take : (if (va_7 (nI i) V) = 0 then a else (if (va_8 61 (nI i) V) < i1 then a else (if (va_8 62 (nI i) V) < i2 then a else (if a = (-1 : Int32) then (nI i) else (if (va_6 (nI i) a V) = 0 then a else (nI i)))))) = nI i → ab_J G (ac_ST L xs) l (d + 2) 268 42 [some (.ref 105), some (.int i1), some (.int i2), some (.int (nI i)), some (.int (va_8 61 (nI i) V)), some (.int (va_8 62 (nI i) V)), some (.int (nI i + 1)), none, none, none, none] [] ac_SK V ac_SK (aa_rI fun y W => Q (va_173 i1 i2 V) y W) := fun hb => by
      have := ih (nI i, va_8 61 (nI i) V, va_8 62 (nI i) V) ⟨by rw [hfn, hb], Or.inr ⟨i, hi, rfl, rfl, rfl⟩⟩
      rw [nI_succ] at this
      exact this
    have hcan : (va_7 (nI i) V = 1 ∧ ∀ k, k < n → (((nI i >>> ((nI k) &&& 31)) &&& (1 : Int32)) = (1 : Int32) → (V 63 k &&& nI i) = 0)) ∨ (va_7 (nI i) V = 0 ∧ ∃ k, k < n ∧ ¬ (((nI i >>> ((nI k) &&& 31)) &&& (1 : Int32)) = (1 : Int32) → (V 63 k &&& nI i) = 0)) := by
      unfold va_7 vl_7_2
      rw [hN]
      have kk := fe_all (β := Int32) (F := fun (i_7 : Nat) (a_7 : Unit) => ((if (((nI i) >>> ((nI i_7) &&& 31)) &&& (1 : Int32)) = (1 : Int32) then (if ((V 63 i_7) &&& (nI i)) = 0 then .inl () else .inr (0 : Int32)) else .inl ()) : Unit ⊕ Int32)) (P := fun k => (((nI i >>> ((nI k) &&& 31)) &&& (1 : Int32)) = (1 : Int32) → (V 63 k &&& nI i) = 0)) (b := (0 : Int32)) (n := n) (fun k hk => by
        by_cases c1 : ((nI i >>> ((nI k) &&& 31)) &&& (1 : Int32)) = (1 : Int32)
        · rw [if_pos c1]
          by_cases c2 : (V 63 k &&& nI i) = 0
          · rw [if_pos c2]
            exact ⟨fun _ => rfl, fun z => absurd (fun _ => c2) z⟩
          · rw [if_neg c2]
            exact ⟨fun z => absurd (z c1) c2, fun _ => rfl⟩
        · rw [if_neg c1]
          exact ⟨fun _ => rfl, fun z => absurd (fun y => absurd y c1) z⟩)
      rcases kk with ⟨k1, k2⟩ | ⟨k1, k2⟩
      · rw [k1]
        exact Or.inl ⟨rfl, k2⟩
      · rw [k1]
        exact Or.inr ⟨rfl, k2⟩
    refine iv_268_42 ⟨fun _ => ?_, fun q => absurd (by rw [b1, e2n]; exact (zz_nlt (by omega) (by omega)).mpr hi) q⟩
    refine zz_up (σ := Int32) (fun k c => ab_J G (ac_ST L xs) l (d + 2) 268 65 [some (.ref 105), some (.int i1), some (.int i2), some (.int a), some (.int bo), some (.int bm), some (.int (nI i)), some (.int (fo (fun (j : Nat) (a : Int32) => if (((nI i) >>> ((nI j) &&& 31)) &&& (1 : Int32)) = (1 : Int32) then a + V 61 j else a) k 0)), some (.int (fo (fun (j : Nat) (a : Int32) => if (((nI i) >>> ((nI j) &&& 31)) &&& (1 : Int32)) = (1 : Int32) then a + V 62 j else a) k 0)), some (.int c), some (.int (nI k))] [] ac_SK V ac_SK (aa_rI fun y W => Q (va_173 i1 i2 V) y W)) (fun k c => (c = 1 ∧ ∀ j, j < k → (((nI i >>> ((nI j) &&& 31)) &&& (1 : Int32)) = (1 : Int32) → (V 63 j &&& nI i) = 0)) ∨ (c = 0 ∧ ∃ j, j < k ∧ ¬ (((nI i >>> ((nI j) &&& 31)) &&& (1 : Int32)) = (1 : Int32) → (V 63 j &&& nI i) = 0))) n ?_ ?_ 0 (1 : Int32) (Nat.zero_le _) (Or.inl ⟨rfl, fun j hj => absurd hj (Nat.not_lt_zero _)⟩)
    · intro c hc
      have x61 : fo (fun (j : Nat) (a : Int32) => if (((nI i) >>> ((nI j) &&& 31)) &&& (1 : Int32)) = (1 : Int32) then a + V 61 j else a) n 0 = va_8 61 (nI i) V := by
        unfold va_8
        rw [hN]
      have x62 : fo (fun (j : Nat) (a : Int32) => if (((nI i) >>> ((nI j) &&& 31)) &&& (1 : Int32)) = (1 : Int32) then a + V 62 j else a) n 0 = va_8 62 (nI i) V := by
        unfold va_8
        rw [hN]
      rw [x61, x62]
      have r61 := q8r b6 b2 (nI i)
      have r62 := q8r b7 b2 (nI i)
      have ec : c = va_7 (nI i) V := by
        rcases hc with ⟨g1, g2⟩ | ⟨g1, k, g2, g3⟩
        · rcases hcan with ⟨g4, g5⟩ | ⟨g4, k, g5, g6⟩
          · rw [g1, g4]
          · exact absurd (g2 k g5) g6
        · rcases hcan with ⟨g4, g5⟩ | ⟨g4, g5⟩
          · exact absurd (g5 k g2) g3
          · rw [g1, g4]
      rw [ec]
      refine iv_268_65 ⟨fun q => absurd q (zz_ge e58), fun _ => ⟨fun d1 => keep (by rw [if_pos d1]), fun d1 => ⟨fun d2 => keep (by rw [if_neg d1, if_pos d2]), fun d2 => ⟨fun d3 => keep (by rw [if_neg d1, if_neg d2, if_pos d3]), fun d3 => ?_⟩⟩⟩⟩
      rw [if_neg d1, if_neg d2, if_neg d3] at keep take
      rcases h2 with h2 | ⟨t, t1, t2, t3, t4⟩
      · rw [if_pos h2] at take
        refine ⟨fun _ => take rfl, fun q => absurd (by rw [h2]; decide) q⟩
      · subst t2
        subst t3
        subst t4
        have q61 := q8r b6 b2 (nI t)
        have q62 := q8r b7 b2 (nI t)
        have ne : ¬ nI t = -1 := fun z => by
          rw [zz_eq, nI_toInt (by omega), zl_m1] at z
          omega
        rw [if_neg ne] at keep take
        have dm := q_dz r62 q62
        have dO := q_dz r61 q61
        have ci := cnt_le i
        have ct := cnt_le t
        have dc : (0 : Int32) < nI (cnt t) - nI (cnt i) ↔ cnt i < cnt t := by
          have : (nI (cnt t) - nI (cnt i)).toInt = (cnt t : Int) - cnt i := by
            rw [Int32.toInt_sub, nI_toInt (by omega), nI_toInt (by omega)]
            apply Int.bmod_eq_of_le <;> omega
          simp only [zz_lt, zl_0, this]
          omega
        have E1 : va_8 62 (nI t) V < va_8 62 (nI i) V → ¬ va_6 (nI i) (nI t) V = 0 := fun g1 => by
          unfold va_6
          rw [if_neg (fun z => by rw [dm.1.mp z] at g1; simp only [zz_lt] at g1; omega), if_pos (dm.2.mpr g1)]
          decide
        have E2 : va_8 62 (nI i) V = va_8 62 (nI t) V → va_8 61 (nI t) V < va_8 61 (nI i) V → ¬ va_6 (nI i) (nI t) V = 0 := fun g2 g3 => by
          unfold va_6
          rw [if_pos (dm.1.mpr g2), if_neg (fun z => by rw [dO.1.mp z] at g3; simp only [zz_lt] at g3; omega), if_pos (dO.2.mpr g3)]
          decide
        have E3 : va_8 62 (nI i) V = va_8 62 (nI t) V → va_8 61 (nI i) V = va_8 61 (nI t) V → (va_6 (nI i) (nI t) V = 0 ↔ ¬ cnt i < cnt t) := fun g2 g4 => by
          unfold va_6
          rw [if_pos (dm.1.mpr g2), if_pos (dO.1.mpr g4), cnt_5 V (by omega), cnt_5 V (by omega)]
          by_cases c : cnt i < cnt t
          · rw [if_pos (dc.mpr c)]
            exact ⟨fun z => absurd z (by decide), fun z => absurd c z⟩
          · rw [if_neg (fun z => c (dc.mp z))]
            exact ⟨fun _ => c, fun _ => rfl⟩
        have E4 : va_8 62 (nI i) V = va_8 62 (nI t) V → ¬ va_8 61 (nI i) V = va_8 61 (nI t) V → ¬ va_8 61 (nI t) V < va_8 61 (nI i) V → va_6 (nI i) (nI t) V = 0 := fun g2 g4 g3 => by
          unfold va_6
          rw [if_pos (dm.1.mpr g2), if_neg (fun z => g4 (dO.1.mp z)), if_neg (fun z => g3 (dO.2.mp z))]
        have E5 : ¬ va_8 62 (nI i) V = va_8 62 (nI t) V → ¬ va_8 62 (nI t) V < va_8 62 (nI i) V → va_6 (nI i) (nI t) V = 0 := fun g2 g1 => by
          unfold va_6
          rw [if_neg (fun z => g2 (dm.1.mp z)), if_neg (fun z => g1 (dm.2.mp z))]
        refine ⟨fun q => absurd q (nI_n0 (by omega)), fun _ => ⟨fun g1 => take (if_neg (E1 g1)), fun g1 => ⟨fun g2 => ⟨fun g3 => take (if_neg (E2 g2 g3)), fun g3 => ⟨fun g4 => ?_, fun g4 => keep (if_pos (E4 g2 g4 g3))⟩⟩, fun g2 => keep (if_pos (E5 g2 g1))⟩⟩⟩
        refine sp_261 ?_
        dsimp only [aa_rI]
        refine sp_261 ?_
        dsimp only [aa_rI]
        rw [cnt_1, cnt_1]
        exact ⟨fun g5 => take (if_neg (fun z => (E3 g2 g4).mp z ((zz_nlt (by omega) (by omega)).mp g5))), fun g5 => keep (if_pos ((E3 g2 g4).mpr (fun z => g5 ((zz_nlt (by omega) (by omega)).mpr z))))⟩
    · intro k c hk hc ih2
      have vk : (nI k).toNatClampNeg = k := zz_ix (by omega)
      have v8 : vp_in (nI k) 8 := vp_in_nI (by omega) (by decide)
      rw [fo_s, fo_s, nI_succ] at ih2
      refine iv_268_65 ⟨fun _ => ?_, fun q => absurd (zz_gl e58 hk (by omega)) q⟩
      rw [vk, b3, b4, b5]
      refine ⟨fun d1 => ?_, fun d1 => ⟨v8, v8, fun d2 => ?_, fun d2 => ⟨v8, fun d3 => ?_, fun d3 => ?_⟩⟩⟩
      · have d1' := bit0.mp d1
        simp only [if_neg d1'] at ih2
        refine ih2 c (hc.elim (fun z => Or.inl ⟨z.1, fun j hj => ?_⟩) (fun z => Or.inr ⟨z.1, z.2.elim (fun j y => ⟨j, by omega, y.2⟩)⟩))
        rcases Nat.lt_or_ge j k with r | r
        · exact z.2 j r
        · rw [show j = k by omega]
          exact fun y => absurd y d1'
      · have d1' : ((nI i >>> ((nI k) &&& 31)) &&& (1 : Int32)) = (1 : Int32) := Classical.byContradiction fun z => d1 (bit0.mpr z)
        simp only [if_pos d1'] at ih2
        refine ih2 0 (hc.elim (fun z => absurd (z.1.symm.trans d2) (by decide)) (fun z => Or.inr ⟨rfl, z.2.elim (fun j y => ⟨j, by omega, y.2⟩)⟩))
      · have d1' : ((nI i >>> ((nI k) &&& 31)) &&& (1 : Int32)) = (1 : Int32) := Classical.byContradiction fun z => d1 (bit0.mpr z)
        simp only [if_pos d1'] at ih2
        refine ih2 1 (hc.elim (fun z => Or.inl ⟨rfl, fun j hj => ?_⟩) (fun z => absurd z.1 d2))
        rcases Nat.lt_or_ge j k with r | r
        · exact z.2 j r
        · rw [show j = k by omega]
          exact fun _ => d3
      · have d1' : ((nI i >>> ((nI k) &&& 31)) &&& (1 : Int32)) = (1 : Int32) := Classical.byContradiction fun z => d1 (bit0.mpr z)
        simp only [if_pos d1'] at ih2
        exact ih2 0 (Or.inr ⟨rfl, k, by omega, fun z => d3 (z d1')⟩)
