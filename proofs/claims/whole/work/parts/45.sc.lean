/-! cells that hold nothing between the calls; far, road, canBe, suspects, falseWords, paid -/
def zsc (c : Nat) : Bool := c == 59 || c == 86 || c == 89 || c == 92 || c == 95 || c == 98 || c == 101 || c == 104 || c == 107 || c == 121 || c == 122 || c == 123 || c == 150
/-- W is V but for those cells -/
def sc (V W : aa_V) : Prop := ∀ c, zsc c = false → W c = V c
theorem sc_r {V : aa_V} : sc V V := fun _ _ => rfl
theorem sc_tr {V W X : aa_V} (h : sc V W) (g : sc W X) : sc V X := fun c hc => (g c hc).trans (h c hc)
theorem sc_on {V W X : aa_V} (h : sc V W) {a : Nat} (ha : zsc a = true) (hx : ∀ c, c ≠ a → X c = W c) : sc V X := fun c hc => (hx c (fun e => by rw [e, ha] at hc; cases hc)).trans (h c hc)
theorem sc_up {V W : aa_V} {a k : Nat} {x : Int32} (h : sc V W) (ha : zsc a = true) : sc V (aa_up W a k x) := sc_on h ha (fun _ hc => aa_up_c hc)
theorem zs_f {c : Nat} (h : c ≠ 59 ∧ c ≠ 86 ∧ c ≠ 89 ∧ c ≠ 92 ∧ c ≠ 95 ∧ c ≠ 98 ∧ c ≠ 101 ∧ c ≠ 104 ∧ c ≠ 107 ∧ c ≠ 121 ∧ c ≠ 122 ∧ c ≠ 123 ∧ c ≠ 150) : zsc c = false := by
  obtain ⟨h1, h2, h3, h4, h5, h6, h7, h8, h9, h10, h11, h12, h13⟩ := h
  simp [zsc, h1, h2, h3, h4, h5, h6, h7, h8, h9, h10, h11, h12, h13]
theorem nv_z {V W : aa_V} (hS : sc V W) (h : nv V) : nv W := by
  obtain ⟨hn, hr, hw, ha, hp, ho, hb, hk, hs, hf, ht⟩ := h
  have e0 := hS 0 rfl
  have e105 := hS 105 rfl
  refine ⟨?_, nv_rc (fun c h1 h2 => hS c (zs_f (by omega))) (hS 106 rfl) hr, ?_, ?_, ?_, ?_, ?_, nv_kc (fun c h1 h2 => hS c (zs_f (by omega))) (hS 146 rfl) (by rw [hS 64 rfl]) (by rw [e105]) hk, nv_sc (fun c h1 h2 => hS c (zs_f (by omega))) (hS 147 rfl) (hS 148 rfl) (hS 149 rfl) (hS 73 rfl) (hS 74 rfl) hs, ?_, nv_tc (fun t ht => ⟨hS _ (zs_f (by omega)), hS _ (zs_f (by omega))⟩) (hS 117 rfl) (hS 118 rfl) (hS 119 rfl) (hS 120 rfl) (by rw [e105]) (by rw [e105]) (by rw [e105]) (by rw [e0]) (by rw [e0]) ht⟩
  · unfold nv_n
    rw [e0, e105]
    exact hn
  · unfold nv_w
    rw [e105, hS 29 rfl, hS 30 rfl, hS 31 rfl, hS 32 rfl, hS 33 rfl, hS 34 rfl, hS 35 rfl, hS 36 rfl, hS 37 rfl, hS 108 rfl, hS 109 rfl, hS 110 rfl, hS 111 rfl, hS 112 rfl, hS 113 rfl, hS 114 rfl, hS 115 rfl]
    exact hw
  · unfold nv_a
    rw [e105, hS 38 rfl, hS 39 rfl, hS 40 rfl, hS 41 rfl, hS 124 rfl, hS 125 rfl, hS 126 rfl]
    exact ha
  · unfold nv_p
    rw [e105, hS 42 rfl, hS 43 rfl, hS 44 rfl, hS 45 rfl, hS 46 rfl, hS 47 rfl, hS 48 rfl, hS 49 rfl, hS 50 rfl, hS 51 rfl, hS 52 rfl, hS 53 rfl, hS 127 rfl, hS 128 rfl, hS 129 rfl, hS 130 rfl, hS 131 rfl, hS 132 rfl, hS 133 rfl, hS 134 rfl, hS 135 rfl, hS 136 rfl, hS 137 rfl]
    exact hp
  · unfold nv_o
    rw [e105, hS 54 rfl, hS 55 rfl, hS 56 rfl, hS 57 rfl, hS 58 rfl, hS 138 rfl, hS 139 rfl, hS 140 rfl, hS 141 rfl, hS 142 rfl]
    exact ho
  · unfold nv_b
    rw [e105, hS 60 rfl, hS 61 rfl, hS 62 rfl, hS 63 rfl, hS 143 rfl, hS 144 rfl, hS 145 rfl]
    exact hb
  · unfold nv_f
    rw [e105, hS 80 rfl, hS 81 rfl, hS 116 rfl]
    exact hf
-- far
theorem ix8v {i j : Nat} (hi : i ≤ 7) (hj : j ≤ 7) : (8 : Int32) * nI i + nI j = nI (8 * i + j) := (show ∀ i, i < 8 → ∀ j, j < 8 → (8 : Int32) * nI i + nI j = nI (8 * i + j) by decide +kernel) i (by omega) j (by omega)
theorem ix8 {a b : Int32} (ha : zb a 7) (hb : zb b 7) : vp_in ((8 : Int32) * a + b) 64 := by
  obtain ⟨i, rfl, hi⟩ := zb_i ha
  obtain ⟨j, rfl, hj⟩ := zb_i hb
  rw [ix8v hi hj]
  exact vp_in_nI (by omega) (by decide)
theorem sp_far {G : ab_G} {L : Nat} {xs : Nat → Int32} {l : Launch} {d : Nat} {n : Int32} {V W : aa_V} {K : aa_K} (hI : nv V) (hS : sc V W) (h : ∀ X, sc V X → (∀ a b : Int32, zb a 7 → zb b 7 → X 107 (((8 : Int32) * a) + b).toNatClampNeg = va_51 a b n V) → K none X) :
    ab_E G (ac_ST L xs) l (d + 2) ac_SK 197 [.ref 105, .int n] W K := by
  have hr := hI.2.1
  have e106 := hS 106 rfl
  refine sp_197 (by rw [e106]; exact hr.2.1) (fun X hX hf => h X (sc_on hS rfl hX) (fun a b ha hb => ?_))
  obtain ⟨i, rfl, hi⟩ := zb_i ha
  obtain ⟨j, rfl, hj⟩ := zb_i hb
  have ei : (nI i).toNatClampNeg = i := zz_ix (by omega)
  have ej : (nI j).toNatClampNeg = j := zz_ix (by omega)
  rw [ix8v hi hj, zz_ix (by omega), hf _ (by omega), e106]
  unfold va_51 qf_m
  rw [ei, ej]
  by_cases c1 : (n - n / (30 : Int32) * (30 : Int32)) < (8 : Int32)
  · rw [if_pos c1, if_pos c1]
    exact (hr.2.2.2 i j (by omega) (by omega)).symm
  · rw [if_neg c1, if_neg c1]
    by_cases c2 : (22 : Int32) < (n - n / (30 : Int32) * (30 : Int32))
    · rw [if_pos c2, if_pos c2]
      exact (hr.2.2.2 i j (by omega) (by omega)).symm
    · rw [if_neg c2, if_neg c2]
      exact (hr.2.2.1 i j (by omega) (by omega)).symm
theorem zl_22 : (22 : Int32).toInt = 22 := by decide
theorem zl_100 : (100 : Int32).toInt = 100 := by decide
theorem zl_9 : (9 : Int32).toInt = 9 := by decide
set_option maxRecDepth 20000 in
theorem cs_140 {G : ab_G} {L : Nat} {xs : Nat → Int32} {l : Launch} {d : Nat} {i1 i2 i3 : Int32} {V : aa_V} {Q : Int32 → Int32 → aa_V → Prop} (hI : nv V) (hQ : ∀ x W, nv W → Q x x W) :
    ab_E G (ac_ST L xs) l (d + 3) ac_SK 140 [.ref 0, .int i1, .int i2, .int i3] V (aa_rI fun x V1 => ab_E G (ac_ST L xs) l (d + 3) ac_SK 198 [.ref 105, .int i1, .int i2, .int i3] V1 (aa_rI fun y W => Q x y W)) := by
  refine sp_140 ?_ ?_ ?_ ?_ ?_ ?_ ?_
  iterate 6
    · intro g1 g2 g3 g4 g5 g6
      simp only [zz_lt, zl_0, zl_7, zl_399] at g1 g2 g3 g4 g5 g6
      intros
      refine vp_of_r ?_ ?_ <;> omega
  have key : va_140 i1 i2 i3 V = if (0 ≤ i1.toInt ∧ i1.toInt ≤ 7 ∧ 0 ≤ i2.toInt ∧ i2.toInt ≤ 7 ∧ 0 ≤ i3.toInt ∧ i3.toInt ≤ 399) then va_51 i1 i2 i3 V else -2 := by
    unfold va_140
    simp only [zz_lt, zl_0, zl_7, zl_399]
    repeat' split
    all_goals first | rfl | (exfalso; omega)
  have bad : ¬ (0 ≤ i1.toInt ∧ i1.toInt ≤ 7 ∧ 0 ≤ i2.toInt ∧ i2.toInt ≤ 7 ∧ 0 ≤ i3.toInt ∧ i3.toInt ≤ 399) → Q (va_140 i1 i2 i3 V) (-2) V := fun q => by
    rw [key, if_neg q]
    exact hQ _ _ hI
  dsimp only [aa_rI]
  refine iv_198_0 ⟨fun c => bad ?_, fun c => ⟨fun c2 => ⟨fun c3 => bad ?_, fun c3 => ⟨fun c4 => ⟨fun c5 => bad ?_, fun c5 => ⟨fun c6 => bad ?_, fun c6 => ?_⟩⟩, fun c4 => bad ?_⟩⟩, fun c2 => bad ?_⟩⟩
  all_goals simp only [zz_lt, zl_0, zl_8, zl_399] at *
  · omega
  · omega
  · omega
  · omega
  · have z1 : zb i1 7 := zb_of_r (by omega) (by omega) (by decide)
    have z2 : zb i2 7 := zb_of_r (by omega) (by omega) (by decide)
    refine sp_far hI sc_r (fun X hX hf => ?_)
    dsimp only [aa_rV]
    refine ⟨ix8 z1 z2, ?_⟩
    show Q _ _ X
    rw [hf i1 i2 z1 z2, key, if_pos (by omega)]
    exact hQ _ _ (nv_z hX hI)
  · omega
  · omega
-- who can have been where
theorem q52 {a b h n : Int32} {V : aa_V} (hh : zb h 11) : va_52 a b h n V = 0 ↔ h < va_51 a b n V := by
  have := zb_r hh (by decide)
  unfold va_52
  by_cases c1 : va_51 a b n V = (99 : Int32)
  · rw [if_pos c1, c1]
    simp only [zz_lt, zl_99]
    exact ⟨fun _ => by omega, fun _ => trivial⟩
  · rw [if_neg c1]
    by_cases c2 : h < va_51 a b n V
    · rw [if_pos c2]
      exact ⟨fun _ => c2, fun _ => rfl⟩
    · rw [if_neg c2]
      exact ⟨fun q => absurd q (by decide), fun q => absurd q c2⟩
theorem q_away {x y : Int32} (hx : zb x 11) (hy : zb y 11) : (x - y < 0 → (if 0 ≤ (x - y) then (x - y) else 0 - (x - y)) = -(x - y) ∧ zb (-(x - y)) 11) ∧ (¬ x - y < 0 → (if 0 ≤ (x - y) then (x - y) else 0 - (x - y)) = x - y ∧ zb (x - y) 11) := by
  obtain ⟨a, rfl, ha⟩ := zb_i hx
  obtain ⟨b, rfl, hb⟩ := zb_i hy
  unfold zb
  exact (show ∀ a, a < 12 → ∀ b, b < 12 → (nI a - nI b < 0 → (if 0 ≤ (nI a - nI b) then (nI a - nI b) else 0 - (nI a - nI b)) = -(nI a - nI b) ∧ (-(nI a - nI b) = nI (-(nI a - nI b)).toNatClampNeg ∧ (-(nI a - nI b)).toNatClampNeg ≤ 11)) ∧ (¬ nI a - nI b < 0 → (if 0 ≤ (nI a - nI b) then (nI a - nI b) else 0 - (nI a - nI b)) = nI a - nI b ∧ (nI a - nI b = nI (nI a - nI b).toNatClampNeg ∧ (nI a - nI b).toNatClampNeg ≤ 11)) by decide +kernel) a (by omega) b (by omega)
theorem q87b {i1 i2 i3 i4 i5 : Int32} {V : aa_V} : aa_bit (va_87 i1 i2 i3 i4 i5 V) := by
  unfold va_87 vl_87_25
  split
  · exact Or.inl rfl
  · split
    · exact Or.inr rfl
    · rename_i b hb
      refine fe_p (P := aa_bit) (fun i _ x b h => ?_) b hb
      revert h
      repeat' split
      all_goals intro h
      all_goals first | (cases h; done) | (injection h with h; rw [← h]; exact Or.inl rfl)
set_option maxRecDepth 20000 in
theorem sp_244 {G : ab_G} {L : Nat} {xs : Nat → Int32} {l : Launch} {d : Nat} {i1 i2 i3 i4 i5 : Int32} {V W : aa_V} {K : aa_K} (hI : nv V) (hS : sc V W) (h1 : zb i1 11) (h2 : zb i2 7) (h4 : zb i4 11) (h : ∀ X, sc V X → K (some (.int (va_87 i1 i2 i3 i4 i5 V))) X) :
    ab_E G (ac_ST L xs) l (d + 3) ac_SK 244 [.ref 105, .int i1, .int i2, .int i3, .int i4, .int i5] W K := by
  obtain ⟨⟨p1, p2, p3, p4, p5, p6⟩, ⟨p7, p8, p9, p10, p11, p12⟩, ⟨p13, p14, p15, p16, p17⟩, ⟨q1, q2, q3, q4, q5, q6⟩, q7, q8, q9, q10, q11⟩ := hI.2.2.2.2.1
  refine iv_244_0 ?_
  refine sp_far hI hS (fun X hX hf => ?_)
  dsimp only [aa_rV]
  have e127 : X 127 = V 43 := (hX 127 rfl).trans p7
  have e128 : X 128 = V 44 := (hX 128 rfl).trans p8
  have e129 : X 129 = V 45 := (hX 129 rfl).trans p9
  have e130 : X 130 = V 46 := (hX 130 rfl).trans p10
  have e131 : X 131 = V 47 := (hX 131 rfl).trans p11
  have e132 : X 132 = V 48 := (hX 132 rfl).trans p12
  have e105 : X 105 47 = V 42 4 := by rw [hX 105 rfl]; exact p3
  rw [e127]
  replace h := h X hX
  refine ⟨vpz h1 (by decide) (by decide), ix8 (q1 _) h2, fun c => ?_, fun c => ?_⟩
  · rw [hf _ _ (q1 _) h2] at c
    unfold va_87 at h
    rw [if_pos ((q52 h4).mpr c)] at h
    exact h
  · rw [hf _ _ (q1 _) h2] at c
    unfold va_87 vl_87_25 at h
    rw [if_neg (fun q => c ((q52 h4).mp q))] at h
    obtain ⟨n, hn, hm⟩ := zb_i p4
    have hN : (V 42 4).toNatClampNeg = n := by rw [hn]; exact zz_ix (by omega)
    rw [hN] at h
    rw [hn] at e105
    refine zz_fe (fun (i_87 : Nat) (a_87 : Unit) => ((if (V 44 i_87) = i1 then (if (V 46 i_87) = i3 then (if i5 < (V 48 i_87) then .inl () else (if (va_52 (V 45 i_87) i2 (if 0 ≤ (i4 - (V 47 i_87)) then (i4 - (V 47 i_87)) else 0 - (i4 - (V 47 i_87))) i3 V) = 0 then .inr (0 : Int32) else .inl ())) else .inl ()) else .inl ()) : Unit ⊕ Int32)) (fun i _ => ab_J G (ac_ST L xs) l (d + 3) 244 31 [some (.ref 105), some (.int i1), some (.int i2), some (.int i3), some (.int i4), some (.int i5), some (.int (nI i))] [] ac_SK X ac_SK K) (fun b => K (some (.int b)) X) n () ?_ ?_ ?_
    · intro a ha
      rw [ha] at h
      exact iv_244_31 ⟨fun q => absurd q (zz_ge e105), fun _ => h⟩
    · intro i a hi hfe hnx hex
      have e : (nI i).toNatClampNeg = i := zz_ix (by omega)
      have hgo : ∀ x, (fun (i_87 : Nat) (a_87 : Unit) => ((if (V 44 i_87) = i1 then (if (V 46 i_87) = i3 then (if i5 < (V 48 i_87) then .inl () else (if (va_52 (V 45 i_87) i2 (if 0 ≤ (i4 - (V 47 i_87)) then (i4 - (V 47 i_87)) else 0 - (i4 - (V 47 i_87))) i3 V) = 0 then .inr (0 : Int32) else .inl ())) else .inl ()) else .inl ()) : Unit ⊕ Int32)) i a = .inl x → ab_J G (ac_ST L xs) l (d + 3) 244 31 [some (.ref 105), some (.int i1), some (.int i2), some (.int i3), some (.int i4), some (.int i5), some (.int (nI i + 1))] [] ac_SK X ac_SK K := fun x p => by
        have := hnx x p
        rw [nI_succ] at this
        exact this
      have v40 : vp_in (nI i) 40 := vp_in_nI (by omega) (by decide)
      refine iv_244_31 ⟨fun _ => ?_, fun q => absurd (zz_gl e105 hi (by omega)) q⟩
      rw [e, e128, e129, e130, e131, e132]
      refine ⟨v40, fun c1 => ⟨v40, fun c2 => ⟨v40, fun c3 => ?_, fun c3 => ⟨v40, fun c4 => ⟨v40, ix8 (q3 _) h2, fun c5 => ?_, fun c5 => ?_⟩, fun c4 => ⟨v40, ix8 (q3 _) h2, fun c5 => ?_, fun c5 => ?_⟩⟩⟩, fun c2 => ?_⟩, fun c1 => ?_⟩
      · exact hgo () (by simp only [if_pos c1, if_pos c2, if_pos c3])
      · obtain ⟨k1, k2⟩ := (q_away h4 (q5 i)).1 c4
        rw [hf _ _ (q3 _) h2] at c5
        have k3 : va_52 (V 45 i) i2 (if 0 ≤ (i4 - (V 47 i)) then (i4 - (V 47 i)) else 0 - (i4 - (V 47 i))) i3 V = 0 := by
          rw [k1]
          exact (q52 k2).mpr c5
        exact hex 0 (by simp only [if_pos c1, if_pos c2, if_neg c3, if_pos k3])
      · obtain ⟨k1, k2⟩ := (q_away h4 (q5 i)).1 c4
        rw [hf _ _ (q3 _) h2] at c5
        have k3 : ¬ va_52 (V 45 i) i2 (if 0 ≤ (i4 - (V 47 i)) then (i4 - (V 47 i)) else 0 - (i4 - (V 47 i))) i3 V = 0 := by
          rw [k1]
          exact fun z => c5 ((q52 k2).mp z)
        exact hgo () (by simp only [if_pos c1, if_pos c2, if_neg c3, if_neg k3])
      · obtain ⟨k1, k2⟩ := (q_away h4 (q5 i)).2 c4
        rw [hf _ _ (q3 _) h2] at c5
        have k3 : va_52 (V 45 i) i2 (if 0 ≤ (i4 - (V 47 i)) then (i4 - (V 47 i)) else 0 - (i4 - (V 47 i))) i3 V = 0 := by
          rw [k1]
          exact (q52 k2).mpr c5
        exact hex 0 (by simp only [if_pos c1, if_pos c2, if_neg c3, if_pos k3])
      · obtain ⟨k1, k2⟩ := (q_away h4 (q5 i)).2 c4
        rw [hf _ _ (q3 _) h2] at c5
        have k3 : ¬ va_52 (V 45 i) i2 (if 0 ≤ (i4 - (V 47 i)) then (i4 - (V 47 i)) else 0 - (i4 - (V 47 i))) i3 V = 0 := by
          rw [k1]
          exact fun z => c5 ((q52 k2).mp z)
        exact hgo () (by simp only [if_pos c1, if_pos c2, if_neg c3, if_neg k3])
      · exact hgo () (by simp only [if_pos c1, if_neg c2])
      · exact hgo () (by simp only [if_neg c1])
    · intro b hb
      rw [hb] at h
      exact h
