/-! the reference reads a token: all kinds -/
theorem tm_kb {k : Int32} (h : k.toInt < 128) : tm_k k = if k = 40 ∨ k = 41 ∨ k = 59 ∨ k = 43 ∨ k = 45 ∨ k = 42 ∨ k = 60 ∨ k = 61 then k else -1 := by
  have ne : ∀ x : Int32, 128 ≤ x.toInt → k ≠ x := fun x hx q => by rw [q] at h; omega
  unfold tm_k
  rw [if_neg (ne 256 (by decide)), if_neg (ne 258 (by decide)), if_neg (fun q => q.1 (by rw [zz_lt, show (300 : Int32).toInt = 300 by decide]; omega)), if_neg (ne 308 (by decide)), if_neg (ne 309 (by decide)), if_neg (ne 310 (by decide)), if_neg (ne 306 (by decide)), if_neg (ne 307 (by decide))]
/-- off what reading a token writes -/
def tm_e (V W : aa_V) : Prop := (∀ c, c ≠ 105 → W c = V c) ∧ ∀ a, a ≠ 22 → a ≠ 26 → a ≠ 27 → a ≠ 28 → W 105 a = V 105 a
theorem tm_eu {V W : aa_V} (h : tm_e V W) {a : Nat} {x : Int32} (ha : a = 22 ∨ a = 26 ∨ a = 27 ∨ a = 28) : tm_e V (aa_up W 105 a x) := by
  refine ⟨fun c hc => ?_, fun b b1 b2 b3 b4 => ?_⟩
  · rw [aa_up_c hc]; exact h.1 c hc
  · rw [aa_up_o (by omega)]; exact h.2 b b1 b2 b3 b4
theorem tm_217 {G : ab_G} {L : Nat} {xs : Nat → Int32} {l : Launch} {d s p f e : Nat} {k num : Int32} {y : Nat → Int32} {V : aa_V} {K : aa_K} (hs0 : s ≤ 160) (h22 : V 105 22 = nI p) (h19 : V 105 19 = nI s) (hxy : ∀ j, j < s → y j = (V 116 j).toInt8.toInt32 ∧ zb (V 116 j) 255) (ht : tz y s p f e k num) (h : ∀ W, tm_e V W → W 105 27 = nI f → W 105 26 = tm_k k → (tm_k k ≠ -1 → W 105 22 = nI e) → (k = 258 → W 105 28 = num) → (¬ k < 300 → ¬ 305 < k → W 105 28 = k - 300) → K none W) : ab_E G (ac_ST L xs) l (d + 3) ac_SK 217 [.ref 105] V K := by
  obtain ⟨hpf, hfs, hbl, ht⟩ := ht
  have cv : ∀ j, j < s → (tz_b (y j) ↔ tz_b (V 116 j)) ∧ (tz_l (y j) ↔ tz_l (V 116 j)) ∧ (tz_d (y j) ↔ tz_d (V 116 j)) ∧ (y j = V 116 j ∨ (¬ (V 116 j).toInt < 128 ∧ (y j).toInt < 0)) := fun j hj => by
    obtain ⟨n, hn, hn2⟩ := zb_i (hxy j hj).2
    have := tm_y n (by omega)
    rw [(hxy j hj).1, hn]
    refine ⟨this.1, this.2.1, this.2.2.1, this.2.2.2.1.imp_right (fun q => ⟨?_, q.2⟩)⟩
    rw [nI_toInt (by omega)]
    omega
  have ld : ∀ j, j < s → tz_l (y j) ∨ tz_d (y j) → y j = V 116 j := fun j hj q => by
    rcases (cv j hj).2.2.2 with z | z
    · exact z
    · rcases q with q | q
      · refine absurd ?_ q.1
        rw [zz_lt, show (97 : Int32).toInt = 97 by decide]; omega
      · refine absurd ?_ q.1
        rw [zz_lt, show (48 : Int32).toInt = 48 by decide]; omega
  have main : ∀ W, tm_e V W → W 105 22 = nI f → ab_J G (ac_ST L xs) l (d + 3) 217 52 [some (.ref 105), none] [] ac_SK W ac_SK K := by
    intro W hW w22
    have w19 : W 105 19 = nI s := by rw [hW.2 19 (by decide) (by decide) (by decide) (by decide)]; exact h19
    have w116 : W 116 = V 116 := hW.1 116 (by decide)
    rcases Nat.lt_or_ge f s with c | c
    · have cc : ¬ nI f = nI s := fun q => by have := (nI_k (by omega) (by omega)).mp q; omega
      have hZ : tm_e V (aa_up (aa_up (aa_up W 105 27 (nI f)) 105 26 (-1)) 105 28 0) := tm_eu (tm_eu (tm_eu hW (by omega)) (by omega)) (by omega)
      have z27 : aa_up (aa_up (aa_up W 105 27 (nI f)) 105 26 (-1)) 105 28 0 105 27 = nI f := by rw [aa_up_o (by decide), aa_up_o (by decide), aa_up_s]
      have z26 : aa_up (aa_up (aa_up W 105 27 (nI f)) 105 26 (-1)) 105 28 0 105 26 = -1 := by rw [aa_up_o (by decide), aa_up_s]
      have z22 : aa_up (aa_up (aa_up W 105 27 (nI f)) 105 26 (-1)) 105 28 0 105 22 = nI f := by rw [aa_up_o (by decide), aa_up_o (by decide), aa_up_o (by decide)]; exact w22
      have z28 : aa_up (aa_up (aa_up W 105 27 (nI f)) 105 26 (-1)) 105 28 0 105 28 = 0 := aa_up_s
      have h327 : (V 116 f = 40 ∨ V 116 f = 41 ∨ V 116 f = 59 ∨ V 116 f = 43 ∨ V 116 f = 45 ∨ V 116 f = 42 ∨ V 116 f = 60 ∨ V 116 f = 61) → ab_J G (ac_ST L xs) l (d + 3) 217 327 [some (.ref 105), some (.int (V 116 f))] [] ac_SK (aa_up (aa_up (aa_up W 105 27 (nI f)) 105 26 (-1)) 105 28 0) ac_SK K := by
        intro hx
        have hy : y f = V 116 f := by
          rcases (cv f c).2.2.2 with z | z
          · exact z
          · refine absurd ?_ z.1
            rcases hx with q | q | q | q | q | q | q | q <;> rw [q] <;> decide
        have nl : ¬ tz_b (y f) ∧ ¬ tz_l (y f) ∧ ¬ tz_d (y f) ∧ (y f).toInt < 128 := by
          rw [hy]
          rcases hx with q | q | q | q | q | q | q | q <;> rw [q] <;> decide
        rcases ht with q | q | q | q
        · omega
        · exact absurd q.2.1 nl.2.1
        · exact absurd q.2.1 nl.2.2.1
        · obtain ⟨_, _, _, _, q1, q2, q3, q4⟩ := q
          refine iv_217_327 (iv_217_342 ?_)
          rw [z22, show nI f + (1 : Int32) = nI (f + 1) by rw [nI_succ]]
          have hk : tm_k k = V 116 f := by
            rw [q2, hy]
            rcases hx with q | q | q | q | q | q | q | q <;> rw [q] <;> decide
          refine h _ (tm_eu (tm_eu hZ (by omega)) (by omega)) ?_ ?_ (fun _ => ?_) (fun z => ?_) (fun z => absurd ?_ z)
          · rw [aa_up_o (by decide), aa_up_o (by decide)]; exact z27
          · rw [aa_up_o (by decide), aa_up_s, hk]
          · rw [aa_up_s, q1]
          · rw [z] at q4; exact absurd q4 (by decide)
          · rw [zz_lt, show (300 : Int32).toInt = 300 by decide]; omega
      have h342 : ¬ (V 116 f = 40 ∨ V 116 f = 41 ∨ V 116 f = 59 ∨ V 116 f = 43 ∨ V 116 f = 45 ∨ V 116 f = 42 ∨ V 116 f = 60 ∨ V 116 f = 61) → ¬ tz_l (V 116 f) → ¬ tz_d (V 116 f) → ab_J G (ac_ST L xs) l (d + 3) 217 342 [none, none] [] ac_SK (aa_up (aa_up (aa_up W 105 27 (nI f)) 105 26 (-1)) 105 28 0) ac_SK K := by
        intro hx n1 n2
        rcases ht with q | q | q | q
        · omega
        · exact absurd ((cv f c).2.1.mp q.2.1) n1
        · exact absurd ((cv f c).2.2.1.mp q.2.1) n2
        · obtain ⟨_, _, _, _, q1, q2, q3, q4⟩ := q
          have hk : tm_k k = -1 := by
            rw [tm_kb q4, if_neg ?_]
            intro z
            refine hx ?_
            rcases (cv f c).2.2.2 with y1 | y1
            · rw [q2, y1] at z; exact z
            · rw [← q2] at y1
              rcases z with z | z | z | z | z | z | z | z <;> rw [z] at y1 <;> exact absurd y1.2 (by decide)
          refine iv_217_342 (h _ hZ z27 (by rw [hk]; exact z26) (fun z => absurd hk z) (fun z => ?_) (fun z => absurd ?_ z))
          · rw [z] at q4; exact absurd q4 (by decide)
          · rw [zz_lt, show (300 : Int32).toInt = 300 by decide]; omega
      have h229 : tz_l (V 116 f) → ab_J G (ac_ST L xs) l (d + 3) 217 229 [some (.ref 105), none] [] ac_SK (aa_up (aa_up (aa_up W 105 27 (nI f)) 105 26 (-1)) 105 28 0) ac_SK K := by
        intro hx
        have yl := (cv f c).2.1.mpr hx
        rcases ht with q | q | q | q
        · omega
        · obtain ⟨_, _, q1, q2, q3, q4, q5, q6⟩ := q
          have lp : ∀ m j X, e - j ≤ m → f ≤ j → j ≤ e → tm_e V X → X 105 27 = nI f → X 105 22 = nI j → ab_J G (ac_ST L xs) l (d + 3) 217 229 [some (.ref 105), none] [] ac_SK X ac_SK K := by
            intro m
            induction m with
            | zero =>
              intro j X hm hj1 hj2 hX x27 x22
              have je : j = e := by omega
              subst je
              have x19 : X 105 19 = nI s := by rw [hX.2 19 (by decide) (by decide) (by decide) (by decide)]; exact h19
              have x116 : X 116 = V 116 := hX.1 116 (by decide)
              have fin : ab_J G (ac_ST L xs) l (d + 3) 217 268 [some (.ref 105), none] [] ac_SK X ac_SK K := by
                have mm : ∀ w, w < 11 → (tz_m (X 116) f j w ↔ tz_m y f j w) := fun w hw => by
                  rw [x116]
                  refine and_congr_right (fun ee => ⟨fun z k' hk' => ?_, fun z k' hk' => ?_⟩)
                  · rw [ld _ (by omega) (Or.inl (q3 _ (by omega) (by omega)))]; exact z k' hk'
                  · rw [← ld _ (by omega) (Or.inl (q3 _ (by omega) (by omega)))]; exact z k' hk'
                refine iv_217_268 (tm_218 (d := d) x22 x27 hj1 (by omega) (fun w n hw hm hn => ?_) (fun n hn => ?_))
                · have hm := (mm w hw).mp hm
                  have hk : k = nI (300 + w) := by
                    rcases q5 with ⟨w', hw', hm', ek⟩ | ⟨no, _⟩
                    · rw [ek, tz_mu hw hw' hm hm']
                    · exact absurd hm (no w hw)
                  refine iv_217_342 (h _ (tm_eu (tm_eu hX (by omega)) (by omega)) ?_ ?_ (fun _ => ?_) (fun z => ?_) (fun z z2 => ?_))
                  · rw [aa_up_o (by decide), aa_up_o (by decide)]; exact x27
                  · rw [aa_up_s, hk, tm_kw w hw]
                  · rw [aa_up_o (by decide), aa_up_o (by decide)]; exact x22
                  · rw [hk] at z
                    exact absurd ((nI_k (m := 258) (by omega) (by omega)).mp z) (by omega)
                  · have w6 : w < 6 := by
                      rw [hk, show (305 : Int32) = nI 305 from rfl, zz_nlt (by omega) (by omega)] at z2
                      omega
                    rw [aa_up_o (by decide), aa_up_s, hn w6, hk, show (300 : Int32) = nI 300 from rfl, nI_minus (by omega), show 300 + w - 300 = w by omega]
                · have hk : k = 257 := by
                    rcases q5 with ⟨w', hw', hm', ek⟩ | ⟨_, ek⟩
                    · exact absurd ((mm w' hw').mpr hm') (hn w' hw')
                    · exact ek
                  refine iv_217_342 (h _ (tm_eu (tm_eu hX (by omega)) (by omega)) ?_ ?_ (fun z => absurd ?_ z) (fun z => ?_) (fun z => absurd ?_ z))
                  · rw [aa_up_o (by decide), aa_up_o (by decide)]; exact x27
                  · rw [aa_up_s, hk]; decide
                  · rw [hk]; decide
                  · rw [hk] at z; exact absurd z (by decide)
                  · rw [hk]; decide
              refine iv_217_229 ⟨fun z => ?_, fun _ => fin⟩
              rw [x22, x19, zz_nlt (by omega) (by omega)] at z
              rw [x22, zz_ix (by omega), x116]
              refine ⟨vp_in_nI (by omega) (by omega), fun _ => fin, fun z1 => ⟨fun _ => fin, fun z2 => ?_⟩⟩
              exact absurd ((cv j z).2.1.mpr ⟨z1, z2⟩) (q4 z)
            | succ m ih =>
              intro j X hm hj1 hj2 hX x27 x22
              by_cases je : j = e
              · exact ih j X (by omega) hj1 hj2 hX x27 x22
              · have x19 : X 105 19 = nI s := by rw [hX.2 19 (by decide) (by decide) (by decide) (by decide)]; exact h19
                have x116 : X 116 = V 116 := hX.1 116 (by decide)
                have xl := (cv j (by omega)).2.1.mp (q3 j hj1 (by omega))
                refine iv_217_229 ⟨fun z => ?_, fun z => absurd ?_ z⟩
                · rw [x22, zz_ix (by omega), x116, show nI j + (1 : Int32) = nI (j + 1) by rw [nI_succ]]
                  refine ⟨vp_in_nI (by omega) (by omega), fun z => absurd z xl.1, fun _ => ⟨fun z => absurd z xl.2, fun _ => ?_⟩⟩
                  exact ih (j + 1) _ (by omega) (by omega) (by omega) (tm_eu hX (by omega)) (by rw [aa_up_o (by decide)]; exact x27) aa_up_s
                · rw [x22, x19, zz_nlt (by omega) (by omega)]; omega
          exact lp _ f _ (Nat.le_refl _) (Nat.le_refl _) (by omega) hZ z27 z22
        · exact absurd yl (tz_ndl q.2.1)
        · exact absurd yl q.2.2.1
      have h114 : tz_d (V 116 f) → ab_J G (ac_ST L xs) l (d + 3) 217 114 [some (.ref 105), none] [] ac_SK (aa_up (aa_up (aa_up W 105 27 (nI f)) 105 26 (-1)) 105 28 0) ac_SK K := by
        intro hx
        have yl := (cv f c).2.2.1.mpr hx
        rcases ht with q | q | q | q
        · omega
        · exact absurd q.2.1 (tz_ndl yl)
        · obtain ⟨_, _, q1, q2, q3, q4, q5⟩ := q
          have lp : ∀ m j X, e - j ≤ m → f ≤ j → j ≤ e → tm_e V X → X 105 27 = nI f → X 105 22 = nI j → (j ≤ f + 4 → X 105 28 = tz_v y f (j - f)) → ab_J G (ac_ST L xs) l (d + 3) 217 114 [some (.ref 105), none] [] ac_SK X ac_SK K := by
            intro m
            induction m with
            | zero =>
              intro j X hm hj1 hj2 hX x27 x22 x28
              have je : j = e := by omega
              subst je
              have x19 : X 105 19 = nI s := by rw [hX.2 19 (by decide) (by decide) (by decide) (by decide)]; exact h19
              have x116 : X 116 = V 116 := hX.1 116 (by decide)
              have fin : ab_J G (ac_ST L xs) l (d + 3) 217 197 [some (.ref 105), none] [] ac_SK X ac_SK K := by
                refine iv_217_197 ⟨fun z => ?_, fun z => ?_⟩
                · rw [x22, x27, nI_minus hj1, show (4 : Int32) = nI 4 from rfl, zz_nlt (by omega) (by omega)] at z
                  have hk : k = 257 := by
                    rcases q5 with y1 | y1
                    · omega
                    · exact y1.2.1
                  refine iv_217_342 (h _ (tm_eu hX (by omega)) ?_ ?_ (fun z => absurd ?_ z) (fun z => ?_) (fun z => absurd ?_ z))
                  · rw [aa_up_o (by decide)]; exact x27
                  · rw [aa_up_s, hk]; decide
                  · rw [hk]; decide
                  · rw [hk] at z; exact absurd z (by decide)
                  · rw [hk]; decide
                · rw [x22, x27, nI_minus hj1, show (4 : Int32) = nI 4 from rfl, zz_nlt (by omega) (by omega)] at z
                  have hk : k = 258 ∧ num = tz_v y f (j - f) := by
                    rcases q5 with y1 | y1
                    · exact y1.2
                    · omega
                  refine iv_217_342 (h _ (tm_eu hX (by omega)) ?_ ?_ (fun _ => ?_) (fun _ => ?_) (fun z => absurd ?_ z))
                  · rw [aa_up_o (by decide)]; exact x27
                  · rw [aa_up_s, hk.1]; decide
                  · rw [aa_up_o (by decide)]; exact x22
                  · rw [aa_up_o (by decide), hk.2]; exact x28 (by omega)
                  · rw [hk.1]; decide
              refine iv_217_114 ⟨fun z => ?_, fun _ => fin⟩
              rw [x22, x19, zz_nlt (by omega) (by omega)] at z
              rw [x22, zz_ix (by omega), x116]
              refine ⟨vp_in_nI (by omega) (by omega), fun _ => fin, fun z1 => ⟨fun _ => fin, fun z2 => ?_⟩⟩
              exact absurd ((cv j z).2.2.1.mpr ⟨z1, z2⟩) (q4 z)
            | succ m ih =>
              intro j X hm hj1 hj2 hX x27 x22 x28
              by_cases je : j = e
              · exact ih j X (by omega) hj1 hj2 hX x27 x22 x28
              · have x19 : X 105 19 = nI s := by rw [hX.2 19 (by decide) (by decide) (by decide) (by decide)]; exact h19
                have x116 : X 116 = V 116 := hX.1 116 (by decide)
                have xl := (cv j (by omega)).2.2.1.mp (q3 j hj1 (by omega))
                have yx := ld j (by omega) (Or.inr (q3 j hj1 (by omega)))
                refine iv_217_114 ⟨fun z => ?_, fun z => absurd ?_ z⟩
                · rw [x22, x27, zz_ix (by omega), x116, show nI j + (1 : Int32) = nI (j + 1) by rw [nI_succ], nI_minus hj1]
                  refine ⟨vp_in_nI (by omega) (by omega), fun z => absurd z xl.1, fun _ => ⟨fun z => absurd z xl.2, fun _ => ⟨fun z => ?_, fun z => ?_⟩⟩⟩
                  · rw [show (4 : Int32) = nI 4 from rfl, zz_nlt (by omega) (by omega)] at z
                    refine ⟨vp_in_nI (by omega) (by omega), ?_⟩
                    refine ih (j + 1) _ (by omega) (by omega) (by omega) (tm_eu (tm_eu hX (by omega)) (by omega)) (by rw [aa_up_o (by decide), aa_up_o (by decide)]; exact x27) aa_up_s (fun _ => ?_)
                    rw [aa_up_o (by decide), aa_up_s, x28 (by omega), show j + 1 - f = (j - f) + 1 by omega]
                    show _ = tz_v y f (j - f) * 10 + y (f + (j - f)) - 48
                    rw [show f + (j - f) = j by omega, yx, Int32.mul_comm]
                  · rw [show (4 : Int32) = nI 4 from rfl, zz_nlt (by omega) (by omega)] at z
                    exact ih (j + 1) _ (by omega) (by omega) (by omega) (tm_eu (tm_eu hX (by omega)) (by omega)) (by rw [aa_up_o (by decide), aa_up_o (by decide)]; exact x27) aa_up_s (fun _ => by omega)
                · rw [x22, x19, zz_nlt (by omega) (by omega)]; omega
          exact lp _ f _ (Nat.le_refl _) (Nat.le_refl _) (by omega) hZ z27 z22 (fun _ => by rw [z28, Nat.sub_self]; rfl)
        · exact absurd yl q.2.2.2.1
      refine iv_217_52 ⟨fun z => ?_, fun _ => ⟨fun z => ?_, fun _ => ?_⟩⟩
      · rw [w22, w19] at z; exact absurd z cc
      · rw [w22, w19] at z; exact absurd z cc
      · rw [w22, zz_ix (by omega), w116]
        refine ⟨vp_in_nI (by omega) (by omega), fun a => ?_, fun a => ⟨fun b => ?_, fun b => h114 ⟨a, b⟩⟩⟩
        · have nd : ¬ tz_d (V 116 f) := fun q => q.1 a
          refine ⟨fun b => ?_, fun b => ⟨fun b2 => ?_, fun b2 => h229 ⟨b, b2⟩⟩⟩
          · have nl : ¬ tz_l (V 116 f) := fun q => q.1 b
            have h342 := fun z => h342 z nl nd
            exact ⟨fun c => h327 (Or.inl c), fun n1 => ⟨fun c => h327 (Or.inr (Or.inl c)), fun n2 => ⟨fun c => h327 (Or.inr (Or.inr (Or.inl c))), fun n3 => ⟨fun c => h327 (Or.inr (Or.inr (Or.inr (Or.inl c)))), fun n4 => ⟨fun c => h327 (Or.inr (Or.inr (Or.inr (Or.inr (Or.inl c))))), fun n5 => ⟨fun c => h327 (Or.inr (Or.inr (Or.inr (Or.inr (Or.inr (Or.inl c)))))), fun n6 => ⟨fun c => h327 (Or.inr (Or.inr (Or.inr (Or.inr (Or.inr (Or.inr (Or.inl c))))))), fun n7 => ⟨fun c => h327 (Or.inr (Or.inr (Or.inr (Or.inr (Or.inr (Or.inr (Or.inr c))))))), fun n8 => h342 (fun z => by rcases z with z | z | z | z | z | z | z | z <;> contradiction)⟩⟩⟩⟩⟩⟩⟩⟩
          · have nl : ¬ tz_l (V 116 f) := fun q => q.2 b2
            have h342 := fun z => h342 z nl nd
            exact ⟨fun c => h327 (Or.inl c), fun n1 => ⟨fun c => h327 (Or.inr (Or.inl c)), fun n2 => ⟨fun c => h327 (Or.inr (Or.inr (Or.inl c))), fun n3 => ⟨fun c => h327 (Or.inr (Or.inr (Or.inr (Or.inl c)))), fun n4 => ⟨fun c => h327 (Or.inr (Or.inr (Or.inr (Or.inr (Or.inl c))))), fun n5 => ⟨fun c => h327 (Or.inr (Or.inr (Or.inr (Or.inr (Or.inr (Or.inl c)))))), fun n6 => ⟨fun c => h327 (Or.inr (Or.inr (Or.inr (Or.inr (Or.inr (Or.inr (Or.inl c))))))), fun n7 => ⟨fun c => h327 (Or.inr (Or.inr (Or.inr (Or.inr (Or.inr (Or.inr (Or.inr c))))))), fun n8 => h342 (fun z => by rcases z with z | z | z | z | z | z | z | z <;> contradiction)⟩⟩⟩⟩⟩⟩⟩⟩
        · have nd : ¬ tz_d (V 116 f) := fun q => q.2 b
          refine ⟨fun b => ?_, fun b => ⟨fun b2 => ?_, fun b2 => h229 ⟨b, b2⟩⟩⟩
          · have nl : ¬ tz_l (V 116 f) := fun q => q.1 b
            have h342 := fun z => h342 z nl nd
            exact ⟨fun c => h327 (Or.inl c), fun n1 => ⟨fun c => h327 (Or.inr (Or.inl c)), fun n2 => ⟨fun c => h327 (Or.inr (Or.inr (Or.inl c))), fun n3 => ⟨fun c => h327 (Or.inr (Or.inr (Or.inr (Or.inl c)))), fun n4 => ⟨fun c => h327 (Or.inr (Or.inr (Or.inr (Or.inr (Or.inl c))))), fun n5 => ⟨fun c => h327 (Or.inr (Or.inr (Or.inr (Or.inr (Or.inr (Or.inl c)))))), fun n6 => ⟨fun c => h327 (Or.inr (Or.inr (Or.inr (Or.inr (Or.inr (Or.inr (Or.inl c))))))), fun n7 => ⟨fun c => h327 (Or.inr (Or.inr (Or.inr (Or.inr (Or.inr (Or.inr (Or.inr c))))))), fun n8 => h342 (fun z => by rcases z with z | z | z | z | z | z | z | z <;> contradiction)⟩⟩⟩⟩⟩⟩⟩⟩
          · have nl : ¬ tz_l (V 116 f) := fun q => q.2 b2
            have h342 := fun z => h342 z nl nd
            exact ⟨fun c => h327 (Or.inl c), fun n1 => ⟨fun c => h327 (Or.inr (Or.inl c)), fun n2 => ⟨fun c => h327 (Or.inr (Or.inr (Or.inl c))), fun n3 => ⟨fun c => h327 (Or.inr (Or.inr (Or.inr (Or.inl c)))), fun n4 => ⟨fun c => h327 (Or.inr (Or.inr (Or.inr (Or.inr (Or.inl c))))), fun n5 => ⟨fun c => h327 (Or.inr (Or.inr (Or.inr (Or.inr (Or.inr (Or.inl c)))))), fun n6 => ⟨fun c => h327 (Or.inr (Or.inr (Or.inr (Or.inr (Or.inr (Or.inr (Or.inl c))))))), fun n7 => ⟨fun c => h327 (Or.inr (Or.inr (Or.inr (Or.inr (Or.inr (Or.inr (Or.inr c))))))), fun n8 => h342 (fun z => by rcases z with z | z | z | z | z | z | z | z <;> contradiction)⟩⟩⟩⟩⟩⟩⟩⟩
    · have fe : f = s := by omega
      have hk : k = 256 ∧ e = f := by
        rcases ht with q | q | q | q
        · exact ⟨q.2.2.1, q.2.1⟩
        · omega
        · omega
        · omega
      refine iv_217_52 ⟨fun _ => ⟨fun _ => ?_, fun z => ?_⟩, fun z => ?_⟩
      · rw [w22]
        refine h _ (tm_eu (tm_eu (tm_eu hW (by omega)) (by omega)) (by omega)) ?_ ?_ (fun _ => ?_) (fun z => ?_) (fun z => absurd ?_ z)
        · rw [aa_up_o (by decide), aa_up_o (by decide), aa_up_s]
        · rw [aa_up_o (by decide), aa_up_s, hk.1]; decide
        · rw [aa_up_o (by decide), aa_up_o (by decide), aa_up_o (by decide), hk.2]; exact w22
        · rw [hk.1] at z; exact absurd z (by decide)
        · rw [hk.1]; decide
      · exact absurd (by rw [w22, w19, fe]) z
      · exact absurd (by rw [w22, w19, fe]) z
  have key : ∀ m q W, f - q ≤ m → p ≤ q → q ≤ f → tm_e V W → W 105 22 = nI q → ab_J G (ac_ST L xs) l (d + 3) 217 0 [some (.ref 105), none] [] ac_SK W ac_SK K := by
    intro m
    induction m with
    | zero =>
      intro q W hm h1 h2 hW w22
      have qe : q = f := by omega
      subst qe
      have w19 : W 105 19 = nI s := by rw [hW.2 19 (by decide) (by decide) (by decide) (by decide)]; exact h19
      have w116 : W 116 = V 116 := hW.1 116 (by decide)
      refine iv_217_0 ⟨fun c => ?_, fun _ => main W hW w22⟩
      rw [w22, w19, zz_nlt (by omega) (by omega)] at c
      have nb : ¬ tz_b (V 116 q) := fun z => by
        have z := (cv q c).1.mpr z
        rcases ht with y1 | y1 | y1 | y1
        · omega
        · exact tz_nlb y1.2.1 z
        · exact tz_ndb y1.2.1 z
        · exact y1.2.1 z
      rw [w22, zz_ix (by omega), w116]
      exact ⟨vp_in_nI (by omega) (by omega), fun z => absurd (Or.inl z) nb, fun _ => ⟨vp_in_nI (by omega) (by omega), fun z => absurd (Or.inr z) nb, fun _ => main W hW w22⟩⟩
    | succ m ih =>
      intro q W hm h1 h2 hW w22
      by_cases qe : q = f
      · exact ih q W (by omega) h1 h2 hW w22
      · have w19 : W 105 19 = nI s := by rw [hW.2 19 (by decide) (by decide) (by decide) (by decide)]; exact h19
        have w116 : W 116 = V 116 := hW.1 116 (by decide)
        have bl := (cv q (by omega)).1.mp (hbl q h1 (by omega))
        have go : ab_J G (ac_ST L xs) l (d + 3) 217 39 [some (.ref 105), none] [] ac_SK W ac_SK K := by
          refine iv_217_39 ?_
          rw [w22, show nI q + (1 : Int32) = nI (q + 1) by rw [nI_succ]]
          exact ih (q + 1) _ (by omega) (by omega) (by omega) (tm_eu hW (by omega)) aa_up_s
        refine iv_217_0 ⟨fun c => ?_, fun c => absurd ?_ c⟩
        · rw [w22, zz_ix (by omega), w116]
          refine ⟨vp_in_nI (by omega) (by omega), fun _ => go, fun n1 => ⟨vp_in_nI (by omega) (by omega), fun _ => go, fun n2 => ?_⟩⟩
          rcases bl with z | z
          · exact absurd z n1
          · exact absurd z n2
        · rw [w22, w19, zz_nlt (by omega) (by omega)]; omega
  exact key _ p V (Nat.le_refl _) (Nat.le_refl _) hpf ⟨fun _ _ => rfl, fun _ _ _ _ _ => rfl⟩ h22
