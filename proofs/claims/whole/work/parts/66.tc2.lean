/-! the class cuts its tape: words, tokens, all -/
section
variable {G : ab_G} {L : Nat} {xs : Nat → Int32} {l : Launch}
theorem tc_35 {d f e w : Nat} {V : aa_V} {K : aa_K} (hw : w < 11) (hf : f ≤ e) (he : e ≤ 160) (h1 : tz_m (V 81) f e w → K (some (.int 1)) V) (h0 : ¬ tz_m (V 81) f e w → K (some (.int 0)) V) : ab_E G (ac_ST L xs) l (d + 5) ac_SK 35 [.ref 80, .ref (2000000 + (w + 1)), .int (nI f), .int (nI e)] V K := by
  have hn := tc_n w hw
  refine iv_35_0 ⟨by omega, by omega, tc_289 hw ⟨fun c => ?_, fun c => h0 (fun q => c ?_)⟩⟩
  · rw [nI_minus hf] at c
    have c := (nI_k (by omega) (by omega)).mp c
    have key : ∀ m k, tz_n w - k ≤ m → k ≤ tz_n w → (∀ k', k' < k → V 81 (f + k') = aa_nthI (tz_t w) k') → ab_J G (ac_ST L xs) l (d + 5) 35 15 [some (.ref 80), some (.ref (2000000 + (w + 1))), some (.int (nI f)), some (.int (nI e)), some (.int (nI (f + k)))] [] ac_SK V ac_SK K := by
      intro m
      induction m with
      | zero =>
        intro k hk hk2 hp
        refine iv_35_15 ⟨fun c => ?_, fun _ => h1 ⟨by omega, fun k' hk' => hp k' (by omega)⟩⟩
        rw [zz_nlt (by omega) (by omega)] at c
        omega
      | succ m ih =>
        intro k hk hk2 hp
        refine iv_35_15 ⟨fun c => ?_, fun c => h1 ⟨by omega, fun k' hk' => hp k' ?_⟩⟩
        · rw [zz_nlt (by omega) (by omega)] at c
          refine ⟨vp_in_nI (by omega) (by omega), by omega, by omega, ?_⟩
          rw [show nI (f + k) - nI f = nI k by rw [nI_minus (by omega)]; congr 1; omega]
          refine tc_290 hw (by omega) ⟨fun q => ?_, fun q => h0 (fun z => q ?_)⟩
          · rw [zz_ix (by omega)] at q
            rw [show nI (f + k) + (1 : Int32) = nI (f + (k + 1)) by rw [← Nat.add_assoc, nI_succ]]
            refine ih (k + 1) (by omega) (by omega) (fun k' hk' => ?_)
            by_cases je : k' = k
            · rw [je]; exact q
            · exact hp k' (by omega)
          · rw [zz_ix (by omega)]
            exact z.2 k (by omega)
        · rw [zz_nlt (by omega) (by omega)] at c
          omega
    exact key _ 0 (Nat.le_refl _) (Nat.zero_le _) (fun k' hk' => by omega)
  · rw [nI_minus hf, q.1]
    congr 1
    omega
theorem tc_36 {d w : Nat} {V : aa_V} {K : aa_K} (hw : w < 11) (h : K (some (.ref (2000000 + (w + 1)))) V) : ab_E G (ac_ST L xs) l (d + 1) ac_SK 36 [.int (nI w)] V K := by
  have : w = 0 ∨ w = 1 ∨ w = 2 ∨ w = 3 ∨ w = 4 ∨ w = 5 ∨ w = 6 ∨ w = 7 ∨ w = 8 ∨ w = 9 ∨ w = 10 := by omega
  rcases this with rfl | rfl | rfl | rfl | rfl | rfl | rfl | rfl | rfl | rfl | rfl
  · exact iv_36_0 ⟨fun _ => h, fun c => absurd rfl c⟩
  · exact iv_36_0 ⟨fun c => absurd c (by decide), fun _ => ⟨fun _ => h, fun c => absurd rfl c⟩⟩
  · exact iv_36_0 ⟨fun c => absurd c (by decide), fun _ => ⟨fun c => absurd c (by decide), fun _ => ⟨fun _ => h, fun c => absurd rfl c⟩⟩⟩
  · exact iv_36_0 ⟨fun c => absurd c (by decide), fun _ => ⟨fun c => absurd c (by decide), fun _ => ⟨fun c => absurd c (by decide), fun _ => ⟨fun _ => h, fun c => absurd rfl c⟩⟩⟩⟩
  · exact iv_36_0 ⟨fun c => absurd c (by decide), fun _ => ⟨fun c => absurd c (by decide), fun _ => ⟨fun c => absurd c (by decide), fun _ => ⟨fun c => absurd c (by decide), fun _ => ⟨fun _ => h, fun c => absurd rfl c⟩⟩⟩⟩⟩
  · exact iv_36_0 ⟨fun c => absurd c (by decide), fun _ => ⟨fun c => absurd c (by decide), fun _ => ⟨fun c => absurd c (by decide), fun _ => ⟨fun c => absurd c (by decide), fun _ => ⟨fun c => absurd c (by decide), fun _ => ⟨fun _ => h, fun c => absurd rfl c⟩⟩⟩⟩⟩⟩
  · exact iv_36_0 ⟨fun c => absurd c (by decide), fun _ => ⟨fun c => absurd c (by decide), fun _ => ⟨fun c => absurd c (by decide), fun _ => ⟨fun c => absurd c (by decide), fun _ => ⟨fun c => absurd c (by decide), fun _ => ⟨fun c => absurd c (by decide), fun _ => ⟨fun _ => h, fun c => absurd rfl c⟩⟩⟩⟩⟩⟩⟩
  · exact iv_36_0 ⟨fun c => absurd c (by decide), fun _ => ⟨fun c => absurd c (by decide), fun _ => ⟨fun c => absurd c (by decide), fun _ => ⟨fun c => absurd c (by decide), fun _ => ⟨fun c => absurd c (by decide), fun _ => ⟨fun c => absurd c (by decide), fun _ => ⟨fun c => absurd c (by decide), fun _ => ⟨fun _ => h, fun c => absurd rfl c⟩⟩⟩⟩⟩⟩⟩⟩
  · exact iv_36_0 ⟨fun c => absurd c (by decide), fun _ => ⟨fun c => absurd c (by decide), fun _ => ⟨fun c => absurd c (by decide), fun _ => ⟨fun c => absurd c (by decide), fun _ => ⟨fun c => absurd c (by decide), fun _ => ⟨fun c => absurd c (by decide), fun _ => ⟨fun c => absurd c (by decide), fun _ => ⟨fun c => absurd c (by decide), fun _ => ⟨fun _ => h, fun c => absurd rfl c⟩⟩⟩⟩⟩⟩⟩⟩⟩
  · exact iv_36_0 ⟨fun c => absurd c (by decide), fun _ => ⟨fun c => absurd c (by decide), fun _ => ⟨fun c => absurd c (by decide), fun _ => ⟨fun c => absurd c (by decide), fun _ => ⟨fun c => absurd c (by decide), fun _ => ⟨fun c => absurd c (by decide), fun _ => ⟨fun c => absurd c (by decide), fun _ => ⟨fun c => absurd c (by decide), fun _ => ⟨fun c => absurd c (by decide), fun _ => ⟨fun _ => h, fun c => absurd rfl c⟩⟩⟩⟩⟩⟩⟩⟩⟩⟩
  · exact iv_36_0 ⟨fun c => absurd c (by decide), fun _ => ⟨fun c => absurd c (by decide), fun _ => ⟨fun c => absurd c (by decide), fun _ => ⟨fun c => absurd c (by decide), fun _ => ⟨fun c => absurd c (by decide), fun _ => ⟨fun c => absurd c (by decide), fun _ => ⟨fun c => absurd c (by decide), fun _ => ⟨fun c => absurd c (by decide), fun _ => ⟨fun c => absurd c (by decide), fun _ => ⟨fun c => absurd c (by decide), fun _ => h⟩⟩⟩⟩⟩⟩⟩⟩⟩⟩
theorem tc_34 {d f e : Nat} {V : aa_V} {K : aa_K} (hf : f ≤ e) (he : e ≤ 160) (h1 : ∀ w, w < 11 → tz_m (V 81) f e w → K (some (.int (nI (300 + w)))) V) (h0 : (∀ w, w < 11 → ¬ tz_m (V 81) f e w) → K (some (.int 257)) V) : ab_E G (ac_ST L xs) l (d + 6) ac_SK 34 [.ref 80, .int (nI f), .int (nI e)] V K := by
  have key : ∀ m w, 11 - w ≤ m → w ≤ 11 → (∀ w', w' < w → ¬ tz_m (V 81) f e w') → ab_J G (ac_ST L xs) l (d + 6) 34 2 [some (.ref 80), some (.int (nI f)), some (.int (nI e)), some (.int (nI w))] [] ac_SK V ac_SK K := by
    intro m
    induction m with
    | zero =>
      intro w hm hw hn
      refine iv_34_2 ⟨fun c => ?_, fun _ => h0 (fun w' hw' => hn w' (by omega))⟩
      rw [show (11 : Int32) = nI 11 from rfl, zz_nlt (by omega) (by omega)] at c
      omega
    | succ m ih =>
      intro w hm hw hn
      refine iv_34_2 ⟨fun c => ?_, fun c => h0 (fun w' hw' => hn w' ?_)⟩
      · rw [show (11 : Int32) = nI 11 from rfl, zz_nlt (by omega) (by omega)] at c
        refine tc_36 c (tc_35 c hf he (fun q => ⟨fun z => absurd z (by decide), fun _ => ?_⟩) (fun q => ⟨fun _ => ?_, fun z => absurd rfl z⟩))
        · have e1 : (300 : Int32) + nI w = nI (300 + w) := by
            rw [show (300 : Int32) = nI 300 from rfl, nI_plus]
          rw [e1]
          exact h1 w c q
        · rw [show nI w + (1 : Int32) = nI (w + 1) by rw [nI_succ]]
          refine ih (w + 1) (by omega) (by omega) (fun w' hw' => ?_)
          by_cases je : w' = w
          · rw [je]; exact q
          · exact hn w' (by omega)
      · rw [show (11 : Int32) = nI 11 from rfl, zz_nlt (by omega) (by omega)] at c
        omega
  exact iv_34_0 (key _ 0 (Nat.le_refl _) (Nat.zero_le _) (fun w' hw' => by omega))
/-- the tokens that a tape is cut into -/
def tz_C (y : Nat → Int32) (s F : Nat) (tk nb pl : Nat → Int32) (P : Nat → Nat) : Prop := P 0 = 0 ∧ ∀ i, i < F → ∃ f, pl i = nI f ∧ tz y s (P i) f (P (i + 1)) (tk i) (nb i)
def tc_V (V W : aa_V) : Prop := (∀ c, c ≠ 80 → c ≠ 82 → c ≠ 83 → c ≠ 84 → W c = V c) ∧ ∀ p, p ≠ 5 → W 80 p = V 80 p
theorem tc_29 {d s : Nat} {V : aa_V} {K : aa_K} (hs : V 80 1 = nI s) (hs0 : s ≤ 160) (hy : ∀ j, j < s → (V 81 j).toInt < 128) (h : ∀ F P W, tc_V V W → F ≤ 160 → W 80 5 = nI (F + 1) → (∀ i, i < F → W 82 i ≠ 256 ∧ W 82 i ≠ 257) → (W 82 F = 256 ∨ W 82 F = 257) → tz_C (V 81) s (F + 1) (W 82) (W 84) (W 83) P → K none W) : ab_E G (ac_ST L xs) l (d + 8) ac_SK 29 [.ref 80] V K := by
  have key : ∀ m i p (P : Nat → Nat) (W : aa_V) (last : Int32), s + 1 - p ≤ m → p ≤ s → i ≤ p → tc_V V W → (∀ j, j < i → W 82 j ≠ 256 ∧ W 82 j ≠ 257) → last ≠ 256 → last ≠ 257 → P i = p → tz_C (V 81) s i (W 82) (W 84) (W 83) P → ab_J G (ac_ST L xs) l (d + 8) 29 13 [some (.ref 80), some (.int (nI p)), some (.int last), some (.int (nI i)), none] [] ac_SK W ac_SK K := by
    intro m
    induction m with
    | zero => intro i p P W last hm hp hi hv hn l1 l2 hP hC; omega
    | succ m ih =>
      intro i p P W last hm hp hi hv hn l1 l2 hP hC
      have ws : W 80 1 = nI s := by rw [hv.2 1 (by decide)]; exact hs
      have w81 : W 81 = V 81 := hv.1 81 (by decide) (by decide) (by decide) (by decide)
      have nx : ∀ (f e : Nat) (k num : Int32), tz (V 81) s p f e k num → (k ≠ 256 → k ≠ 257 → p < e ∧ e ≤ s) → ab_J G (ac_ST L xs) l (d + 8) 29 13 [some (.ref 80), some (.int (nI e)), some (.int k), some (.int (nI i + 1)), none] [] ac_SK (aa_up (aa_up (aa_up (aa_up W 82 i k) 83 i (nI f)) 84 i num) 80 5 (nI i + 1)) ac_SK K := by
        intro f e k num ht hk
        rw [show nI i + (1 : Int32) = nI (i + 1) by rw [nI_succ]]
        have x82 : ∀ j, aa_up (aa_up (aa_up (aa_up W 82 i k) 83 i (nI f)) 84 i num) 80 5 (nI (i + 1)) 82 j = if j = i then k else W 82 j := fun j => by
          rw [aa_up_c (by decide), aa_up_c (by decide), aa_up_c (by decide), aa_up_at]
          by_cases q : j = i
          · rw [if_pos ⟨rfl, q⟩, if_pos q]
          · rw [if_neg (fun z => q z.2), if_neg q]
        have x83 : ∀ j, aa_up (aa_up (aa_up (aa_up W 82 i k) 83 i (nI f)) 84 i num) 80 5 (nI (i + 1)) 83 j = if j = i then nI f else W 83 j := fun j => by
          rw [aa_up_c (by decide), aa_up_c (by decide), aa_up_at]
          by_cases q : j = i
          · rw [if_pos ⟨rfl, q⟩, if_pos q]
          · rw [if_neg (fun z => q z.2), if_neg q, aa_up_c (by decide)]
        have x84 : ∀ j, aa_up (aa_up (aa_up (aa_up W 82 i k) 83 i (nI f)) 84 i num) 80 5 (nI (i + 1)) 84 j = if j = i then num else W 84 j := fun j => by
          rw [aa_up_c (by decide), aa_up_at]
          by_cases q : j = i
          · rw [if_pos ⟨rfl, q⟩, if_pos q]
          · rw [if_neg (fun z => q z.2), if_neg q, aa_up_c (by decide), aa_up_c (by decide)]
        have hv' : tc_V V (aa_up (aa_up (aa_up (aa_up W 82 i k) 83 i (nI f)) 84 i num) 80 5 (nI (i + 1))) := by
          refine ⟨fun c a1 a2 a3 a4 => ?_, fun q a => ?_⟩
          · rw [aa_up_c a1, aa_up_c a4, aa_up_c a3, aa_up_c a2]; exact hv.1 c a1 a2 a3 a4
          · rw [aa_up_o a, aa_up_c (by decide), aa_up_c (by decide), aa_up_c (by decide)]; exact hv.2 q a
        have hC' : tz_C (V 81) s (i + 1) (aa_up (aa_up (aa_up (aa_up W 82 i k) 83 i (nI f)) 84 i num) 80 5 (nI (i + 1)) 82) (aa_up (aa_up (aa_up (aa_up W 82 i k) 83 i (nI f)) 84 i num) 80 5 (nI (i + 1)) 84) (aa_up (aa_up (aa_up (aa_up W 82 i k) 83 i (nI f)) 84 i num) 80 5 (nI (i + 1)) 83) (fun j => if j ≤ i then P j else e) := by
          refine ⟨?_, fun j hj => ?_⟩
          · show (if 0 ≤ i then P 0 else e) = 0
            rw [if_pos (Nat.zero_le _)]; exact hC.1
          · rw [x82, x83, x84]
            show ∃ f', (if j = i then nI f else W 83 j) = nI f' ∧ tz (V 81) s (if j ≤ i then P j else e) f' (if j + 1 ≤ i then P (j + 1) else e) _ _
            by_cases q : j = i
            · rw [if_pos q, if_pos q, if_pos q, q, if_pos (Nat.le_refl _), if_neg (by omega), hP]
              exact ⟨f, rfl, ht⟩
            · rw [if_neg q, if_neg q, if_neg q, if_pos (by omega), if_pos (by omega)]
              exact hC.2 j (by omega)
        by_cases k1 : k = 256 ∨ k = 257
        · have hx : K none (aa_up (aa_up (aa_up (aa_up W 82 i k) 83 i (nI f)) 84 i num) 80 5 (nI (i + 1))) := by
            refine h i (fun j => if j ≤ i then P j else e) _ hv' (by omega) aa_up_s (fun j hj => ?_) ?_ hC'
            · rw [x82, if_neg (by omega)]; exact hn j hj
            · rw [x82, if_pos rfl]; exact k1
          refine iv_29_13 ⟨fun c => hx, fun _ => ⟨fun _ => hx, fun a => ⟨fun _ => hx, fun b => ?_⟩⟩⟩
          rcases k1 with q | q
          · exact absurd q a
          · exact absurd q b
        · have k2 : k ≠ 256 := fun q => k1 (Or.inl q)
          have k3 : k ≠ 257 := fun q => k1 (Or.inr q)
          obtain ⟨e1, e2⟩ := hk k2 k3
          refine ih (i + 1) e (fun j => if j ≤ i then P j else e) _ k (by omega) e2 (by omega) hv' (fun j hj => ?_) k2 k3 ?_ hC'
          · rw [x82]
            by_cases q : j = i
            · rw [if_pos q]; exact ⟨k2, k3⟩
            · rw [if_neg q]; exact hn j (by omega)
          · show (if i + 1 ≤ i then P (i + 1) else e) = e
            rw [if_neg (by omega)]
      have vi : vp_in (nI i) 161 := vp_in_nI (by omega) (by omega)
      have xi : (nI i).toNatClampNeg = i := zz_ix (by omega)
      refine iv_29_13 ⟨fun c => ?_, fun _ => ⟨fun c => absurd c l1, fun _ => ⟨fun c => absurd c l2, fun _ => ?_⟩⟩⟩
      · rw [show (160 : Int32) = nI 160 from rfl, zz_nlt (by omega) (by omega)] at c
        omega
      refine tc_30 ws hs0 hp (fun f hf1 hf2 _ hb hnb => ⟨fun c => ?_, fun c => ?_⟩)
      · rw [ws, zz_nlt (by omega) (by omega)] at c
        have hnb' : ¬ tz_b (V 81 f) := fun q => hnb c (fun z => absurd z.1 (by decide)) (by rw [w81]; exact tz_o0.mpr q)
        have hb' : ∀ j, p ≤ j → j < f → tz_b (V 81 j) := fun j j1 j2 => by
          have := hb j j1 j2
          rw [w81] at this
          exact tz_o0.mp this
        refine ⟨vp_in_nI (by omega) (by omega), ?_⟩
        rw [zz_ix (by omega)]
        refine tc_31 (tc_30 ws hs0 hf2 (fun e he1 he2 h3 hso hno => ?_))
        have hfe : f < e := by
          rcases Nat.lt_or_ge f e with q | q
          · exact q
          · have : e = f := by omega
            subst this
            exact absurd rfl (hno c (fun z => by omega))
        rw [w81] at hso hno h3
        -- the token
        have tok : ∀ (K0 : aa_K), (∀ k, (k = 258 → tz (V 81) s p f e 258 (tz_v (V 81) f (e - f))) → (k ≠ 258 → tz (V 81) s p f e k 0) → K0 (some (.int k)) W) → ab_E G (ac_ST L xs) l (d + 7) ac_SK 32 [.ref 80, .int (nI f), .int (nI e)] W K0 := by
          intro K0 hK0
          refine iv_32_0 ⟨fun _ => ⟨vp_in_nI (by omega) (by omega), ?_⟩, fun z => absurd (by rw [ws, zz_nlt (by omega) (by omega)]; exact c) z⟩
          rw [zz_ix (by omega), w81]
          refine tc_31 ⟨fun o1 => ?_, fun o1 => ⟨fun o2 => ?_, fun o2 => ⟨vp_in_nI (by omega) (by omega), ?_⟩⟩⟩
          · rw [o1] at hso hno
            have al : ∀ j, f ≤ j → j < e → tz_l (V 81 j) := fun j j1 j2 => tz_o1.mp (hso j j1 j2)
            have nl : e < s → ¬ tz_l (V 81 e) := fun q z => hno q (fun y => absurd y.1 (by decide)) (tz_o1.mpr z)
            refine tc_34 he1 (Nat.le_trans he2 hs0) (fun w hw hm => ?_) (fun hm => ?_)
            · rw [w81] at hm
              refine hK0 _ (fun q => absurd q ?_) (fun _ => ⟨hf1, hf2, hb', Or.inr (Or.inl ⟨c, tz_o1.mp o1, hfe, he2, al, nl, Or.inl ⟨w, hw, hm, rfl⟩, rfl⟩)⟩)
              exact fun q => absurd ((nI_k (m := 258) (by omega) (by omega)).mp q) (by omega)
            · rw [w81] at hm
              exact hK0 _ (fun q => absurd q (by decide)) (fun _ => ⟨hf1, hf2, hb', Or.inr (Or.inl ⟨c, tz_o1.mp o1, hfe, he2, al, nl, Or.inr ⟨hm, rfl⟩, rfl⟩)⟩)
          · rw [o2] at hso hno
            have al : ∀ j, f ≤ j → j < e → tz_d (V 81 j) := fun j j1 j2 => tz_o2.mp (hso j j1 j2)
            have nl : e < s → ¬ tz_d (V 81 e) := fun q z => hno q (fun y => absurd y.1 (by decide)) (tz_o2.mpr z)
            refine ⟨fun q => ?_, fun q => ?_⟩
            · rw [nI_minus he1, show (4 : Int32) = nI 4 from rfl, zz_nlt (by omega) (by omega)] at q
              exact hK0 _ (fun z => absurd z (by decide)) (fun _ => ⟨hf1, hf2, hb', Or.inr (Or.inr (Or.inl ⟨c, tz_o2.mp o2, hfe, he2, al, nl, Or.inr ⟨by omega, rfl, rfl⟩⟩))⟩)
            · rw [nI_minus he1, show (4 : Int32) = nI 4 from rfl, zz_nlt (by omega) (by omega)] at q
              exact hK0 _ (fun _ => ⟨hf1, hf2, hb', Or.inr (Or.inr (Or.inl ⟨c, tz_o2.mp o2, hfe, he2, al, nl, Or.inl ⟨by omega, rfl, rfl⟩⟩))⟩) (fun z => absurd rfl z)
          · have d1 : ¬ tz_l (V 81 f) := fun q => o1 (tz_o1.mpr q)
            have d2 : ¬ tz_d (V 81 f) := fun q => o2 (tz_o2.mpr q)
            have ee : e = f + 1 := by
              have := h3 (tz_o3 hnb' d1 d2)
              omega
            rw [w81]
            have hyf := hy f c
            refine hK0 _ (fun q => ?_) (fun _ => ⟨hf1, hf2, hb', Or.inr (Or.inr (Or.inr ⟨c, hnb', d1, d2, ee, rfl, rfl, hyf⟩))⟩)
            rw [q, show (258 : Int32).toInt = 258 by decide] at hyf
            omega
        refine tok _ (fun k t1 t2 => ⟨vi, vi, fun q => ?_, fun q => ⟨vi, ?_⟩⟩)
        · rw [xi]
          refine tc_33 he1 (Nat.le_trans he2 hs0) ⟨vi, ?_⟩
          rw [aa_up_c (by decide), aa_up_c (by decide), w81, q]
          exact nx f e 258 _ (t1 q) (fun _ _ => ⟨by omega, he2⟩)
        · rw [xi]
          exact nx f e k 0 (t2 q) (fun _ _ => ⟨by omega, he2⟩)
      · rw [ws, zz_nlt (by omega) (by omega)] at c
        have hb' : ∀ j, p ≤ j → j < f → tz_b (V 81 j) := fun j j1 j2 => by
          have := hb j j1 j2
          rw [w81] at this
          exact tz_o0.mp this
        refine iv_32_0 ⟨fun z => ?_, fun _ => ⟨vi, vi, fun z => absurd z (by decide), fun _ => ⟨vi, ?_⟩⟩⟩
        · rw [ws, zz_nlt (by omega) (by omega)] at z
          omega
        · rw [xi]
          exact nx f f 256 0 ⟨hf1, hf2, hb', Or.inl ⟨by omega, rfl, rfl, rfl⟩⟩ (fun z => absurd rfl z)
  refine iv_29_0 (key _ 0 0 (fun _ => 0) _ 258 (Nat.le_refl _) (Nat.zero_le _) (Nat.le_refl _) ⟨fun c a _ _ _ => aa_up_c a, fun q a => aa_up_o a⟩ (fun j hj => by omega) (by decide) (by decide) rfl ⟨rfl, fun j hj => by omega⟩)
end
