/-! road, feed, row -/
set_option maxRecDepth 20000 in
theorem cs_139 {G : ab_G} {L : Nat} {xs : Nat → Int32} {l : Launch} {d : Nat} {i1 i2 i3 : Int32} {V : aa_V} {Q : Int32 → Int32 → aa_V → Prop} (hI : nv V) (hQ : ∀ x W, nv W → Q x x W) :
    ab_E G (ac_ST L xs) l (d + 3) ac_SK 139 [.ref 0, .int i1, .int i2, .int i3] V (aa_rI fun x V1 => ab_E G (ac_ST L xs) l (d + 2) ac_SK 196 [.ref 105, .int i1, .int i2, .int i3] V1 (aa_rI fun y W => Q x y W)) := by
  obtain ⟨hn, hr, hw, ha, hp, ho, hb, hk, hs, hf, ht⟩ := id hI
  have cell : ∀ {a b : Int32}, ¬ a < 0 → ¬ 7 < a → zb a 7 := fun h1 h2 => by
    simp only [zz_lt, zl_0, zl_7] at h1 h2
    exact zb_of_r (by omega) (by omega) (by decide)
  have m196 : ∀ (X : aa_V) (K : aa_K), K (some (.int (va_196 i1 i2 i3 X))) (vn_196 i1 i2 i3 X) → ab_E G (ac_ST L xs) l (d + 2) ac_SK 196 [.ref 105, .int i1, .int i2, .int i3] X K := fun X K h => by
    have z : ¬ i1 < 0 → i1 < 8 → ¬ i2 < 0 → i2 < 8 → zb i1 7 ∧ zb i2 7 := fun h1 h2 h3 h4 => by
      simp only [zz_lt, zl_0, zl_8] at h1 h2 h3 h4
      exact ⟨zb_of_r (by omega) (by omega) (by decide), zb_of_r (by omega) (by omega) (by decide)⟩
    refine sp_196 ?_ ?_ ?_ ?_ ?_ ?_ h
    · intro g1 g2 g3 g4; intros; exact ix8 (z g1 g2 g3 g4).1 (z g1 g2 g3 g4).2
    · intro g1 g2 g3 g4; intros; exact ix8 (z g1 g2 g3 g4).2 (z g1 g2 g3 g4).1
    · intro g1 g2 g3 g4; intros; exact ix8 (z g1 g2 g3 g4).1 (z g1 g2 g3 g4).2
    · intro g1 g2 g3 g4; intros; exact ix8 (z g1 g2 g3 g4).2 (z g1 g2 g3 g4).1
    · intro g1 g2 g3 g4; intros; exact ix8 (z g1 g2 g3 g4).1 (z g1 g2 g3 g4).2
    · intro g1 g2 g3 g4; intros; exact ix8 (z g1 g2 g3 g4).2 (z g1 g2 g3 g4).1
  have bad : ∀ v : Int32, v = -2 → (i1 < 0 ∨ 7 < i1 ∨ i2 < 0 ∨ 7 < i2 ∨ i1 = i2 ∨ va_49 i3 V = 0) → ab_E G (ac_ST L xs) l (d + 2) ac_SK 196 [.ref 105, .int i1, .int i2, .int i3] V (aa_rI fun y W => Q v y W) := by
    intro v hv hc
    subst hv
    refine m196 V _ ?_
    have e : va_196 i1 i2 i3 V = -2 ∧ vn_196 i1 i2 i3 V = V := by
      unfold va_196 vn_196
      by_cases c1 : i1 < 0
      · simp only [if_pos c1, and_self]
      · simp only [if_neg c1]
        by_cases c2 : i1 < 8
        · simp only [if_pos c2]
          by_cases c3 : i2 < 0
          · simp only [if_pos c3, and_self]
          · simp only [if_neg c3]
            by_cases c4 : i2 < 8
            · simp only [if_pos c4]
              by_cases c5 : i1 = i2
              · simp only [if_pos c5, and_self]
              · simp only [if_neg c5]
                have c6 : va_49 i3 V = 0 := by
                  rcases hc with q | q | q | q | q | q
                  · exact absurd q c1
                  · simp only [zz_lt, zl_7, zl_8] at q c2; omega
                  · exact absurd q c3
                  · simp only [zz_lt, zl_7, zl_8] at q c4; omega
                  · exact absurd q c5
                  · exact q
                unfold va_49 at c6
                by_cases d1 : i3 < 1
                · simp only [if_pos d1] at c6 ⊢
                  by_cases d2 : i3 = 99
                  · rw [if_pos d2] at c6
                    exact absurd c6 (by decide)
                  · simp only [if_neg d2, and_self]
                · simp only [if_neg d1] at c6 ⊢
                  by_cases d3 : 9 < i3
                  · simp only [if_pos d3] at c6 ⊢
                    by_cases d2 : i3 = 99
                    · rw [if_pos d2] at c6
                      exact absurd c6 (by decide)
                    · simp only [if_neg d2, and_self]
                  · rw [if_neg d3] at c6
                    exact absurd c6 (by decide)
            · simp only [if_neg c4, and_self]
        · simp only [if_neg c2, and_self]
    rw [e.1, e.2]
    exact hQ _ _ hI
  refine iv_139_0 ⟨fun c1 => bad _ rfl (Or.inl c1), fun c1 => ⟨fun c2 => bad _ rfl (Or.inr (Or.inl c2)), fun c2 => ⟨fun c3 => bad _ rfl (Or.inr (Or.inr (Or.inl c3))), fun c3 => ⟨fun c4 => bad _ rfl (Or.inr (Or.inr (Or.inr (Or.inl c4)))), fun c4 => ⟨fun c5 => bad _ rfl (Or.inr (Or.inr (Or.inr (Or.inr (Or.inl c5))))), fun c5 => ?_⟩⟩⟩⟩⟩
  refine sp_49 (fun _ => ?_)
  dsimp only [aa_rI]
  refine ⟨fun c6 => bad _ rfl (Or.inr (Or.inr (Or.inr (Or.inr (Or.inr c6))))), fun c6 => ?_⟩
  have z1 := cell (b := 0) c1 c2
  have z2 := cell (b := 0) c3 c4
  have z3 : zb i3 99 := by
    unfold va_49 at c6
    by_cases d1 : i3 < 1
    · rw [if_pos d1] at c6
      by_cases d2 : i3 = 99
      · rw [d2]
        exact zb_n (n := 99) (by decide) (by decide)
      · rw [if_neg d2] at c6
        exact absurd rfl c6
    · rw [if_neg d1] at c6
      by_cases d3 : 9 < i3
      · rw [if_pos d3] at c6
        by_cases d2 : i3 = 99
        · rw [d2]
          exact zb_n (n := 99) (by decide) (by decide)
        · rw [if_neg d2] at c6
          exact absurd rfl c6
      · simp only [zz_lt, zl_1, zl_9] at d1 d3
        exact zb_of_r (by omega) (by omega) (by decide)
  have e196 : ∀ X, va_196 i1 i2 i3 X = X 106 ((8 : Int32) * i1 + i2).toNatClampNeg ∧ vn_196 i1 i2 i3 X = aa_up (aa_up X 106 (((8 : Int32) * i1 + i2)).toNatClampNeg i3) 106 (((8 : Int32) * i2 + i1)).toNatClampNeg i3 := by
    intro X
    have c2' : i1 < 8 := by simp only [zz_lt, zl_7, zl_8] at c2 ⊢; omega
    have c4' : i2 < 8 := by simp only [zz_lt, zl_7, zl_8] at c4 ⊢; omega
    unfold va_196 vn_196
    unfold va_49 at c6
    simp only [if_neg c1, if_pos c2', if_neg c3, if_pos c4', if_neg c5]
    by_cases d1 : i3 < 1
    · simp only [if_pos d1] at c6 ⊢
      by_cases d2 : i3 = 99
      · simp only [if_pos d2, and_self]
      · rw [if_neg d2] at c6
        exact absurd rfl c6
    · simp only [if_neg d1] at c6 ⊢
      by_cases d3 : 9 < i3
      · simp only [if_pos d3] at c6 ⊢
        by_cases d2 : i3 = 99
        · simp only [if_pos d2, and_self]
        · rw [if_neg d2] at c6
          exact absurd rfl c6
      · simp only [if_neg d3, and_self]
  have v1 : vp_in i1 8 := vpz z1 (by decide) (by decide)
  have v2 : vp_in i2 8 := vpz z2 (by decide) (by decide)
  refine iv_50_0 ⟨8, _, 3 + i1.toNatClampNeg, rfl, v1, zq_2 v1, 8, [], zs_2 v1, v2, 8, _, 3 + i1.toNatClampNeg, rfl, v1, zq_2 v1, 8, [], zs_2 v1, v2, 8, _, 3 + i2.toNatClampNeg, rfl, v2, zq_2 v2, 8, [], zs_2 v2, v1, ?_⟩
  obtain ⟨a, rfl, ha7⟩ := zb_i z1
  obtain ⟨b, rfl, hb7⟩ := zb_i z2
  have ea : (nI a).toNatClampNeg = a := zz_ix (by omega)
  have eb : (nI b).toNatClampNeg = b := zz_ix (by omega)
  rw [ea, eb]
  obtain ⟨W0, hW0⟩ : ∃ W0, W0 = aa_up (aa_up V (3 + a) b i3) (3 + b) a i3 := ⟨_, rfl⟩
  rw [← hW0]
  obtain ⟨R, hR⟩ : ∃ R, R = upd (upd (V 106) (8 * a + b) i3) (8 * b + a) i3 := ⟨_, rfl⟩
  have w3 : ∀ x y, x < 8 → y < 8 → W0 (3 + x) y = R (8 * x + y) := fun x y hx hy => by
    rw [hW0, hR, aa_up_at, aa_up_at]
    unfold upd
    by_cases q1 : 3 + x = 3 + b ∧ y = a
    · rw [if_pos q1, if_pos (show 8 * x + y = 8 * b + a by omega)]
    · rw [if_neg q1, if_neg (show ¬ 8 * x + y = 8 * b + a by omega)]
      by_cases q2 : 3 + x = 3 + a ∧ y = b
      · rw [if_pos q2, if_pos (show 8 * x + y = 8 * a + b by omega)]
      · rw [if_neg q2, if_neg (show ¬ 8 * x + y = 8 * a + b by omega)]
        exact hr.1 x y hx hy
  have hRb : qf_b R := by
    rw [hR]
    intro k hk
    unfold upd
    repeat' split
    all_goals first | exact z3 | exact hr.2.1 k hk
  have w0c : ∀ c, (c < 3 ∨ 10 < c) → W0 c = V c := fun c hc => by rw [hW0, aa_up_c (by omega), aa_up_c (by omega)]
  refine sp_54 (Or.inl rfl) (fun W1 h1 g1 => ?_)
  dsimp only [aa_rV]
  refine sp_54 (Or.inr rfl) (fun W2 h2 g2 => ?_)
  dsimp only [aa_rV]
  refine m196 W2 _ ?_
  have c2c : ∀ c, (c < 3 ∨ 28 < c ∨ c = 11 ∨ c = 20) → W2 c = V c := fun c hc => by rw [h2 c (by omega), h1 c (by omega), w0c c (by omega)]
  have k2 : ∀ x y, x < 8 → y < 8 → W2 (3 + x) y = R (8 * x + y) := fun x y hx hy => by rw [h2 _ (by omega), h1 _ (by omega), w3 x y hx hy]
  rw [(e196 W2).1, (e196 W2).2, c2c 106 (by omega), ix8v (by omega) (by omega), ix8v (by omega) (by omega), zz_ix (by omega), zz_ix (by omega), ← hr.1 a b (by omega) (by omega)]
  refine hQ _ _ ?_
  obtain ⟨W, hW⟩ : ∃ W, W = aa_up (aa_up W2 106 (8 * a + b) i3) 106 (8 * b + a) i3 := ⟨_, rfl⟩
  rw [← hW]
  have w106 : W 106 = R := by
    rw [hW, hR, ← c2c 106 (by omega)]
    rfl
  have wo : ∀ c, c ≠ 106 → W c = W2 c := fun c hc => by rw [hW, aa_up_c hc, aa_up_c hc]
  have ww : ∀ c, (c < 3 ∨ 28 < c) → c ≠ 106 → W c = V c := fun c h1 h2 => by rw [wo c h2, c2c c (by omega)]
  have w105 := ww 105 (by omega) (by decide)
  refine ⟨?_, ?_, ?_, ?_, ?_, ?_, ?_, nv_kc (fun c h1 h2 => ww c (by omega) (by omega)) (ww 146 (by omega) (by decide)) (by rw [ww 64 (by omega) (by decide)]) (by rw [w105]) hk, nv_sc (fun c h1 h2 => ww c (by omega) (by omega)) (ww 147 (by omega) (by decide)) (ww 148 (by omega) (by decide)) (ww 149 (by omega) (by decide)) (ww 73 (by omega) (by decide)) (ww 74 (by omega) (by decide)) hs, ?_, nv_tc (fun t ht => ⟨ww _ (by omega) (by omega), ww _ (by omega) (by omega)⟩) (ww 117 (by omega) (by decide)) (ww 118 (by omega) (by decide)) (ww 119 (by omega) (by decide)) (ww 120 (by omega) (by decide)) (by rw [w105]) (by rw [w105]) (by rw [w105]) (by rw [ww 0 (by omega) (by decide)]) (by rw [ww 0 (by omega) (by decide)]) ht⟩
  · unfold nv_n
    rw [w105, ww 0 (by omega) (by decide)]
    exact hn
  · unfold nv_r
    rw [w106]
    refine ⟨fun x y hx hy => by rw [wo _ (by omega), k2 x y hx hy], hRb, fun x y hx hy => ?_, fun x y hx hy => ?_⟩
    · rw [wo _ (by omega), h2 _ (by omega), show 12 + x = 11 + 1 + x by omega, g1 x y hx hy]
      refine qf_c (fun k hk => ?_) _ (by omega)
      rw [w3 _ _ (by omega) (by omega)]
      congr 1
      omega
    · rw [wo _ (by omega), show 21 + x = 20 + 1 + x by omega, g2 x y hx hy]
      refine qf_c (fun k hk => ?_) _ (by omega)
      rw [h1 _ (by omega), w3 _ _ (by omega) (by omega)]
      congr 1
      omega
  · unfold nv_w
    rw [w105, ww 29 (by omega) (by decide), ww 30 (by omega) (by decide), ww 31 (by omega) (by decide), ww 32 (by omega) (by decide), ww 33 (by omega) (by decide), ww 34 (by omega) (by decide), ww 35 (by omega) (by decide), ww 36 (by omega) (by decide), ww 37 (by omega) (by decide), ww 108 (by omega) (by decide), ww 109 (by omega) (by decide), ww 110 (by omega) (by decide), ww 111 (by omega) (by decide), ww 112 (by omega) (by decide), ww 113 (by omega) (by decide), ww 114 (by omega) (by decide), ww 115 (by omega) (by decide)]
    exact hw
  · unfold nv_a
    rw [w105, ww 38 (by omega) (by decide), ww 39 (by omega) (by decide), ww 40 (by omega) (by decide), ww 41 (by omega) (by decide), ww 124 (by omega) (by decide), ww 125 (by omega) (by decide), ww 126 (by omega) (by decide)]
    exact ha
  · unfold nv_p
    rw [w105, ww 42 (by omega) (by decide), ww 43 (by omega) (by decide), ww 44 (by omega) (by decide), ww 45 (by omega) (by decide), ww 46 (by omega) (by decide), ww 47 (by omega) (by decide), ww 48 (by omega) (by decide), ww 49 (by omega) (by decide), ww 50 (by omega) (by decide), ww 51 (by omega) (by decide), ww 52 (by omega) (by decide), ww 53 (by omega) (by decide), ww 127 (by omega) (by decide), ww 128 (by omega) (by decide), ww 129 (by omega) (by decide), ww 130 (by omega) (by decide), ww 131 (by omega) (by decide), ww 132 (by omega) (by decide), ww 133 (by omega) (by decide), ww 134 (by omega) (by decide), ww 135 (by omega) (by decide), ww 136 (by omega) (by decide), ww 137 (by omega) (by decide)]
    exact hp
  · unfold nv_o
    rw [w105, ww 54 (by omega) (by decide), ww 55 (by omega) (by decide), ww 56 (by omega) (by decide), ww 57 (by omega) (by decide), ww 58 (by omega) (by decide), ww 138 (by omega) (by decide), ww 139 (by omega) (by decide), ww 140 (by omega) (by decide), ww 141 (by omega) (by decide), ww 142 (by omega) (by decide)]
    exact ho
  · unfold nv_b
    rw [w105, ww 60 (by omega) (by decide), ww 61 (by omega) (by decide), ww 62 (by omega) (by decide), ww 63 (by omega) (by decide), ww 143 (by omega) (by decide), ww 144 (by omega) (by decide), ww 145 (by omega) (by decide)]
    exact hb
  · unfold nv_f
    rw [w105, ww 80 (by omega) (by decide), ww 81 (by omega) (by decide), ww 116 (by omega) (by decide)]
    exact hf
-- feed
theorem i8_8 (x : Int32) : x.toInt8.toInt32.toInt8 = x.toInt8 := by
  apply Int8.toBitVec_inj.mp
  simp
theorem q_byte (z : Int64) : ((z.toInt32).toInt8.toInt32).toInt8.toInt32 = ((z &&& (255 : Int64)).toInt32).toInt8.toInt32 ∧ zb ((z &&& (255 : Int64)).toInt32) 255 := by
  constructor
  · rw [i8_8]
    congr 1
    apply Int8.toBitVec_inj.mp
    apply BitVec.eq_of_getLsbD_eq
    intro i hi
    have h255 : ∀ i, i < 8 → (255 : Int64).toBitVec.getLsbD i = true := by decide
    simp only [Int32.toBitVec_toInt8, Int64.toBitVec_toInt32, BitVec.getLsbD_signExtend, Int64.toBitVec_and, BitVec.getLsbD_and]
    simp [show i < 32 by omega, show i < 64 by omega, hi, h255 i hi]
    intro _
    exact h255 i hi
  · have h : (z &&& (255 : Int64)).toBitVec.toNat ≤ 255 := by
      rw [Int64.toBitVec_and, BitVec.toNat_and]
      exact Nat.and_le_right
    have h2 : pz_n ((z &&& (255 : Int64)).toInt32) = (z &&& (255 : Int64)).toBitVec.toNat := by
      unfold pz_n
      rw [Int64.toBitVec_toInt32, BitVec.signExtend_eq_setWidth_of_le _ (by decide), BitVec.toNat_setWidth, Nat.mod_eq_of_lt (by omega)]
    rw [pz_of h2 (by omega)]
    exact zb_n h (by decide)
/-- the bytes of a number as the class keeps them, behind s others -/
def fdc (f : Nat → Int32) (l2 : Int64) (s : Nat) : Nat → Nat → Int32
  | 0 => f
  | k + 1 => upd (fdc f l2 s k) (s + k) ((((l2 >>> (((8 : Int32) * (nI k)).toInt64 &&& 63)).toInt32).toInt8.toInt32).toInt8.toInt32)
def fdm (f : Nat → Int32) (l2 : Int64) (s : Nat) : Nat → Nat → Int32
  | 0 => f
  | k + 1 => upd (fdm f l2 s k) (s + k) (((l2 >>> (((8 : Int32) * (nI k)).toInt64 &&& 63)) &&& (255 : Int64)).toInt32)
theorem fd_r {f g : Nat → Int32} {l2 : Int64} {s : Nat} (h : ∀ i, i < s → f i = (g i).toInt8.toInt32 ∧ zb (g i) 255) : ∀ k i, i < s + k → fdc f l2 s k i = (fdm g l2 s k i).toInt8.toInt32 ∧ zb (fdm g l2 s k i) 255
  | 0, i, hi => h i hi
  | k + 1, i, hi => by
    unfold fdc fdm upd
    by_cases c : i = s + k
    · rw [if_pos c, if_pos c]
      exact q_byte _
    · rw [if_neg c, if_neg c]
      exact fd_r h k i (by omega)
set_option maxRecDepth 20000 in
theorem cs_148 {G : ab_G} {L : Nat} {xs : Nat → Int32} {l : Launch} {d : Nat} {i1 : Int32} {l2 : Int64} {V : aa_V} {Q : Int32 → Int32 → aa_V → Prop} (hI : nv V) (hQ : ∀ x W, nv W → Q x x W) :
    ab_E G (ac_ST L xs) l (d + 2) ac_SK 148 [.ref 0, .int i1, .long l2] V (aa_rI fun x V1 => ab_E G (ac_ST L xs) l (d + 2) ac_SK 213 [.ref 105, .int i1, .long l2] V1 (aa_rI fun y W => Q x y W)) := by
  obtain ⟨hn, hr, hw, ha, hp, ho, hb, hk, hs, hf, ht⟩ := id hI
  obtain ⟨⟨f1, f2⟩, f3⟩ := id hf
  obtain ⟨s, hss, hm⟩ := zb_i f2
  have hN : (V 80 1).toNatClampNeg = s := by rw [hss]; exact zz_ix (by omega)
  have zl_160 : (160 : Int32).toInt = 160 := by decide
  refine iv_148_0 ⟨fun c1 => ?_, fun c1 => ⟨fun c2 => ?_, fun c2 => ?_⟩⟩
  · exact iv_213_0 ⟨fun _ => hQ _ _ hI, fun q => absurd c1 q⟩
  · exact iv_213_0 ⟨fun q => absurd q c1, fun _ => ⟨fun _ => hQ _ _ hI, fun q => absurd c2 q⟩⟩
  have z1 : zb i1 8 := by
    simp only [zz_lt, zl_1, zl_8] at c1 c2
    exact zb_of_r (by omega) (by omega) (by decide)
  obtain ⟨n, rfl, hn8⟩ := zb_i z1
  rw [hN] at f3
  refine iv_27_0 ?_
  rw [hss, nI_plus]
  refine ⟨fun c3 => ?_, fun c3 => ?_⟩
  · refine iv_213_0 ⟨fun q => absurd q c1, fun _ => ⟨fun q => absurd q c2, fun _ => ?_⟩⟩
    rw [f1, hss, nI_plus]
    exact ⟨fun _ => hQ _ _ hI, fun q => absurd c3 q⟩
  · have hsn : s + n ≤ 160 := by
      simp only [zz_lt, zl_160] at c3
      rw [nI_toInt (by omega)] at c3
      omega
    refine zz_up (σ := aa_V) (fun k X => ab_J G (ac_ST L xs) l (d + 1) 27 18 [some (.ref 80), some (.int (nI n)), some (.long l2), none, some (.int (nI k))] [] ac_SK X ac_SK (aa_rI fun x V1 => ab_E G (ac_ST L xs) l (d + 2) ac_SK 213 [.ref 105, .int (nI n), .long l2] V1 (aa_rI fun y W => Q x y W))) (fun k X => (∀ c, c ≠ 80 → c ≠ 81 → X c = V c) ∧ (∀ j, j ≠ 1 → X 80 j = V 80 j) ∧ X 80 1 = nI (s + k) ∧ X 81 = fdc (V 81) l2 s k) n ?_ ?_ 0 V (Nat.zero_le _) ⟨fun _ _ _ => rfl, fun _ _ => rfl, hss, rfl⟩
    · rintro X ⟨x1, x2, x3, x4⟩
      refine iv_27_18 ⟨fun q => absurd q (nI_nl (Nat.le_refl _) (by omega)), fun _ => ?_⟩
      dsimp only [aa_rI]
      rw [x3]
      have e105 := x1 105 (by decide) (by decide)
      refine iv_213_0 ?_
      rw [e105, f1, hss, nI_plus]
      refine ⟨fun q => absurd q c1, fun _ => ⟨fun q => absurd q c2, fun _ => ⟨fun q => absurd q c3, fun _ => ?_⟩⟩⟩
      refine zz_up (σ := aa_V) (fun k Y => ab_J G (ac_ST L xs) l (d + 2) 213 33 [some (.ref 105), some (.int (nI n)), some (.long l2), none, some (.int (nI k))] [] ac_SK Y ac_SK (aa_rI fun y W => Q (nI (s + n)) y W)) (fun k Y => (∀ c, c ≠ 105 → c ≠ 116 → Y c = X c) ∧ (∀ j, j ≠ 19 → Y 105 j = V 105 j) ∧ Y 105 19 = nI (s + k) ∧ Y 116 = fdm (V 116) l2 s k) n ?_ ?_ 0 X (Nat.zero_le _) ⟨fun _ _ _ => rfl, fun _ _ => by rw [e105], by rw [e105, f1, hss]; rfl, by rw [x1 116 (by decide) (by decide)]; rfl⟩
      · rintro W ⟨y1, y2, y3, y4⟩
        refine iv_213_33 ⟨fun q => absurd q (nI_nl (Nat.le_refl _) (by omega)), fun _ => ?_⟩
        dsimp only [aa_rI]
        rw [y3]
        refine hQ _ _ ?_
        have ww : ∀ c, c ≠ 80 → c ≠ 81 → c ≠ 105 → c ≠ 116 → W c = V c := fun c g1 g2 g3 g4 => by rw [y1 c g3 g4, x1 c g1 g2]
        have w80 : ∀ j, j ≠ 1 → W 80 j = V 80 j := fun j hj => by rw [y1 80 (by decide) (by decide), x2 j hj]
        refine ⟨?_, nv_rc (fun c h1 h2 => ww c (by omega) (by omega) (by omega) (by omega)) (ww 106 (by decide) (by decide) (by decide) (by decide)) hr, ?_, ?_, ?_, ?_, ?_, nv_kc (fun c h1 h2 => ww c (by omega) (by omega) (by omega) (by omega)) (ww 146 (by decide) (by decide) (by decide) (by decide)) (by rw [ww 64 (by decide) (by decide) (by decide) (by decide)]) (y2 60 (by decide)) hk, nv_sc (fun c h1 h2 => ww c (by omega) (by omega) (by omega) (by omega)) (ww 147 (by decide) (by decide) (by decide) (by decide)) (ww 148 (by decide) (by decide) (by decide) (by decide)) (ww 149 (by decide) (by decide) (by decide) (by decide)) (ww 73 (by decide) (by decide) (by decide) (by decide)) (ww 74 (by decide) (by decide) (by decide) (by decide)) hs, ?_, nv_tc (fun t ht => ⟨ww _ (by omega) (by omega) (by omega) (by omega), ww _ (by omega) (by omega) (by omega) (by omega)⟩) (ww 117 (by decide) (by decide) (by decide) (by decide)) (ww 118 (by decide) (by decide) (by decide) (by decide)) (ww 119 (by decide) (by decide) (by decide) (by decide)) (ww 120 (by decide) (by decide) (by decide) (by decide)) (y2 20 (by decide)) (y2 21 (by decide)) (y2 25 (by decide)) (by rw [ww 0 (by decide) (by decide) (by decide) (by decide)]) (by rw [ww 0 (by decide) (by decide) (by decide) (by decide)]) ht⟩
        · unfold nv_n
          rw [y2 2 (by decide), ww 0 (by decide) (by decide) (by decide) (by decide)]
          exact hn
        · unfold nv_w
          rw [y2 11 (by decide), y2 12 (by decide), ww 29 (by decide) (by decide) (by decide) (by decide), ww 30 (by decide) (by decide) (by decide) (by decide), ww 31 (by decide) (by decide) (by decide) (by decide), ww 32 (by decide) (by decide) (by decide) (by decide), ww 33 (by decide) (by decide) (by decide) (by decide), ww 34 (by decide) (by decide) (by decide) (by decide), ww 35 (by decide) (by decide) (by decide) (by decide), ww 36 (by decide) (by decide) (by decide) (by decide), ww 37 (by decide) (by decide) (by decide) (by decide), ww 108 (by decide) (by decide) (by decide) (by decide), ww 109 (by decide) (by decide) (by decide) (by decide), ww 110 (by decide) (by decide) (by decide) (by decide), ww 111 (by decide) (by decide) (by decide) (by decide), ww 112 (by decide) (by decide) (by decide) (by decide), ww 113 (by decide) (by decide) (by decide) (by decide), ww 114 (by decide) (by decide) (by decide) (by decide), ww 115 (by decide) (by decide) (by decide) (by decide)]
          exact hw
        · unfold nv_a
          rw [y2 34 (by decide), ww 38 (by decide) (by decide) (by decide) (by decide), ww 39 (by decide) (by decide) (by decide) (by decide), ww 40 (by decide) (by decide) (by decide) (by decide), ww 41 (by decide) (by decide) (by decide) (by decide), ww 124 (by decide) (by decide) (by decide) (by decide), ww 125 (by decide) (by decide) (by decide) (by decide), ww 126 (by decide) (by decide) (by decide) (by decide)]
          exact ha
        · have r : ∀ c, (41 < c ∧ c < 54 ∨ 126 < c) → W c = V c := fun c h => ww c (by omega) (by omega) (by omega) (by omega)
          unfold nv_p
          rw [y2 46 (by decide), y2 47 (by decide), y2 48 (by decide), r 42 (by omega), r 43 (by omega), r 44 (by omega), r 45 (by omega), r 46 (by omega), r 47 (by omega), r 48 (by omega), r 49 (by omega), r 50 (by omega), r 51 (by omega), r 52 (by omega), r 53 (by omega), r 127 (by omega), r 128 (by omega), r 129 (by omega), r 130 (by omega), r 131 (by omega), r 132 (by omega), r 133 (by omega), r 134 (by omega), r 135 (by omega), r 136 (by omega), r 137 (by omega)]
          exact hp
        · have r : ∀ c, (53 < c ∧ c < 59 ∨ 126 < c) → W c = V c := fun c h => ww c (by omega) (by omega) (by omega) (by omega)
          unfold nv_o
          rw [y2 54 (by decide), r 54 (by omega), r 55 (by omega), r 56 (by omega), r 57 (by omega), r 58 (by omega), r 138 (by omega), r 139 (by omega), r 140 (by omega), r 141 (by omega), r 142 (by omega)]
          exact ho
        · have r : ∀ c, (53 < c ∧ c < 65 ∨ 126 < c) → W c = V c := fun c h => ww c (by omega) (by omega) (by omega) (by omega)
          unfold nv_b
          rw [y2 58 (by decide), r 60 (by omega), r 61 (by omega), r 62 (by omega), r 63 (by omega), r 143 (by omega), r 144 (by omega), r 145 (by omega)]
          exact hb
        · have w80' : W 80 1 = nI (s + n) := by rw [y1 80 (by decide) (by decide), x3]
          have w81 : W 81 = fdc (V 81) l2 s n := by rw [y1 81 (by decide) (by decide), x4]
          unfold nv_f
          rw [w80', y3, y4, w81, zz_ix (by omega)]
          exact ⟨⟨rfl, zb_n hsn (by decide)⟩, fun i hi => fd_r f3 n i hi⟩
      · rintro k Y hk ⟨y1, y2, y3, y4⟩ ih
        refine iv_213_33 ⟨fun _ => ?_, fun q => absurd ((zz_nlt (by omega) (by omega)).mpr hk) q⟩
        have e2 : nI (s + k) + (1 : Int32) = nI (s + k + 1) := by rw [nI_succ]
        rw [y3, e2]
        refine ⟨vp_in_nI (by omega) (by decide), ?_⟩
        rw [zz_ix (by omega)]
        have := ih (aa_up (aa_up Y 116 (s + k) (((l2 >>> (((8 : Int32) * (nI k)).toInt64 &&& 63)) &&& (255 : Int64)).toInt32)) 105 19 (nI (s + k + 1))) ⟨fun c g1 g2 => by rw [aa_up_c g1, aa_up_c g2, y1 c g1 g2], fun j hj => by rw [aa_up_o hj, aa_up_c (by decide), y2 j hj], by rw [aa_up_s, Nat.add_assoc], by
          rw [aa_up_c (by decide)]
          show upd (Y 116) (s + k) _ = _
          rw [y4]
          rfl⟩
        rw [nI_succ] at this
        exact this
    · rintro k X hk ⟨x1, x2, x3, x4⟩ ih
      refine iv_27_18 ⟨fun _ => ?_, fun q => absurd ((zz_nlt (by omega) (by omega)).mpr hk) q⟩
      have e2 : nI (s + k) + (1 : Int32) = nI (s + k + 1) := by rw [nI_succ]
      rw [x3, e2]
      refine ⟨vp_in_nI (by omega) (by decide), ?_⟩
      rw [zz_ix (by omega)]
      have := ih (aa_up (aa_up X 81 (s + k) ((((l2 >>> (((8 : Int32) * (nI k)).toInt64 &&& 63)).toInt32).toInt8.toInt32).toInt8.toInt32)) 80 1 (nI (s + k + 1))) ⟨fun c g1 g2 => by rw [aa_up_c g1, aa_up_c g2, x1 c g1 g2], fun j hj => by rw [aa_up_o hj, aa_up_c (by decide), x2 j hj], by rw [aa_up_s, Nat.add_assoc], by
        rw [aa_up_c (by decide)]
        show upd (X 81) (s + k) _ = _
        rw [x4]
        rfl⟩
      rw [nI_succ] at this
      exact this
