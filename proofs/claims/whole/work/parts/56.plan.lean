/-! row, plan -/
section
variable {V W : aa_V}
theorem nv_nG (e : W 105 2 = V 105 2) (e0 : W 0 = V 0) (h : nv_n V) : nv_n W := by
  unfold nv_n
  rw [e, e0]
  exact h
theorem nv_wG (g : ∀ c, (28 < c ∧ c < 38) ∨ (107 < c ∧ c < 116) → W c = V c) (e1 : W 105 11 = V 105 11) (e2 : W 105 12 = V 105 12) (h : nv_w V) : nv_w W := by
  unfold nv_w
  rw [e1, e2, g 29 (by omega), g 30 (by omega), g 31 (by omega), g 32 (by omega), g 33 (by omega), g 34 (by omega), g 35 (by omega), g 36 (by omega), g 37 (by omega), g 108 (by omega), g 109 (by omega), g 110 (by omega), g 111 (by omega), g 112 (by omega), g 113 (by omega), g 114 (by omega), g 115 (by omega)]
  exact h
theorem nv_aG (g : ∀ c, (37 < c ∧ c < 42) ∨ (123 < c ∧ c < 127) → W c = V c) (e1 : W 105 34 = V 105 34) (h : nv_a V) : nv_a W := by
  unfold nv_a
  rw [e1, g 38 (by omega), g 39 (by omega), g 40 (by omega), g 41 (by omega), g 124 (by omega), g 125 (by omega), g 126 (by omega)]
  exact h
theorem nv_pG (g : ∀ c, (41 < c ∧ c < 54) ∨ (126 < c ∧ c < 138) → W c = V c) (e1 : W 105 46 = V 105 46) (e2 : W 105 47 = V 105 47) (e3 : W 105 48 = V 105 48) (h : nv_p V) : nv_p W := by
  unfold nv_p
  rw [e1, e2, e3, g 42 (by omega), g 43 (by omega), g 44 (by omega), g 45 (by omega), g 46 (by omega), g 47 (by omega), g 48 (by omega), g 49 (by omega), g 50 (by omega), g 51 (by omega), g 52 (by omega), g 53 (by omega), g 127 (by omega), g 128 (by omega), g 129 (by omega), g 130 (by omega), g 131 (by omega), g 132 (by omega), g 133 (by omega), g 134 (by omega), g 135 (by omega), g 136 (by omega), g 137 (by omega)]
  exact h
theorem nv_oG (g : ∀ c, (53 < c ∧ c < 59) ∨ (137 < c ∧ c < 143) → W c = V c) (e1 : W 105 54 = V 105 54) (h : nv_o V) : nv_o W := by
  unfold nv_o
  rw [e1, g 54 (by omega), g 55 (by omega), g 56 (by omega), g 57 (by omega), g 58 (by omega), g 138 (by omega), g 139 (by omega), g 140 (by omega), g 141 (by omega), g 142 (by omega)]
  exact h
theorem nv_bG (g : ∀ c, (59 < c ∧ c < 64) ∨ (142 < c ∧ c < 146) → W c = V c) (e1 : W 105 58 = V 105 58) (h : nv_b V) : nv_b W := by
  unfold nv_b
  rw [e1, g 60 (by omega), g 61 (by omega), g 62 (by omega), g 63 (by omega), g 143 (by omega), g 144 (by omega), g 145 (by omega)]
  exact h
theorem nv_fG (g1 : W 80 = V 80) (g2 : W 81 = V 81) (g3 : W 116 = V 116) (e1 : W 105 19 = V 105 19) (h : nv_f V) : nv_f W := by
  unfold nv_f
  rw [e1, g1, g2, g3]
  exact h
end
-- row
def rsd (l : Int64) : Nat → Int64
  | 0 => l
  | w + 1 => rsd l w / (100 : Int64)
def dgl (l : Int64) (w : Nat) : Int32 := (rsd l w - rsd l w / (100 : Int64) * (100 : Int64)).toInt32
theorem rsd_n {l : Int64} (h : 0 ≤ l.toInt) : ∀ w, 0 ≤ (rsd l w).toInt
  | 0 => h
  | w + 1 => by
    show 0 ≤ (rsd l w / (100 : Int64)).toInt
    have ih := rsd_n h w
    have hl := Int64.toInt_lt (rsd l w)
    rw [Int64.toInt_div, show (100 : Int64).toInt = 100 by decide, Int.tdiv_eq_ediv_of_nonneg ih, Int.bmod_eq_of_le] <;> omega
theorem dgl_b {l : Int64} (h : 0 ≤ l.toInt) (w : Nat) : zb (dgl l w) 99 := by
  have ih := rsd_n h w
  have hl := Int64.toInt_lt (rsd l w)
  have h1 : (rsd l w / (100 : Int64)).toInt = (rsd l w).toInt / 100 := by
    rw [Int64.toInt_div, show (100 : Int64).toInt = 100 by decide, Int.tdiv_eq_ediv_of_nonneg ih, Int.bmod_eq_of_le] <;> omega
  have h2 : (rsd l w / (100 : Int64) * (100 : Int64)).toInt = (rsd l w).toInt / 100 * 100 := by
    rw [Int64.toInt_mul, h1, show (100 : Int64).toInt = 100 by decide, Int.bmod_eq_of_le] <;> omega
  have h3 : (rsd l w - rsd l w / (100 : Int64) * (100 : Int64)).toInt = (rsd l w).toInt % 100 := by
    rw [Int64.toInt_sub, h2, Int.bmod_eq_of_le] <;> omega
  have h4 : (dgl l w).toInt = (rsd l w).toInt % 100 := by
    unfold dgl
    rw [Int64.toInt_toInt32, h3, Int.bmod_eq_of_le] <;> omega
  exact zb_of_r (by omega) (by omega) (by decide)
set_option maxRecDepth 20000 in
theorem cs_174 {G : ab_G} {L : Nat} {xs : Nat → Int32} {l : Launch} {d : Nat} {l1 : Int64} {V : aa_V} {Q : Int32 → Int32 → aa_V → Prop} (hI : nv V) (hQ : ∀ x W, nv W → Q x x W) :
    ab_E G (ac_ST L xs) l (d + 2) ac_SK 174 [.ref 0, .long l1] V (aa_rI fun x V1 => ab_E G (ac_ST L xs) l (d + 2) ac_SK 269 [.ref 105, .long l1] V1 (aa_rI fun y W => Q x y W)) := by
  obtain ⟨hn, hr, hw, ha, hp, ho, hb, hk, hs, hf, ht⟩ := id hI
  obtain ⟨⟨k1, k2⟩, k3⟩ := id hk
  obtain ⟨m, hm, hm6⟩ := zb_i k2
  have t0 : (0 : Int64).toInt = 0 := by decide
  have t1 : (10000000000 : Int64).toInt = 10000000000 := by decide
  have t2 : (9999999999 : Int64).toInt = 9999999999 := by decide
  have isin : ∀ (X : aa_V) (K : aa_K), (¬ (¬ l1 < 0 ∧ l1 < (10000000000 : Int64)) → K (some (.int (0 : Int32))) X) → (¬ l1 < 0 → l1 < (10000000000 : Int64) → K (some (.int (1 : Int32))) X) → ab_E G (ac_ST L xs) l (d + 1) ac_SK 192 [.long l1, .long (0 : Int64), .long (9999999999 : Int64)] X K := fun X K h0 h1 => by
    refine vc_192_0 ⟨fun q => ⟨Or.inl rfl, h0 (fun z => z.1 (zz_cl.mp q))⟩, fun q => ⟨fun q2 => ⟨Or.inl rfl, h0 (fun z => ?_)⟩, fun q2 => ⟨Or.inr rfl, h1 (fun z => q (zz_cl.mpr z)) ?_⟩⟩⟩
    · have q2 := zz_cg.mp q2
      have z2 := z.2
      rw [Int64.lt_iff_toInt_lt] at q2 z2
      omega
    · have q2 : ¬ (9999999999 : Int64) < l1 := fun z => q2 (zz_cg.mpr z)
      rw [Int64.lt_iff_toInt_lt] at q2 ⊢
      omega
  refine iv_174_0 ⟨fun c => ?_, fun c => ⟨fun c2 => ?_, fun c2 => ?_⟩⟩
  · exact iv_269_0 (isin V _ (fun _ => ⟨fun _ => hQ _ _ hI, fun z => absurd rfl z⟩) (fun z _ => absurd (zz_cl.mp c) z))
  · have c : ¬ l1 < 0 := fun z => c (zz_cl.mpr z)
    replace c2 := zz_cl.mp c2
    have hl0 : 0 ≤ l1.toInt := by
      rw [Int64.lt_iff_toInt_lt] at c
      omega
    rcases Nat.lt_or_ge m 6 with hlt | hge
    · have vm : vp_in (nI m) 6 := vp_in_nI hlt (by decide)
      have em : (nI m).toNatClampNeg = m := zz_ix (by omega)
      refine iv_97_0 ⟨fun _ => ?_, fun q => absurd (by rw [hm]; exact (zz_nlt (b := 6) (by omega) (by decide)).mpr hlt) q⟩
      refine zz_up (σ := aa_V) (fun w X => ab_J G (ac_ST L xs) l (d + 1) 97 17 [some (.ref 64), none, none, some (.long (rsd l1 w)), none, some (.int (nI w))] [] ac_SK X ac_SK (aa_rI fun x V1 => ab_E G (ac_ST L xs) l (d + 2) ac_SK 269 [.ref 105, .long l1] V1 (aa_rI fun y W => Q x y W))) (fun w X => (∀ c, c ≠ 66 + m → X c = V c) ∧ ∀ j, j < w → X (66 + m) j = dgl l1 j) 5 ?_ ?_ 0 V (Nat.zero_le _) ⟨fun _ _ => rfl, fun j hj => absurd hj (Nat.not_lt_zero _)⟩
      · rintro X ⟨x1, x2⟩
        refine iv_97_17 ⟨fun q => absurd q (by decide), fun _ => ?_⟩
        dsimp only [aa_rI]
        rw [x1 64 (by omega), hm, ← nI_succ]
        refine iv_269_0 (isin _ _ (fun z => absurd ⟨c, c2⟩ z) (fun _ _ => ⟨fun z => absurd z (by decide), fun _ => ?_⟩))
        obtain ⟨Y0, hY0⟩ : ∃ Y0, Y0 = aa_up X 64 0 (nI (m + 1)) := ⟨_, rfl⟩
        rw [← hY0]
        have e105 : Y0 105 = V 105 := by rw [hY0, aa_up_c (by decide), x1 105 (by omega)]
        rw [e105, k1, hm]
        refine ⟨fun z => absurd z (fun z => by have := nI_j (b := 6) (by omega) (by decide) z; omega), fun _ => ?_⟩
        refine zz_up (σ := aa_V) (fun w Y => ab_J G (ac_ST L xs) l (d + 2) 269 31 [some (.ref 105), none, none, some (.long (rsd l1 w)), none, some (.int (nI w))] [] ac_SK Y ac_SK (aa_rI fun y W => Q (nI (m + 1) - 1) y W)) (fun w Y => (∀ c, c ≠ 146 → Y c = Y0 c) ∧ (∀ j, j < w → Y 146 (5 * m + j) = dgl l1 j) ∧ ∀ k, ¬ (5 * m ≤ k ∧ k < 5 * m + 5) → Y 146 k = V 146 k) 5 ?_ ?_ 0 Y0 (Nat.zero_le _) ⟨fun _ _ => rfl, fun j hj => absurd hj (Nat.not_lt_zero _), fun k _ => by rw [hY0, aa_up_c (by decide), x1 146 (by omega)]⟩
        · rintro Y ⟨y1, y2, y3⟩
          refine iv_269_31 ⟨fun q => absurd q (by decide), fun _ => ?_⟩
          dsimp only [aa_rI]
          rw [y1 105 (by decide), e105, k1, hm, ← nI_succ]
          refine hQ _ _ ?_
          obtain ⟨W, hW⟩ : ∃ W, W = aa_up Y 105 60 (nI (m + 1)) := ⟨_, rfl⟩
          rw [← hW]
          have w105 : ∀ j, j ≠ 60 → W 105 j = V 105 j := fun j hj => by rw [hW, aa_up_o hj, y1 105 (by decide), e105]
          have wc : ∀ c, c ≠ 105 → c ≠ 146 → W c = Y0 c := fun c g1 g2 => by rw [hW, aa_up_c g1, y1 c g2]
          have ww : ∀ c, (c < 64 ∨ (64 < c ∧ c < 66) ∨ (71 < c ∧ c < 105) ∨ (105 < c ∧ c < 146) ∨ 146 < c) → W c = V c := fun c h => by rw [wc c (by omega) (by omega), hY0, aa_up_c (by omega), x1 c (by omega)]
          have w146 : W 146 = Y 146 := by rw [hW, aa_up_c (by decide)]
          refine ⟨nv_nG (w105 2 (by decide)) (ww 0 (by omega)) hn, nv_rc (fun c h1 h2 => ww c (by omega)) (ww 106 (by omega)) hr, nv_wG (fun c h => ww c (by omega)) (w105 11 (by decide)) (w105 12 (by decide)) hw, nv_aG (fun c h => ww c (by omega)) (w105 34 (by decide)) ha, nv_pG (fun c h => ww c (by omega)) (w105 46 (by decide)) (w105 47 (by decide)) (w105 48 (by decide)) hp, nv_oG (fun c h => ww c (by omega)) (w105 54 (by decide)) ho, nv_bG (fun c h => ww c (by omega)) (w105 58 (by decide)) hb, ?_, nv_sc (fun c h1 h2 => ww c (by omega)) (ww 147 (by omega)) (ww 148 (by omega)) (ww 149 (by omega)) (ww 73 (by omega)) (ww 74 (by omega)) hs, nv_fG (ww 80 (by omega)) (ww 81 (by omega)) (ww 116 (by omega)) (w105 19 (by decide)) hf, nv_tc (fun t ht => ⟨ww _ (by omega), ww _ (by omega)⟩) (ww 117 (by omega)) (ww 118 (by omega)) (ww 119 (by omega)) (ww 120 (by omega)) (w105 20 (by decide)) (w105 21 (by decide)) (w105 25 (by decide)) (by rw [ww 0 (by omega)]) (by rw [ww 0 (by omega)]) ht⟩
          have w64 : W 64 0 = nI (m + 1) := by rw [wc 64 (by decide) (by decide), hY0, aa_up_s]
          have w60 : W 105 60 = nI (m + 1) := by rw [hW, aa_up_s]
          unfold nv_k
          rw [w64, w60, w146]
          refine ⟨⟨rfl, zb_n (by omega) (by decide)⟩, fun r w hr hw => ?_⟩
          by_cases q : r = m
          · subst q
            rw [wc (66 + r) (by omega) (by omega), hY0, aa_up_c (by omega), x2 w hw, y2 w hw]
            exact ⟨rfl, dgl_b hl0 w⟩
          · rw [wc (66 + r) (by omega) (by omega), hY0, aa_up_c (by omega), x1 (66 + r) (by omega), y3 _ (by omega)]
            exact k3 r w hr hw
        · rintro w Y hw ⟨y1, y2, y3⟩ ih
          have e5 : (5 : Int32) * nI m + nI w = nI (5 * m + w) := (show ∀ m, m < 6 → ∀ w, w < 5 → (5 : Int32) * nI m + nI w = nI (5 * m + w) by decide +kernel) m hlt w hw
          refine iv_269_31 ⟨fun _ => ?_, fun q => absurd (show nI w < nI 5 from (zz_nlt (by omega) (by decide)).mpr hw) q⟩
          rw [y1 105 (by decide), e105, k1, hm, e5, zz_ix (by omega)]
          refine ⟨by decide, vp_in_nI (by omega) (by decide), by decide, ?_⟩
          have := ih (aa_up Y 146 (5 * m + w) (dgl l1 w)) ⟨fun c hc => (aa_up_c hc).trans (y1 c hc), fun j hj => by
            by_cases q : j = w
            · rw [q, aa_up_s]
            · rw [aa_up_o (by omega)]
              exact y2 j (by omega), fun k hk => by
            rw [aa_up_o (by omega)]
            exact y3 k hk⟩
          rw [nI_succ] at this
          exact this
      · rintro w X hw ⟨x1, x2⟩ ih
        have vw : vp_in (nI w) 5 := vp_in_nI hw (by decide)
        refine iv_97_17 ⟨fun _ => ?_, fun q => absurd (show nI w < nI 5 from (zz_nlt (by omega) (by decide)).mpr hw) q⟩
        rw [x1 64 (by omega), hm]
        refine ⟨6, _, 66 + (nI m).toNatClampNeg, rfl, vm, zq_65 vm, by decide, 5, [], zs_65 vm, vw, by decide, ?_⟩
        rw [em, zz_ix (by omega)]
        have := ih (aa_up X (66 + m) w (dgl l1 w)) ⟨fun c hc => (aa_up_c hc).trans (x1 c hc), fun j hj => by
          by_cases q : j = w
          · rw [q, aa_up_s]
          · rw [aa_up_o (by omega)]
            exact x2 j (by omega)⟩
        rw [nI_succ] at this
        exact this
    · have h6 : m = 6 := by omega
      subst h6
      refine iv_97_0 ⟨fun q => absurd q (by rw [hm]; decide), fun _ => ?_⟩
      refine iv_269_0 (isin V _ (fun z => absurd ⟨c, c2⟩ z) (fun _ _ => ⟨fun z => absurd z (by decide), fun _ => ⟨fun _ => hQ _ _ hI, fun z => absurd (by rw [k1, hm]; rfl) z⟩⟩))
  · exact iv_269_0 (isin V _ (fun _ => ⟨fun _ => hQ _ _ hI, fun z => absurd rfl z⟩) (fun _ z => absurd (zz_cl.mpr z) c2))
-- plan
def dgt (n : Nat) (p : Int32) (w : Nat) : Int32 := ((p / (ac_zr1 (((nI n - (1 : Int32)) - (nI w))).toNatClampNeg)) - (p / (ac_zr1 (((nI n - (1 : Int32)) - (nI w))).toNatClampNeg)) / (3 : Int32) * (3 : Int32))
theorem dgt_w {n w : Nat} (hn : n ≤ 5) (hw : w < n) : (nI n - (1 : Int32)) - nI w = nI (n - 1 - w) := (show ∀ n, n < 6 → ∀ w, w < n → (nI n - (1 : Int32)) - nI w = nI (n - 1 - w) by decide +kernel) n (by omega) w hw
theorem dgt_v {n w : Nat} (hn : n ≤ 5) (hw : w < n) : (nI n - (1 : Int32)) - (nI w - (1 : Int32)) = nI (n - w) := (show ∀ n, n < 6 → ∀ w, w < n → (nI n - (1 : Int32)) - (nI w - (1 : Int32)) = nI (n - w) by decide +kernel) n (by omega) w hw
theorem dgt_r {n p w : Nat} (hn : n ≤ 5) (hp : p < 243) (hw : w < n) : dgt n (nI p) w = 0 ∨ dgt n (nI p) w = 1 ∨ dgt n (nI p) w = 2 := (show ∀ n, n < 6 → ∀ w, w < n → ∀ p, p < 243 → dgt n (nI p) w = 0 ∨ dgt n (nI p) w = 1 ∨ dgt n (nI p) w = 2 by decide +kernel) n (by omega) w hw p hp
theorem q270 {k : Nat} (V : aa_V) (hk : k ≤ 5) : va_270 (nI k) V = ac_zr1 k := by
  unfold va_270 vl_270_4
  rw [zz_ix (by omega)]
  exact (show ∀ k, k < 6 → fo (fun (i_270 : Nat) (a_270 : Int32) => ((a_270 * (3 : Int32)) : Int32)) k (1 : Int32) = ac_zr1 k by decide +kernel) k (by omega)
theorem zr1_n {k : Nat} (hk : k ≤ 5) : ¬ ac_zr1 k = 0 := (show ∀ k, k < 6 → ¬ ac_zr1 k = 0 by decide +kernel) k (by omega)
theorem zr1_3 {k : Nat} (hk : k ≤ 5) : ac_zr1 k = nI (3 ^ k) := (show ∀ k, k < 6 → ac_zr1 k = nI (3 ^ k) by decide +kernel) k (by omega)
theorem q272 {V : aa_V} (hk : nv_k V) {r n p : Nat} (hr : r < 6) (hn : n ≤ 5) (hp : p < 243) : va_272 (nI r) (nI p) (nI n) V = va_101 (nI r) (nI p) (nI n) V := by
  have key := fo_r (f := fun (w : Nat) (a : Int32 × Int32) => if dgt n (nI p) w = 1 then ((a.1 + ((V (66 + r) w + 1) / 2)), dgt n (nI p) w) else if dgt n (nI p) w = 2 then (if a.2 = 2 then ((a.1 + V (66 + r) w), dgt n (nI p) w) else ((a.1 + ((V (66 + r) w + 2) / 3)), dgt n (nI p) w)) else ((a.1 + V (66 + r) w), dgt n (nI p) w)) (g := (fun (i_272 : Nat) (a_272 : Int32) => ((if (((nI p) / (va_270 (((nI n) - (1 : Int32)) - (nI i_272)) V)) - ((nI p) / (va_270 (((nI n) - (1 : Int32)) - (nI i_272)) V)) / (3 : Int32) * (3 : Int32)) = (2 : Int32) then (if 0 < (nI i_272) then (if (((nI p) / (va_270 (((nI n) - (1 : Int32)) - ((nI i_272) - (1 : Int32))) V)) - ((nI p) / (va_270 (((nI n) - (1 : Int32)) - ((nI i_272) - (1 : Int32))) V)) / (3 : Int32) * (3 : Int32)) = (2 : Int32) then (if (((nI p) / (va_270 (((nI n) - (1 : Int32)) - (nI i_272)) V)) - ((nI p) / (va_270 (((nI n) - (1 : Int32)) - (nI i_272)) V)) / (3 : Int32) * (3 : Int32)) = 0 then (a_272 + (V 146 (((((5 : Int32) * (nI r)) + (nI i_272))).toNatClampNeg))) else (a_272 + (V 146 (((((5 : Int32) * (nI r)) + (nI i_272))).toNatClampNeg)))) else (if (((nI p) / (va_270 (((nI n) - (1 : Int32)) - (nI i_272)) V)) - ((nI p) / (va_270 (((nI n) - (1 : Int32)) - (nI i_272)) V)) / (3 : Int32) * (3 : Int32)) = 0 then (a_272 + (V 146 (((((5 : Int32) * (nI r)) + (nI i_272))).toNatClampNeg))) else (if (((nI p) / (va_270 (((nI n) - (1 : Int32)) - (nI i_272)) V)) - ((nI p) / (va_270 (((nI n) - (1 : Int32)) - (nI i_272)) V)) / (3 : Int32) * (3 : Int32)) = (1 : Int32) then (a_272 + (((V 146 (((((5 : Int32) * (nI r)) + (nI i_272))).toNatClampNeg)) + (1 : Int32)) / (2 : Int32))) else (a_272 + (((V 146 (((((5 : Int32) * (nI r)) + (nI i_272))).toNatClampNeg)) + (2 : Int32)) / (3 : Int32)))))) else (if (((nI p) / (va_270 (((nI n) - (1 : Int32)) - (nI i_272)) V)) - ((nI p) / (va_270 (((nI n) - (1 : Int32)) - (nI i_272)) V)) / (3 : Int32) * (3 : Int32)) = 0 then (a_272 + (V 146 (((((5 : Int32) * (nI r)) + (nI i_272))).toNatClampNeg))) else (if (((nI p) / (va_270 (((nI n) - (1 : Int32)) - (nI i_272)) V)) - ((nI p) / (va_270 (((nI n) - (1 : Int32)) - (nI i_272)) V)) / (3 : Int32) * (3 : Int32)) = (1 : Int32) then (a_272 + (((V 146 (((((5 : Int32) * (nI r)) + (nI i_272))).toNatClampNeg)) + (1 : Int32)) / (2 : Int32))) else (a_272 + (((V 146 (((((5 : Int32) * (nI r)) + (nI i_272))).toNatClampNeg)) + (2 : Int32)) / (3 : Int32)))))) else (if (((nI p) / (va_270 (((nI n) - (1 : Int32)) - (nI i_272)) V)) - ((nI p) / (va_270 (((nI n) - (1 : Int32)) - (nI i_272)) V)) / (3 : Int32) * (3 : Int32)) = 0 then (a_272 + (V 146 (((((5 : Int32) * (nI r)) + (nI i_272))).toNatClampNeg))) else (if (((nI p) / (va_270 (((nI n) - (1 : Int32)) - (nI i_272)) V)) - ((nI p) / (va_270 (((nI n) - (1 : Int32)) - (nI i_272)) V)) / (3 : Int32) * (3 : Int32)) = (1 : Int32) then (a_272 + (((V 146 (((((5 : Int32) * (nI r)) + (nI i_272))).toNatClampNeg)) + (1 : Int32)) / (2 : Int32))) else (a_272 + (((V 146 (((((5 : Int32) * (nI r)) + (nI i_272))).toNatClampNeg)) + (2 : Int32)) / (3 : Int32)))))) : Int32))) (R := fun k a b => k ≤ n → (a.1 = b ∧ (k = 0 → a.2 = 0) ∧ (0 < k → a.2 = dgt n (nI p) (k - 1)))) (n := n) (a := ((0 : Int32), (0 : Int32))) (a' := (0 : Int32)) (fun _ => ⟨rfl, fun _ => rfl, fun z => absurd z (Nat.lt_irrefl _)⟩) (fun w hw a b ih hw2 => by
    obtain ⟨h1, h2, h3⟩ := ih (by omega)
    have e5 : (5 : Int32) * nI r + nI w = nI (5 * r + w) := (show ∀ m, m < 6 → ∀ w, w < 5 → (5 : Int32) * nI m + nI w = nI (5 * m + w) by decide +kernel) r hr w (by omega)
    have ed : ((nI p) / (va_270 ((nI n - (1 : Int32)) - (nI w)) V)) - ((nI p) / (va_270 ((nI n - (1 : Int32)) - (nI w)) V)) / (3 : Int32) * (3 : Int32) = dgt n (nI p) w := by
      unfold dgt
      rw [dgt_w hn hw, q270 V (by omega), zz_ix (by omega)]
    have ev : (V 146 (((((5 : Int32) * (nI r)) + (nI w))).toNatClampNeg)) = V (66 + r) w := by
      rw [e5, zz_ix (by omega)]
      exact (hk.2 r w hr (by omega)).1.symm
    have eq : (0 < nI w) ↔ 0 < w := zz_nlt (a := 0) (by decide) (by omega)
    have ee : 0 < w → ((nI p) / (va_270 ((nI n - (1 : Int32)) - ((nI w) - (1 : Int32))) V)) - ((nI p) / (va_270 ((nI n - (1 : Int32)) - ((nI w) - (1 : Int32))) V)) / (3 : Int32) * (3 : Int32) = dgt n (nI p) (w - 1) := fun hw0 => by
      unfold dgt
      rw [dgt_v hn hw, q270 V (by omega), dgt_w hn (by omega), zz_ix (by omega), show n - 1 - (w - 1) = n - w by omega]
    rw [ed, ev, h1]
    have hd := dgt_r hn hp hw
    generalize hdd : dgt n (nI p) w = dd at *
    have fin : ∀ x : Int32, (w + 1 = 0 → dd = 0) ∧ (0 < w + 1 → dd = dgt n (nI p) (w + 1 - 1)) := fun _ => ⟨fun z => by omega, fun _ => hdd.symm⟩
    rcases hd with q | q | q
    · subst q
      rw [if_neg (by decide), if_neg (by decide), if_neg (by decide), if_pos rfl]
      exact ⟨rfl, fin 0⟩
    · subst q
      rw [if_pos rfl, if_neg (by decide), if_neg (by decide), if_pos rfl]
      exact ⟨rfl, fin 0⟩
    · subst q
      rw [if_neg (by decide), if_pos rfl, if_pos rfl]
      by_cases w0 : 0 < w
      · rw [if_pos (eq.mpr w0), ee w0, ← h3 w0]
        by_cases c : a.2 = 2
        · rw [if_pos c, if_pos c, if_neg (by decide)]
          exact ⟨rfl, fin 0⟩
        · rw [if_neg c, if_neg c, if_neg (by decide), if_neg (by decide)]
          exact ⟨rfl, fin 0⟩
      · rw [if_neg (fun z => w0 (eq.mp z)), if_neg (by rw [h2 (by omega)]; decide), if_neg (by decide), if_neg (by decide)]
        exact ⟨rfl, fin 0⟩)
  have k2 := (key (Nat.le_refl _)).1
  unfold va_272 vl_272_6 va_101 vl_101_9
  rw [zz_ix (by omega), zz_ix (n := r) (by omega)]
  exact k2.symm
/-- the plans up to k: the best, its worst, its weeks with soldiers -/
def pst (V : aa_V) (n : Nat) : Nat → Int32 × Int32 × Int32
  | 0 => (0, va_100 0 (nI n) V, 0)
  | k + 1 => if va_100 (nI (k + 1)) (nI n) V < (pst V n k).2.1 then (nI (k + 1), va_100 (nI (k + 1)) (nI n) V, va_102 (nI (k + 1)) (nI n) V) else if va_100 (nI (k + 1)) (nI n) V = (pst V n k).2.1 then (if va_102 (nI (k + 1)) (nI n) V < (pst V n k).2.2 then (nI (k + 1), va_100 (nI (k + 1)) (nI n) V, va_102 (nI (k + 1)) (nI n) V) else pst V n k) else pst V n k
theorem pst_b (V : aa_V) (n : Nat) : ∀ k, ∃ t, t ≤ k ∧ (pst V n k).1 = nI t ∧ (pst V n k).2.1 = va_100 (nI t) (nI n) V
  | 0 => ⟨0, Nat.le_refl _, rfl, rfl⟩
  | k + 1 => by
    obtain ⟨t, h1, h2, h3⟩ := pst_b V n k
    unfold pst
    split
    · exact ⟨k + 1, Nat.le_refl _, rfl, rfl⟩
    · split
      · split
        · exact ⟨k + 1, Nat.le_refl _, rfl, rfl⟩
        · exact ⟨t, by omega, h2, h3⟩
      · exact ⟨t, by omega, h2, h3⟩
theorem q102_0 {n : Nat} (V : aa_V) (hn : n ≤ 5) : va_102 0 (nI n) V = 0 := by
  unfold va_102 vl_102_4
  rw [zz_ix (by omega)]
  exact (show ∀ n, n < 6 → fo (fun (i_102 : Nat) (a_102 : Int32) => ((if (((0 : Int32) / (ac_zr1 (((nI n - (1 : Int32)) - (nI i_102))).toNatClampNeg)) - ((0 : Int32) / (ac_zr1 (((nI n - (1 : Int32)) - (nI i_102))).toNatClampNeg)) / (3 : Int32) * (3 : Int32)) = (1 : Int32) then (a_102 + 1) else a_102) : Int32)) n 0 = 0 by decide +kernel) n (by omega)
section
variable {G : ab_G} {L : Nat} {xs : Nat → Int32} {l : Launch} {d : Nat} {V : aa_V} {K : aa_K}
theorem sp_100n {n : Nat} {p : Int32} (hk : nv_k V) (hn : n ≤ 5) (h : K (some (.int (va_100 p (nI n) V))) V) : ab_E G (ac_ST L xs) l (d + 3) ac_SK 100 [.ref 64, .int p, .int (nI n)] V K := by
  refine sp_100 hk.1.2 (zb_n hn (by decide)) (fun w hw => ?_) (fun w hw => ?_) h
  · rw [zz_ix (by omega)] at hw
    rw [dgt_w hn hw]
    exact (show vp_in (nI (n - 1 - w)) 6 from vp_in_nI (by omega) (by decide))
  · rw [zz_ix (by omega)] at hw
    rw [dgt_w hn hw, zz_ix (by omega)]
    exact zr1_n (by omega)
theorem sp_102n {n : Nat} {p : Int32} (hn : n ≤ 5) (h : K (some (.int (va_102 p (nI n) V))) V) : ab_E G (ac_ST L xs) l (d + 2) ac_SK 102 [.int p, .int (nI n)] V K := by
  refine sp_102 (zb_n (by omega) (by decide)) (fun w hw => ?_) (fun w hw => ?_) h
  · rw [zz_ix (by omega)] at hw
    rw [dgt_w hn hw]
    exact (show vp_in (nI (n - 1 - w)) 6 from vp_in_nI (by omega) (by decide))
  · rw [zz_ix (by omega)] at hw
    rw [dgt_w hn hw, zz_ix (by omega)]
    exact zr1_n (by omega)
theorem sp_272n {r n p : Nat} (hk : nv_k V) (hr : r < 6) (hn : n ≤ 5) (hp : p < 243) (h : K (some (.int (va_101 (nI r) (nI p) (nI n) V))) V) : ab_E G (ac_ST L xs) l (d + 3) ac_SK 272 [.ref 105, .int (nI r), .int (nI p), .int (nI n)] V K := by
  rw [← q272 hk hr hn hp] at h
  refine sp_272 (zb_n (by omega) (by decide)) (fun w hw => ?_) (fun w hw => ?_) (fun w hw => ?_) (fun w hw => ?_) (fun w hw => ?_) h
  · rw [zz_ix (by omega)] at hw
    rw [(show ∀ m, m < 6 → ∀ w, w < 5 → (5 : Int32) * nI m + nI w = nI (5 * m + w) by decide +kernel) r hr w (by omega)]
    exact vp_in_nI (by omega) (by decide)
  · rw [zz_ix (by omega)] at hw
    rw [dgt_w hn hw]
    exact zb_n (by omega) (by decide)
  · rw [zz_ix (by omega)] at hw
    rw [dgt_w hn hw, q270 V (by omega)]
    exact zr1_n (by omega)
  · rw [zz_ix (by omega)] at hw
    rw [dgt_v hn hw]
    exact zb_n (by omega) (by decide)
  · rw [zz_ix (by omega)] at hw
    rw [dgt_v hn hw, q270 V (by omega)]
    exact zr1_n (by omega)
/-- a plan measured by the reference -/
theorem sp_273s {n p : Nat} {i2 : Int32} (hk : nv_k V) (hn : n ≤ 5) (hp : p < 3 ^ n) (hp2 : p < 243) (h : ab_J G (ac_ST L xs) l (d + 4) 273 72 [some (.ref 105), some (.int (nI n)), some (.int i2), some (.int (nI p)), some (.int (va_100 (nI p) (nI n) V)), some (.int (va_102 (nI p) (nI n) V)), some (.int (nI n))] [] ac_SK V ac_SK K) :
    ab_J G (ac_ST L xs) l (d + 4) 273 9 [some (.ref 105), some (.int (nI n)), some (.int i2), some (.int (nI p)), none, none, none] [] ac_SK V ac_SK K := by
  obtain ⟨m, hm, hm6⟩ := zb_i hk.1.2
  have e60 : V 105 60 = nI m := by rw [hk.1.1, hm]
  refine iv_273_9 (sp_270 (zb_n (by omega) (by decide)) ?_)
  dsimp only [aa_rI]
  rw [q270 V hn, zr1_3 hn]
  have h243 : 3 ^ n ≤ 243 := Nat.le_trans (Nat.pow_le_pow_right (by decide) hn) (by decide)
  refine ⟨fun _ => ?_, fun q => absurd ((zz_nlt (by omega) (by omega)).mpr hp) q⟩
  refine zz_fo (fun (r : Nat) (a : Int32) => ((if a < (va_101 (nI r) (nI p) (nI n) V) then (va_101 (nI r) (nI p) (nI n) V) else a) : Int32)) (fun r a => ab_J G (ac_ST L xs) l (d + 4) 273 26 [some (.ref 105), some (.int (nI n)), some (.int i2), some (.int (nI p)), some (.int a), some (.int (0 : Int32)), some (.int (nI r))] [] ac_SK V ac_SK K) m 0 ?_ ?_
  · have e100 : va_100 (nI p) (nI n) V = fo (fun (r : Nat) (a : Int32) => ((if a < (va_101 (nI r) (nI p) (nI n) V) then (va_101 (nI r) (nI p) (nI n) V) else a) : Int32)) m 0 := by
      unfold va_100 vl_100_5
      rw [hm, zz_ix (by omega)]
    rw [← e100]
    refine iv_273_26 ⟨fun q => absurd q (zz_ge e60), fun _ => ?_⟩
    refine zz_fo (fun (w : Nat) (a : Int32) => ((if dgt n (nI p) w = (1 : Int32) then (a + 1) else a) : Int32)) (fun w a => ab_J G (ac_ST L xs) l (d + 4) 273 72 [some (.ref 105), some (.int (nI n)), some (.int i2), some (.int (nI p)), some (.int (va_100 (nI p) (nI n) V)), some (.int a), some (.int (nI w))] [] ac_SK V ac_SK K) n 0 ?_ ?_
    · have e102 : va_102 (nI p) (nI n) V = fo (fun (w : Nat) (a : Int32) => ((if dgt n (nI p) w = (1 : Int32) then (a + 1) else a) : Int32)) n 0 := by
        unfold va_102 vl_102_4
        rw [zz_ix (by omega)]
        rfl
      rw [← e102]
      exact h
    · intro w hw ih
      rw [fo_s, nI_succ] at ih
      generalize fo (fun (w : Nat) (a : Int32) => ((if dgt n (nI p) w = (1 : Int32) then (a + 1) else a) : Int32)) w 0 = a at ih ⊢
      refine iv_273_72 ⟨fun _ => ?_, fun q => absurd ((zz_nlt (by omega) (by omega)).mpr hw) q⟩
      rw [dgt_w hn hw]
      refine sp_270 (zb_n (by omega) (by decide)) ?_
      dsimp only [aa_rI]
      rw [q270 V (by omega)]
      have ed : ((nI p) / ac_zr1 (n - 1 - w)) - ((nI p) / ac_zr1 (n - 1 - w)) / (3 : Int32) * (3 : Int32) = dgt n (nI p) w := by
        unfold dgt
        rw [dgt_w hn hw, zz_ix (by omega)]
      rw [ed]
      refine ⟨zr1_n (by omega), by decide, fun c => ?_, fun c => ?_⟩
      · rw [if_pos c] at ih
        exact ih
      · rw [if_neg c] at ih
        rw [Int32.add_zero]
        exact ih
  · intro r hr ih
    rw [fo_s, nI_succ] at ih
    generalize fo (fun (r : Nat) (a : Int32) => ((if a < (va_101 (nI r) (nI p) (nI n) V) then (va_101 (nI r) (nI p) (nI n) V) else a) : Int32)) r 0 = a at ih ⊢
    refine iv_273_26 ⟨fun _ => ?_, fun q => absurd (zz_gl e60 hr (by omega)) q⟩
    refine sp_272n hk (by omega) hn hp2 ?_
    dsimp only [aa_rI]
    refine ⟨fun c => ?_, fun c => ?_⟩
    · rw [if_pos c] at ih
      refine sp_272n hk (by omega) hn hp2 ?_
      exact ih
    · rw [if_neg c] at ih
      exact ih
end
theorem q101z {V W : aa_V} (h : ∀ c, c ≠ 105 → W c = V c) (r p n : Int32) (hr : zb r 5) : va_101 r p n W = va_101 r p n V := by
  have := hr.2
  unfold va_101 vl_101_9
  rw [h (66 + r.toNatClampNeg) (by omega)]
theorem q100z {V W : aa_V} (hk : nv_k V) (h : ∀ c, c ≠ 105 → W c = V c) (p n : Int32) : va_100 p n W = va_100 p n V := by
  have h6 : (V 64 0).toNatClampNeg ≤ 6 := hk.1.2.2
  unfold va_100 vl_100_5
  rw [h 64 (by decide)]
  dsimp only
  refine fo_c (fun i hi a => ?_)
  rw [q101z h _ _ _ (zb_n (by omega) (by decide))]
set_option maxRecDepth 20000 in
theorem sp_273 {G : ab_G} {L : Nat} {xs : Nat → Int32} {l : Launch} {d n : Nat} {V : aa_V} {K : aa_K} (hI : nv V) (hn1 : 1 ≤ n) (hn : n ≤ 5) (h : ∀ X, (∀ c, c ≠ 105 → X c = V c) → (∀ j, j ≠ 61 → j ≠ 62 → X 105 j = V 105 j) → X 105 62 = (pst V n (3 ^ n - 1)).1 → X 105 61 = (pst V n (3 ^ n - 1)).2.1 → K none X) :
    ab_E G (ac_ST L xs) l (d + 4) ac_SK 273 [.ref 105, .int (nI n)] V K := by
  have hk := hI.2.2.2.2.2.2.2.1
  have h243 : 3 ^ n ≤ 243 := Nat.le_trans (Nat.pow_le_pow_right (by decide) hn) (by decide)
  have h3 : 3 ≤ 3 ^ n := Nat.le_trans (by decide) (Nat.pow_le_pow_right (n := 3) (by decide) hn1)
  have okk : ∀ X : aa_V, (∀ c, c ≠ 105 → X c = V c) → (∀ j, j ≠ 61 → j ≠ 62 → X 105 j = V 105 j) → nv_k X := fun X h1 h2 => nv_kc (fun c _ _ => h1 c (by omega)) (h1 146 (by decide)) (by rw [h1 64 (by decide)]) (h2 60 (by decide) (by decide)) hk
  refine iv_273_0 ?_
  obtain ⟨X0, hX0⟩ : ∃ X0, X0 = aa_up V 105 62 (-1 : Int32) := ⟨_, rfl⟩
  rw [← hX0]
  have x1 : ∀ c, c ≠ 105 → X0 c = V c := fun c hc => by rw [hX0, aa_up_c hc]
  have x2 : ∀ j, j ≠ 61 → j ≠ 62 → X0 105 j = V 105 j := fun j h1 h2 => by rw [hX0, aa_up_o h2]
  refine sp_273s (p := 0) (okk X0 x1 x2) hn (by omega) (by decide) ?_
  refine iv_273_72 ⟨fun q => absurd q (nI_nl (Nat.le_refl _) (by omega)), fun _ => ⟨fun _ => ?_, fun q => absurd (by rw [hX0, aa_up_s]; decide) q⟩⟩
  rw [show nI 0 + 1 = nI 1 from rfl, show nI 0 = 0 from rfl, q102_0 X0 hn, q100z hk x1]
  refine zz_up (σ := aa_V) (fun k X => ab_J G (ac_ST L xs) l (d + 4) 273 9 [some (.ref 105), some (.int (nI n)), some (.int (pst V n k).2.2), some (.int (nI (k + 1))), none, none, none] [] ac_SK X ac_SK K) (fun k X => (∀ c, c ≠ 105 → X c = V c) ∧ (∀ j, j ≠ 61 → j ≠ 62 → X 105 j = V 105 j) ∧ X 105 62 = (pst V n k).1 ∧ X 105 61 = (pst V n k).2.1) (3 ^ n - 1) ?_ ?_ 0 _ (Nat.zero_le _) ⟨fun c hc => by rw [aa_up_c hc, aa_up_c hc, x1 c hc], fun j g1 g2 => by rw [aa_up_o g1, aa_up_o g2, x2 j g1 g2], by rw [aa_up_o (by decide), aa_up_s]; rfl, by rw [aa_up_s]; rfl⟩
  · rintro X ⟨y1, y2, y3, y4⟩
    refine iv_273_9 (sp_270 (zb_n (by omega) (by decide)) ?_)
    dsimp only [aa_rI]
    rw [q270 X hn, zr1_3 hn, show 3 ^ n - 1 + 1 = 3 ^ n by omega]
    exact ⟨fun q => absurd q (nI_nl (Nat.le_refl _) (by omega)), fun _ => h X y1 y2 y3 y4⟩
  · rintro k X hkk ⟨y1, y2, y3, y4⟩ ih
    refine sp_273s (okk X y1 y2) hn (by omega) (by omega) ?_
    have e102 : va_102 (nI (k + 1)) (nI n) X = va_102 (nI (k + 1)) (nI n) V := rfl
    rw [q100z hk y1, e102]
    obtain ⟨t, ht1, ht2, ht3⟩ := pst_b V n k
    have keep : pst V n (k + 1) = pst V n k → ab_J G (ac_ST L xs) l (d + 4) 273 9 [some (.ref 105), some (.int (nI n)), some (.int (pst V n k).2.2), some (.int (nI (k + 1) + 1)), none, none, none] [] ac_SK X ac_SK K := fun e => by
      have := ih X ⟨y1, y2, by rw [e]; exact y3, by rw [e]; exact y4⟩
      rw [e, nI_succ (n := k + 1)] at this
      exact this
    have take : pst V n (k + 1) = (nI (k + 1), va_100 (nI (k + 1)) (nI n) V, va_102 (nI (k + 1)) (nI n) V) → ab_J G (ac_ST L xs) l (d + 4) 273 9 [some (.ref 105), some (.int (nI n)), some (.int (va_102 (nI (k + 1)) (nI n) V)), some (.int (nI (k + 1) + 1)), none, none, none] [] ac_SK (aa_up (aa_up X 105 62 (nI (k + 1))) 105 61 (va_100 (nI (k + 1)) (nI n) V)) ac_SK K := fun e => by
      have := ih (aa_up (aa_up X 105 62 (nI (k + 1))) 105 61 (va_100 (nI (k + 1)) (nI n) V)) ⟨fun c hc => by rw [aa_up_c hc, aa_up_c hc, y1 c hc], fun j g1 g2 => by rw [aa_up_o g1, aa_up_o g2, y2 j g1 g2], by rw [aa_up_o (by decide), aa_up_s, e], by rw [aa_up_s, e]⟩
      rw [e, nI_succ (n := k + 1)] at this
      exact this
    refine iv_273_72 ⟨fun q => absurd q (nI_nl (Nat.le_refl _) (by omega)), fun _ => ?_⟩
    rw [y3, y4, ht2]
    refine ⟨fun q => absurd q (nI_n0 (by omega)), fun _ => ⟨fun c => keep ?_, fun c => ⟨fun c2 => ⟨fun c3 => take ?_, fun c3 => keep ?_⟩, fun c2 => take ?_⟩⟩⟩
    · show (if _ then _ else if _ then _ else _) = _
      rw [if_neg (fun z => by simp only [zz_lt] at z c; omega), if_neg (fun z => by simp only [zz_lt, zz_eq] at z c; omega)]
    · show (if _ then _ else if _ then _ else _) = _
      rw [if_neg (fun z => by simp only [zz_lt, zz_eq] at z c2; omega), if_pos c2, if_pos c3]
    · show (if _ then _ else if _ then _ else _) = _
      rw [if_neg (fun z => by simp only [zz_lt, zz_eq] at z c2; omega), if_pos c2, if_neg c3]
    · show (if _ then _ else if _ then _ else _) = _
      rw [if_pos (by simp only [zz_lt, zz_eq] at c c2 ⊢; omega)]
set_option maxRecDepth 20000 in
theorem sp_99 {G : ab_G} {L : Nat} {xs : Nat → Int32} {l : Launch} {d n : Nat} {V : aa_V} {K : aa_K} (hI : nv V) (hn1 : 1 ≤ n) (hn : n ≤ 5) (h : K (some (.int (pst V n (3 ^ n - 1)).1)) V) :
    ab_E G (ac_ST L xs) l (d + 4) ac_SK 99 [.ref 64, .int (nI n)] V K := by
  have hk := hI.2.2.2.2.2.2.2.1
  have h243 : 3 ^ n ≤ 243 := Nat.le_trans (Nat.pow_le_pow_right (by decide) hn) (by decide)
  have h3 : 3 ≤ 3 ^ n := Nat.le_trans (by decide) (Nat.pow_le_pow_right (n := 3) (by decide) hn1)
  have v6' : vp_in (nI n) (ac_ST L xs 1).2.1 := (show vp_in (nI n) 6 from vp_in_nI (by omega) (by decide))
  have ez : ((ac_ST L xs 1).2.2 (nI n).toNatClampNeg) = nI (3 ^ n) := by
    rw [zz_ix (by omega)]
    exact zr1_3 hn
  refine iv_99_0 (sp_100n hk hn ?_)
  dsimp only [aa_rI]
  refine zz_up (σ := Int32 × Int32 × Int32) (fun k s => ab_J G (ac_ST L xs) l (d + 4) 99 15 [some (.ref 64), some (.int (nI n)), some (.int s.1), some (.int s.2.1), some (.int s.2.2), some (.int (nI (k + 1))), none, none] [] ac_SK V ac_SK K) (fun k s => s = pst V n k) (3 ^ n - 1) ?_ ?_ 0 (0, va_100 0 (nI n) V, 0) (Nat.zero_le _) rfl
  · intro s hs
    refine iv_99_15 ⟨v6', ?_⟩
    rw [ez, show 3 ^ n - 1 + 1 = 3 ^ n by omega]
    refine ⟨fun q => absurd q (nI_nl (Nat.le_refl _) (by omega)), fun _ => ?_⟩
    rw [hs]
    exact h
  · intro k s hkk hs ih
    refine iv_99_15 ⟨v6', ?_⟩
    rw [ez]
    refine ⟨fun _ => ?_, fun q => absurd ((zz_nlt (by omega) (by omega)).mpr (by omega)) q⟩
    refine sp_100n hk hn ?_
    dsimp only [aa_rI]
    refine sp_102n hn ?_
    dsimp only [aa_rI]
    have ih' : ∀ s', s' = pst V n (k + 1) → ab_J G (ac_ST L xs) l (d + 4) 99 15 [some (.ref 64), some (.int (nI n)), some (.int s'.1), some (.int s'.2.1), some (.int s'.2.2), some (.int (nI (k + 1) + 1)), none, none] [] ac_SK V ac_SK K := fun s' hs' => by
      have := ih s' hs'
      rw [nI_succ (n := k + 1)] at this
      exact this
    subst hs
    refine ⟨fun c => ih' (_, _, _) ?_, fun c => ⟨fun c2 => ⟨fun c3 => ih' (_, _, _) ?_, fun c3 => ih' _ ?_⟩, fun c2 => ih' _ ?_⟩⟩
    · show _ = (if _ then _ else if _ then _ else _)
      rw [if_pos c]
      rfl
    · show _ = (if _ then _ else if _ then _ else _)
      rw [if_neg c, if_pos c2, if_pos c3]
      rfl
    · show _ = (if _ then _ else if _ then _ else _)
      rw [if_neg c, if_pos c2, if_neg c3]
    · show _ = (if _ then _ else if _ then _ else _)
      rw [if_neg c, if_neg c2]
set_option maxRecDepth 20000 in
theorem cs_175 {G : ab_G} {L : Nat} {xs : Nat → Int32} {l : Launch} {d : Nat} {i1 i2 : Int32} {V : aa_V} {Q : Int32 → Int32 → aa_V → Prop} (hI : nv V) (hQ : ∀ x W, nv W → Q x x W) :
    ab_E G (ac_ST L xs) l (d + 5) ac_SK 175 [.ref 0, .int i1, .int i2] V (aa_rI fun x V1 => ab_E G (ac_ST L xs) l (d + 5) ac_SK 274 [.ref 105, .int i1, .int i2] V1 (aa_rI fun y W => Q x y W)) := by
  have hk := hI.2.2.2.2.2.2.2.1
  refine iv_175_0 ⟨fun c1 => ?_, fun c1 => ⟨fun c2 => ?_, fun c2 => ⟨fun c3 => ?_, fun c3 => ⟨fun c4 => ?_, fun c4 => ?_⟩⟩⟩⟩
  · exact iv_274_0 ⟨fun _ => hQ _ _ hI, fun q => absurd c1 q⟩
  · exact iv_274_0 ⟨fun q => absurd q c1, fun _ => ⟨fun _ => hQ _ _ hI, fun q => absurd c2 q⟩⟩
  · exact iv_274_0 ⟨fun q => absurd q c1, fun _ => ⟨fun q => absurd q c2, fun _ => ⟨fun _ => hQ _ _ hI, fun q => absurd c3 q⟩⟩⟩
  · exact iv_274_0 ⟨fun q => absurd q c1, fun _ => ⟨fun q => absurd q c2, fun _ => ⟨fun q => absurd q c3, fun _ => ⟨fun _ => hQ _ _ hI, fun q => absurd c4 q⟩⟩⟩⟩
  have z1 : zb i1 5 := by
    simp only [zz_lt, zl_1, zl_5] at c1 c2
    exact zb_of_r (by omega) (by omega) (by decide)
  obtain ⟨n, rfl, hn⟩ := zb_i z1
  have hn1 : 1 ≤ n := by
    rcases Nat.lt_or_ge n 1 with q | q
    · exact absurd (show nI n < nI 1 from (zz_nlt (by omega) (by decide)).mpr q) c1
    · exact q
  have h243 : 3 ^ n ≤ 243 := Nat.le_trans (Nat.pow_le_pow_right (by decide) hn) (by decide)
  obtain ⟨t, ht1, ht2, ht3⟩ := pst_b V n (3 ^ n - 1)
  have md : ∀ K : aa_K, (∀ X : aa_V, (∀ c, c ≠ 105 → X c = V c) → (∀ j, j ≠ 61 → j ≠ 62 → X 105 j = V 105 j) → X 105 62 = (pst V n (3 ^ n - 1)).1 → X 105 61 = (pst V n (3 ^ n - 1)).2.1 → (i2 < 0 → K (some (.int (X 105 61))) X) ∧ (¬ i2 < 0 → ab_E G (ac_ST L xs) l (d + 3) ac_SK 270 [.int ((nI n - (1 : Int32)) - i2)] X (aa_rI (fun x2 V2 => ¬ x2 = 0 ∧ ¬ (3 : Int32) = 0 ∧ K (some (.int (((X 105 62) / x2) - ((X 105 62) / x2) / (3 : Int32) * (3 : Int32)))) V2)))) → ab_E G (ac_ST L xs) l (d + 5) ac_SK 274 [.ref 105, .int (nI n), .int i2] V K := fun K hh => by
    refine iv_274_0 (d := d + 2) ⟨fun q => absurd q c1, fun _ => ⟨fun q => absurd q c2, fun _ => ⟨fun q => absurd q c3, fun _ => ⟨fun q => absurd q c4, fun _ => ?_⟩⟩⟩⟩
    refine sp_273 hI hn1 hn (fun X g1 g2 g3 g4 => ?_)
    dsimp only [aa_rV]
    refine ⟨fun a => (hh X g1 g2 g3 g4).1 a, fun a => ?_⟩
    have z := (hh X g1 g2 g3 g4).2 a
    exact z
  have ok : ∀ X : aa_V, (∀ c, c ≠ 105 → X c = V c) → (∀ j, j ≠ 61 → j ≠ 62 → X 105 j = V 105 j) → nv X := fun X g1 g2 => nv_5 ⟨fun c _ hc => g1 c hc, fun j hj => g2 j (fun e => by rw [e] at hj; exact absurd hj (by decide)) (fun e => by rw [e] at hj; exact absurd hj (by decide))⟩ hI
  refine sp_99 (d := d) hI hn1 hn ?_
  dsimp only [aa_rI]
  refine ⟨fun c5 => ?_, fun c5 => ?_⟩
  · refine sp_100n hk hn ?_
    dsimp only [aa_rI]
    refine md _ (fun X g1 g2 g3 g4 => ⟨fun _ => ?_, fun q => absurd (by rw [c5]; decide) q⟩)
    show Q _ _ X
    rw [g4, ht3, ht2]
    exact hQ _ _ (ok X g1 g2)
  · obtain ⟨w, hw, rfl⟩ := zz_of (x := i2) (n := n) (by
      simp only [zz_lt, zz_eq, zl_0, zl_m1] at c3 c5 ⊢
      omega) (by
      rw [show nI n - 1 = nI (n - 1) from nI_minus hn1] at c4
      simp only [zz_lt] at c4 ⊢
      rw [nI_toInt (by omega)] at c4 ⊢
      omega) (by omega)
    have ew := dgt_w hn hw
    have ez : ((ac_ST L xs 1).2.2 (nI (n - 1 - w)).toNatClampNeg) = ac_zr1 (n - 1 - w) := by
      rw [zz_ix (by omega)]
      rfl
    rw [ew, ez]
    refine ⟨(show vp_in (nI (n - 1 - w)) 6 from vp_in_nI (by omega) (by decide)), zr1_n (by omega), by decide, ?_⟩
    refine md _ (fun X g1 g2 g3 g4 => ⟨fun q => absurd q (nI_n0 (by omega)), fun _ => ?_⟩)
    rw [ew]
    refine sp_270 (zb_n (by omega) (by decide)) ?_
    dsimp only [aa_rI]
    rw [q270 X (by omega), g3]
    exact ⟨zr1_n (by omega), by decide, hQ _ _ (ok X g1 g2)⟩
