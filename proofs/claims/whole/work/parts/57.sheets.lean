/-! sheet, cell, copy, paysRow -/
theorem ix40 {s j : Nat} (hs : s < 4) (hj : j < 40) : (40 : Int32) * nI s + nI j = nI (40 * s + j) := (show ∀ s, s < 4 → ∀ j, j < 40 → (40 : Int32) * nI s + nI j = nI (40 * s + j) by decide +kernel) s hs j hj
theorem zs_4 {i : Int32} (h0 : ¬ i < 0) (h3 : ¬ 3 < i) : ∃ s : Nat, s < 4 ∧ i = nI s := by
  simp only [zz_lt, zl_0, zl_3] at h0 h3
  obtain ⟨s, h1, h2⟩ := zb_i (zb_of_r (x := i) (b := 3) (by omega) (by omega) (by decide))
  exact ⟨s, by omega, h1⟩
/-- all but the sheets -/
theorem nv_s' {V W : aa_V} (hI : nv V) (h : ∀ c, c ≠ 73 → c ≠ 74 → ¬ (75 < c ∧ c < 80) → c ≠ 147 → c ≠ 148 → c ≠ 149 → c ≠ 150 → W c = V c) (hs : nv_s W) : nv W := by
  obtain ⟨hn, hr, hw, ha, hp, ho, hb, hk, _, hf, ht⟩ := hI
  have ww : ∀ c, (c < 73 ∨ c = 75 ∨ (79 < c ∧ c < 147)) → W c = V c := fun c q => h c (by omega) (by omega) (by omega) (by omega) (by omega) (by omega) (by omega)
  have e105 := ww 105 (by omega)
  exact ⟨nv_nG (by rw [e105]) (ww 0 (by omega)) hn, nv_rc (fun c h1 h2 => ww c (by omega)) (ww 106 (by omega)) hr, nv_wG (fun c h => ww c (by omega)) (by rw [e105]) (by rw [e105]) hw, nv_aG (fun c h => ww c (by omega)) (by rw [e105]) ha, nv_pG (fun c h => ww c (by omega)) (by rw [e105]) (by rw [e105]) (by rw [e105]) hp, nv_oG (fun c h => ww c (by omega)) (by rw [e105]) ho, nv_bG (fun c h => ww c (by omega)) (by rw [e105]) hb, nv_kc (fun c h1 h2 => ww c (by omega)) (ww 146 (by omega)) (by rw [ww 64 (by omega)]) (by rw [e105]) hk, hs, nv_fG (ww 80 (by omega)) (ww 81 (by omega)) (ww 116 (by omega)) (by rw [e105]) hf, nv_tc (fun t ht => ⟨ww _ (by omega), ww _ (by omega)⟩) (ww 117 (by omega)) (ww 118 (by omega)) (ww 119 (by omega)) (ww 120 (by omega)) (by rw [e105]) (by rw [e105]) (by rw [e105]) (by rw [ww 0 (by omega)]) (by rw [ww 0 (by omega)]) ht⟩
theorem sp_278l {G : ab_G} {L : Nat} {xs : Nat → Int32} {l : Launch} {d s : Nat} {X : aa_V} {K : aa_K} (hs : s < 4) (h : ∀ Y : aa_V, (∀ c, c ≠ 149 → Y c = X c) → (∀ k, Y 149 k = if 40 * s ≤ k ∧ k < 40 * s + 40 then 0 else X 149 k) → K (some (.int (1 : Int32))) Y) :
    ab_J G (ac_ST L xs) l (d + 2) 278 70 [some (.ref 105), some (.int (nI s)), none, none, some (.int (0 : Int32))] [] ac_SK X ac_SK K := by
  refine zz_up (σ := aa_V) (fun i Y => ab_J G (ac_ST L xs) l (d + 2) 278 70 [some (.ref 105), some (.int (nI s)), none, none, some (.int (nI i))] [] ac_SK Y ac_SK K) (fun i Y => (∀ c, c ≠ 149 → Y c = X c) ∧ ∀ k, Y 149 k = if 40 * s ≤ k ∧ k < 40 * s + i then 0 else X 149 k) 40 ?_ ?_ 0 X (Nat.zero_le _) ⟨fun _ _ => rfl, fun k => by rw [if_neg (by omega)]⟩
  · rintro Y ⟨y1, y2⟩
    exact iv_278_70 ⟨fun q => absurd q (by decide), fun _ => h Y y1 y2⟩
  · rintro i Y hi ⟨y1, y2⟩ ih
    refine iv_278_70 ⟨fun _ => ?_, fun q => absurd (show nI i < nI 40 from (zz_nlt (by omega) (by decide)).mpr hi) q⟩
    rw [ix40 hs hi, zz_ix (by omega)]
    refine ⟨vp_in_nI (by omega) (by decide), ?_⟩
    have := ih (aa_up Y 149 (40 * s + i) 0) ⟨fun c hc => (aa_up_c hc).trans (y1 c hc), fun k => by
      by_cases q : k = 40 * s + i
      · rw [q, aa_up_s, if_pos (by omega)]
      · rw [aa_up_o q, y2 k]
        by_cases q2 : 40 * s ≤ k ∧ k < 40 * s + i
        · rw [if_pos q2, if_pos (by omega)]
        · rw [if_neg q2, if_neg (by omega)]⟩
    rw [nI_succ] at this
    exact this
set_option maxRecDepth 20000 in
theorem cs_177 {G : ab_G} {L : Nat} {xs : Nat → Int32} {l : Launch} {d : Nat} {i1 i2 i3 : Int32} {V : aa_V} {Q : Int32 → Int32 → aa_V → Prop} (hI : nv V) (hQ : ∀ x W, nv W → Q x x W) :
    ab_E G (ac_ST L xs) l (d + 3) ac_SK 177 [.ref 0, .int i1, .int i2, .int i3] V (aa_rI fun x V1 => ab_E G (ac_ST L xs) l (d + 2) ac_SK 278 [.ref 105, .int i1, .int i2, .int i3] V1 (aa_rI fun y W => Q x y W)) := by
  have hs' := hI.2.2.2.2.2.2.2.2.1
  obtain ⟨⟨y1, y2, y3, y4⟩, y5⟩ := id hs'
  -- the reference: each case
  have bad : (¬ (¬ i1 < 0 ∧ ¬ 3 < i1) ∨ i2 < -1 ∨ 2 < i2 ∨ (¬ i2 < 0 ∧ 40 < i3)) → ab_E G (ac_ST L xs) l (d + 2) ac_SK 278 [.ref 105, .int i1, .int i2, .int i3] V (aa_rI fun y W => Q (-2) y W) := fun hc => by
    refine iv_278_0 ⟨fun _ => hQ _ _ hI, fun c1 => ⟨fun c2 => ⟨fun _ => hQ _ _ hI, fun c3 => ⟨fun _ => hQ _ _ hI, fun c4 => ⟨fun c5 => ?_, fun c5 => ⟨fun _ => hQ _ _ hI, fun c6 => ?_⟩⟩⟩⟩, fun _ => hQ _ _ hI⟩⟩
    · exfalso
      rcases hc with q | q | q | q
      · exact q ⟨c1, fun z => by simp only [zz_lt, zl_3, zl_4] at z c2; omega⟩
      · exact c3 q
      · exact c4 q
      · exact q.1 c5
    · exfalso
      rcases hc with q | q | q | q
      · exact q ⟨c1, fun z => by simp only [zz_lt, zl_3, zl_4] at z c2; omega⟩
      · exact c3 q
      · exact c4 q
      · exact c6 q.2
  have less : ¬ i1 < 0 → ¬ 3 < i1 → ¬ i2 < 0 → ¬ 2 < i2 → ¬ 40 < i3 → i3 < 0 → ab_E G (ac_ST L xs) l (d + 2) ac_SK 278 [.ref 105, .int i1, .int i2, .int i3] V (aa_rI fun y W => Q (-14) y W) := fun c1 c2 c3 c4 c5 c6 => by
    have c2' : i1 < 4 := by simp only [zz_lt, zl_3, zl_4] at c2 ⊢; omega
    have c3' : ¬ i2 < -1 := by simp only [zz_lt, zl_0, zl_m1] at c3 ⊢; omega
    exact iv_278_0 ⟨fun q => absurd q c1, fun _ => ⟨fun _ => ⟨fun q => absurd q c3', fun _ => ⟨fun q => absurd q c4, fun _ => ⟨fun q => absurd q c3, fun _ => ⟨fun q => absurd q c5, fun _ => ⟨fun q => absurd q c3, fun _ => ⟨fun _ => hQ _ _ hI, fun q => absurd c6 q⟩⟩⟩⟩⟩⟩, fun q => absurd c2' q⟩⟩
  have drop : ∀ s : Nat, s < 4 → i1 = nI s → i2 = -1 → ab_E G (ac_ST L xs) l (d + 2) ac_SK 278 [.ref 105, .int i1, .int i2, .int i3] (aa_up (aa_up V 73 s (-1 : Int32)) 74 s (0 : Int32)) (aa_rI fun y W => Q 1 y W) := fun s hs e1 e2 => by
    subst e1
    subst e2
    have v4 : vp_in (nI s) 4 := vp_in_nI hs (by decide)
    have es : (nI s).toNatClampNeg = s := zz_ix (by omega)
    obtain ⟨X0, hX0⟩ : ∃ X0, X0 = aa_up (aa_up V 73 s (-1 : Int32)) 74 s (0 : Int32) := ⟨_, rfl⟩
    rw [← hX0]
    refine iv_278_0 ⟨fun q => absurd q (nI_n0 (by omega)), fun _ => ⟨fun _ => ⟨fun q => absurd q (by decide), fun _ => ⟨fun q => absurd q (by decide), fun _ => ⟨fun _ => ⟨fun _ => ⟨v4, fun _ => ⟨v4, ?_⟩, fun q => absurd (by decide) q⟩, fun q => absurd (by decide) q⟩, fun q => absurd (by decide) q⟩⟩⟩, fun q => absurd (show nI s < nI 4 from (zz_nlt (by omega) (by decide)).mpr hs) q⟩⟩
    rw [es]
    refine sp_278l hs (fun Y g1 g2 => ?_)
    show Q _ _ Y
    refine hQ _ _ (nv_s' hI (fun c h1 h2 h3 h4 h5 h6 h7 => by rw [g1 c h6, aa_up_c h5, aa_up_c h4, hX0, aa_up_c h2, aa_up_c h1]) ?_)
    have e73 : Y 73 = upd (V 73) s (-1) := by rw [g1 73 (by decide), aa_up_c (by decide), aa_up_c (by decide), hX0]; rfl
    have e74 : Y 74 = upd (V 74) s 0 := by rw [g1 74 (by decide), aa_up_c (by decide), aa_up_c (by decide), hX0]; rfl
    have e147 : Y 147 = upd (V 147) s (-1) := by rw [g1 147 (by decide), aa_up_c (by decide), hX0]; rfl
    have e148 : Y 148 = upd (V 148) s 0 := by rw [g1 148 (by decide), hX0]; rfl
    unfold nv_s
    rw [e73, e74, e147, e148, y1, y2]
    refine ⟨⟨rfl, rfl, fun i hi => ?_, fun i => ?_⟩, fun t ht h0 i hi => ?_⟩
    · unfold upd
      split
      · exact Or.inl rfl
      · exact y3 i hi
    · unfold upd
      split
      · exact zb_n (n := 0) (by decide) (by decide)
      · exact y4 i
    · unfold upd at h0
      by_cases q : t = s
      · rw [if_pos q] at h0
        exact absurd rfl h0
      · rw [if_neg q] at h0
        rw [g1 (76 + t) (by omega), aa_up_c (by omega), aa_up_c (by omega), hX0, aa_up_c (by omega), aa_up_c (by omega), g2, if_neg (by omega)]
        rw [hX0, aa_up_c (by decide), aa_up_c (by decide)]
        exact y5 t ht h0 i hi
  have lay : ∀ s : Nat, s < 4 → i1 = nI s → ¬ i2 < 0 → ¬ 2 < i2 → ¬ 40 < i3 → ¬ i3 < 0 → ab_E G (ac_ST L xs) l (d + 2) ac_SK 63 [.ref 72, .int i1, .int i2, .int i3] V (aa_rV (fun V1 => ab_E G (ac_ST L xs) l (d + 2) ac_SK 278 [.ref 105, .int i1, .int i2, .int i3] V1 (aa_rI fun y W => Q 1 y W))) := fun s hs e1 c3 c4 c5 c6 => by
    subst e1
    have v4 : vp_in (nI s) 4 := vp_in_nI hs (by decide)
    have es : (nI s).toNatClampNeg = s := zz_ix (by omega)
    have c3' : ¬ i2 < -1 := by simp only [zz_lt, zl_0, zl_m1] at c3 ⊢; omega
    refine iv_63_0 ⟨v4, v4, 4, _, 76 + (nI s).toNatClampNeg, rfl, v4, zq_75 v4, ?_⟩
    refine sp_299 (n := 40) (zs_75 v4) (by decide) ?_
    dsimp only [aa_rV]
    rw [es]
    obtain ⟨X0, hX0⟩ : ∃ X0, X0 = aa_row (aa_up (aa_up V 73 s i2) 74 s i3) (76 + s) (fun j => if j < 40 then (0 : Int32) else aa_up (aa_up V 73 s i2) 74 s i3 (76 + s) j) := ⟨_, rfl⟩
    rw [← hX0]
    refine iv_278_0 ⟨fun q => absurd q (nI_n0 (by omega)), fun _ => ⟨fun _ => ⟨fun q => absurd q c3', fun _ => ⟨fun q => absurd q c4, fun _ => ⟨fun q => absurd q c3, fun _ => ⟨fun q => absurd q c5, fun _ => ⟨fun q => absurd q c3, fun _ => ⟨fun q => absurd q c6, fun _ => ⟨v4, fun q => absurd q c3, fun _ => ⟨v4, ?_⟩⟩⟩⟩⟩⟩⟩⟩, fun q => absurd (show nI s < nI 4 from (zz_nlt (by omega) (by decide)).mpr hs) q⟩⟩
    rw [es]
    refine sp_278l hs (fun Y g1 g2 => ?_)
    show Q _ _ Y
    refine hQ _ _ (nv_s' hI (fun c h1 h2 h3 h4 h5 h6 h7 => by rw [g1 c h6, aa_up_c h5, aa_up_c h4, hX0, aa_row_c (by omega), aa_up_c h2, aa_up_c h1]) ?_)
    have e73 : Y 73 = upd (V 73) s i2 := by rw [g1 73 (by decide), aa_up_c (by decide), aa_up_c (by decide), hX0, aa_row_c (by omega)]; rfl
    have e74 : Y 74 = upd (V 74) s i3 := by rw [g1 74 (by decide), aa_up_c (by decide), aa_up_c (by decide), hX0, aa_row_c (by omega)]; rfl
    have e147 : Y 147 = upd (V 147) s i2 := by
      rw [g1 147 (by decide), aa_up_c (by decide)]
      show upd (X0 147) s i2 = _
      rw [hX0, aa_row_c (by omega)]
      rfl
    have e148 : Y 148 = upd (V 148) s i3 := by
      rw [g1 148 (by decide)]
      show upd (X0 148) s i3 = _
      rw [hX0, aa_row_c (by omega)]
      rfl
    have z2 : zb i2 2 := by
      simp only [zz_lt, zl_0, zl_2] at c3 c4
      exact zb_of_r (by omega) (by omega) (by decide)
    have z3 : zb i3 40 := by
      simp only [zz_lt, zl_0, zl_40] at c5 c6
      exact zb_of_r (by omega) (by omega) (by decide)
    unfold nv_s
    rw [e73, e74, e147, e148, y1, y2]
    refine ⟨⟨rfl, rfl, fun i hi => ?_, fun i => ?_⟩, fun t ht h0 i hi => ?_⟩
    · unfold upd
      split
      · exact Or.inr z2
      · exact y3 i hi
    · unfold upd
      split
      · exact z3
      · exact y4 i
    · unfold upd at h0
      rw [g1 (76 + t) (by omega), aa_up_c (by omega), aa_up_c (by omega), g2]
      by_cases q : t = s
      · subst q
        rw [hX0, aa_row_s, if_pos hi, if_pos (by omega)]
      · rw [if_neg q] at h0
        rw [hX0, aa_row_c (by omega), aa_up_c (by omega), aa_up_c (by omega), if_neg (by omega)]
        rw [aa_up_c (by decide), aa_up_c (by decide), aa_row_c (by omega), aa_up_c (by decide), aa_up_c (by decide)]
        exact y5 t ht h0 i hi
  refine iv_177_0 ⟨fun c1 => bad (Or.inl (fun z => z.1 c1)), fun c1 => ⟨fun c2 => bad (Or.inl (fun z => z.2 c2)), fun c2 => ⟨fun c3 => ⟨fun _ => ?_, fun q => absurd c3 q⟩, fun c3 => ⟨fun c4 => bad (Or.inr (Or.inl ?_)), fun c4 => ⟨fun c5 => bad (Or.inr (Or.inr (Or.inl c5))), fun c5 => ⟨fun q => absurd q c3, fun _ => ⟨fun c6 => bad (Or.inr (Or.inr (Or.inr ⟨c4, c6⟩))), fun c6 => ⟨fun c7 => less c1 c2 c4 c5 c6 c7, fun c7 => ?_⟩⟩⟩⟩⟩⟩⟩⟩
  · obtain ⟨s, hs, e1⟩ := zs_4 c1 c2
    have v4 : vp_in i1 4 := by rw [e1]; exact vp_in_nI hs (by decide)
    refine ⟨v4, v4, ?_⟩
    have := drop s hs e1 c3
    rw [show i1.toNatClampNeg = s by rw [e1]; exact zz_ix (by omega)]
    exact this
  · simp only [zz_lt, zz_eq, zl_0, zl_m1] at c3 c4 ⊢
    omega
  · obtain ⟨s, hs, e1⟩ := zs_4 c1 c2
    exact lay s hs e1 c4 c5 c6 c7
-- cell
def nrw (st v : Int32) : Int32 := if st = 0 then v.toInt8.toInt32 else if st = 1 then v.toInt16.toInt32 else v
set_option maxRecDepth 20000 in
theorem cs_178 {G : ab_G} {L : Nat} {xs : Nat → Int32} {l : Launch} {d : Nat} {i1 i2 i3 : Int32} {V : aa_V} {Q : Int32 → Int32 → aa_V → Prop} (hI : nv V) (hQ : ∀ x W, nv W → Q x x W) :
    ab_E G (ac_ST L xs) l (d + 3) ac_SK 178 [.ref 0, .int i1, .int i2, .int i3] V (aa_rI fun x V1 => ab_E G (ac_ST L xs) l (d + 2) ac_SK 280 [.ref 105, .int i1, .int i2, .int i3] V1 (aa_rI fun y W => Q x y W)) := by
  have hs' := hI.2.2.2.2.2.2.2.2.1
  obtain ⟨⟨y1, y2, y3, y4⟩, y5⟩ := id hs'
  have v4c : ¬ i1 < 0 → ¬ 3 < i1 → vp_in i1 4 := fun h1 h2 => by
    obtain ⟨s, hs, e1⟩ := zs_4 h1 h2
    rw [e1]
    exact vp_in_nI hs (by decide)
  have vi2 : ¬ i2 < 0 → ¬ (V 74 i1.toNatClampNeg - 1) < i2 → ∃ j : Nat, j < 40 ∧ i2 = nI j := fun h1 h2 => by
    have r := zb_r (y4 i1.toNatClampNeg) (by decide)
    have t := zb_sub1 (y4 i1.toNatClampNeg) (by decide)
    simp only [zz_lt, zl_0, t] at h1 h2
    obtain ⟨j, g1, g2⟩ := zb_i (zb_of_r (x := i2) (b := 39) (by omega) (by omega) (by decide))
    exact ⟨j, by omega, g1⟩
  have v40 : ¬ i2 < 0 → ¬ (V 74 i1.toNatClampNeg - 1) < i2 → vp_in i2 40 := fun h1 h2 => by
    obtain ⟨j, hj, e⟩ := vi2 h1 h2
    rw [e]
    exact vp_in_nI hj (by decide)
  have i4 : ¬ i1 < 0 → (i1 < 4 ↔ ¬ 3 < i1) := fun _ => by
    simp only [zz_lt, zl_3, zl_4]
    omega
  have ngs : ∀ t, t < 4 → (V 73 t < 0 ↔ V 73 t = -1) := fun t ht => by
    rcases y3 t ht with q | q
    · rw [q]
      exact ⟨fun _ => rfl, fun _ => by decide⟩
    · have := zb_r q (by decide)
      simp only [zz_lt, zz_eq, zl_0, zl_m1]
      omega
  have m280 : ∀ (X : aa_V) (K : aa_K), X 147 = V 73 → X 148 = V 74 → K (some (.int (va_280 i1 i2 i3 X))) (vn_280 i1 i2 i3 X) → ab_E G (ac_ST L xs) l (d + 2) ac_SK 280 [.ref 105, .int i1, .int i2, .int i3] X K := fun X K e1 e2 h => by
    have g : ¬ i1 < 0 → i1 < 4 → ¬ i2 < 0 → ¬ (X 148 i1.toNatClampNeg - 1) < i2 → vp_in (((40 : Int32) * i1) + i2) 160 := fun h1 h2 h3 h4 => by
      rw [e2] at h4
      obtain ⟨s, hs, e1⟩ := zs_4 h1 ((i4 h1).mp h2)
      obtain ⟨j, hj, e⟩ := vi2 h3 h4
      rw [e1, e, ix40 hs hj]
      exact vp_in_nI (by omega) (by decide)
    refine sp_280 (fun h1 h2 => v4c h1 ((i4 h1).mp h2)) ?_ ?_ ?_ h
    · intro g1 g2 g3 g4 g5; intros; exact g g1 g2 g4 g5
    · intro g1 g2 g3 g4 g5; intros; exact g g1 g2 g4 g5
    · intro g1 g2 g3 g4 g5; intros; exact g g1 g2 g4 g5
  refine sp_178 v4c ?_ ?_ ?_ ?_
  · intro g1 g2 g3 g4 g5; intros; exact v40 g4 g5
  · intro g1 g2 g3 g4 g5; intros; exact v40 g4 g5
  · intro g1 g2 g3 g4 g5; intros; exact v40 g4 g5
  dsimp only [aa_rI]
  by_cases c1 : i1 < 0
  · have e : va_178 i1 i2 i3 V = -2 ∧ vn_178 i1 i2 i3 V = V := by simp only [va_178, vn_178, if_pos c1, and_self]
    rw [e.1, e.2]
    refine m280 V _ y1 y2 ?_
    have e : va_280 i1 i2 i3 V = -2 ∧ vn_280 i1 i2 i3 V = V := by simp only [va_280, vn_280, if_pos c1, and_self]
    rw [e.1, e.2]
    exact hQ _ _ hI
  by_cases c2 : 3 < i1
  · have e : va_178 i1 i2 i3 V = -2 ∧ vn_178 i1 i2 i3 V = V := by simp only [va_178, vn_178, if_neg c1, if_pos c2, and_self]
    rw [e.1, e.2]
    refine m280 V _ y1 y2 ?_
    have e : va_280 i1 i2 i3 V = -2 ∧ vn_280 i1 i2 i3 V = V := by simp only [va_280, vn_280, if_neg c1, if_neg (show ¬ i1 < 4 from fun z => (i4 c1).mp z c2), and_self]
    rw [e.1, e.2]
    exact hQ _ _ hI
  have c2' : i1 < 4 := (i4 c1).mpr c2
  obtain ⟨s, hs, e1⟩ := zs_4 c1 c2
  have es : i1.toNatClampNeg = s := by rw [e1]; exact zz_ix (by omega)
  by_cases c3 : V 73 s = -1
  · have e : va_178 i1 i2 i3 V = -11 ∧ vn_178 i1 i2 i3 V = V := by simp only [va_178, vn_178, if_neg c1, if_neg c2, es, if_pos c3, and_self]
    rw [e.1, e.2]
    refine m280 V _ y1 y2 ?_
    have e : va_280 i1 i2 i3 V = -11 ∧ vn_280 i1 i2 i3 V = V := by simp only [va_280, vn_280, if_neg c1, if_pos c2', es, y1, if_pos ((ngs s hs).mpr c3), and_self]
    rw [e.1, e.2]
    exact hQ _ _ hI
  have c3' : ¬ V 73 s < 0 := fun z => c3 ((ngs s hs).mp z)
  by_cases c4 : i2 < 0
  · have e : va_178 i1 i2 i3 V = -12 ∧ vn_178 i1 i2 i3 V = V := by simp only [va_178, vn_178, if_neg c1, if_neg c2, es, if_neg c3, if_pos c4, and_self]
    rw [e.1, e.2]
    refine m280 V _ y1 y2 ?_
    have e : va_280 i1 i2 i3 V = -12 ∧ vn_280 i1 i2 i3 V = V := by simp only [va_280, vn_280, if_neg c1, if_pos c2', es, y1, if_neg c3', if_pos c4, and_self]
    rw [e.1, e.2]
    exact hQ _ _ hI
  by_cases c5 : (V 74 s - 1) < i2
  · have e : va_178 i1 i2 i3 V = -12 ∧ vn_178 i1 i2 i3 V = V := by simp only [va_178, vn_178, if_neg c1, if_neg c2, es, if_neg c3, if_neg c4, if_pos c5, and_self]
    rw [e.1, e.2]
    refine m280 V _ y1 y2 ?_
    have e : va_280 i1 i2 i3 V = -12 ∧ vn_280 i1 i2 i3 V = V := by simp only [va_280, vn_280, if_neg c1, if_pos c2', es, y1, y2, if_neg c3', if_neg c4, if_pos c5, and_self]
    rw [e.1, e.2]
    exact hQ _ _ hI
  obtain ⟨j, hj, e2⟩ := vi2 c4 (by rw [es]; exact c5)
  have ej : i2.toNatClampNeg = j := by rw [e2]; exact zz_ix (by omega)
  have e : va_178 i1 i2 i3 V = 1 ∧ vn_178 i1 i2 i3 V = aa_up V (76 + s) j (nrw (V 73 s) i3) := by
    have : vn_64 i1 i2 i3 V = aa_up V (76 + s) j (nrw (V 73 s) i3) := by
      unfold vn_64 nrw
      rw [es, ej]
      by_cases d1 : V 73 s = 0
      · rw [if_pos d1, if_pos d1]
      · rw [if_neg d1, if_neg d1]
        by_cases d2 : V 73 s = 1
        · rw [if_pos d2, if_pos d2]
        · rw [if_neg d2, if_neg d2]
    simp only [va_178, vn_178, if_neg c1, if_neg c2, es, if_neg c3, if_neg c4, if_neg c5, this, and_self]
  rw [e.1, e.2]
  obtain ⟨X, hX⟩ : ∃ X, X = aa_up V (76 + s) j (nrw (V 73 s) i3) := ⟨_, rfl⟩
  rw [← hX]
  have xc : ∀ c, c ≠ 76 + s → X c = V c := fun c hc => by rw [hX, aa_up_c hc]
  have x147 : X 147 = V 73 := (xc 147 (by omega)).trans y1
  have x148 : X 148 = V 74 := (xc 148 (by omega)).trans y2
  refine m280 X _ x147 x148 ?_
  have e : va_280 i1 i2 i3 X = 1 ∧ vn_280 i1 i2 i3 X = aa_up X 149 (40 * s + j) (nrw (V 73 s) i3) := by
    have h40 : (((40 : Int32) * i1) + i2).toNatClampNeg = 40 * s + j := by rw [e1, e2, ix40 hs hj]; exact zz_ix (by omega)
    unfold va_280 vn_280 nrw
    rw [if_neg c1, if_neg c1, if_pos c2', if_pos c2', es, x147, x148, if_neg c3', if_neg c3', if_neg c4, if_neg c4, if_neg c5, if_neg c5, h40]
    by_cases d1 : V 73 s = 0
    · rw [if_pos d1, if_pos d1, if_pos d1]
      exact ⟨rfl, rfl⟩
    · rw [if_neg d1, if_neg d1, if_neg d1]
      by_cases d2 : V 73 s = 1
      · rw [if_pos d2, if_pos d2, if_pos d2]
        exact ⟨rfl, rfl⟩
      · rw [if_neg d2, if_neg d2, if_neg d2]
        exact ⟨rfl, rfl⟩
  rw [e.1, e.2]
  refine hQ _ _ (nv_s' hI (fun c h1 h2 h3 h4 h5 h6 h7 => by rw [aa_up_c h6, xc c (by omega)]) ?_)
  unfold nv_s
  rw [aa_up_c (by decide), aa_up_c (by decide), aa_up_c (by decide), aa_up_c (by decide), x147, x148, xc 73 (by omega), xc 74 (by omega)]
  refine ⟨⟨rfl, rfl, y3, y4⟩, fun t ht h0 i hi => ?_⟩
  rw [aa_up_c (by omega)]
  by_cases q : t = s
  · subst q
    by_cases q2 : i = j
    · subst q2
      rw [hX, aa_up_s, aa_up_s]
    · rw [hX, aa_up_o q2, aa_up_o (by omega), aa_up_c (by omega)]
      exact y5 t ht h0 i hi
  · rw [xc (76 + t) (by omega), aa_up_o (by omega), xc 149 (by omega)]
    exact y5 t ht h0 i hi
