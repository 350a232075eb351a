/-! keeps, says, held, hangs -/
theorem q51z {V W : aa_V} (hS : sc V W) {a b n : Int32} (ha : zb a 7) : va_51 a b n W = va_51 a b n V := by
  have := ha.2
  unfold va_51
  rw [hS (21 + a.toNatClampNeg) (zs_f (by omega)), hS (12 + a.toNatClampNeg) (zs_f (by omega))]
theorem q52z {V W : aa_V} (hS : sc V W) {a b h n : Int32} (ha : zb a 7) : va_52 a b h n W = va_52 a b h n V := by
  unfold va_52
  rw [q51z hS ha]
theorem q87z {V W : aa_V} (hI : nv V) (hS : sc V W) (i1 i2 i3 i4 i5 : Int32) : va_87 i1 i2 i3 i4 i5 W = va_87 i1 i2 i3 i4 i5 V := by
  obtain ⟨⟨p1, p2, p3, p4, p5, p6⟩, ⟨p7, p8, p9, p10, p11, p12⟩, ⟨p13, p14, p15, p16, p17⟩, ⟨q1, q2, q3, q4, q5, q6⟩, q7, q8, q9, q10, q11⟩ := hI.2.2.2.2.1
  have z0 : ∀ i b h n, va_52 (V 43 i) b h n W = va_52 (V 43 i) b h n V := fun i b h n => q52z hS (q1 i)
  have z : ∀ i b h n, va_52 (V 45 i) b h n W = va_52 (V 45 i) b h n V := fun i b h n => q52z hS (q3 i)
  unfold va_87 vl_87_25
  rw [hS 42 rfl, hS 43 rfl, hS 44 rfl, hS 45 rfl, hS 46 rfl, hS 47 rfl, hS 48 rfl]
  simp only [z, z0]
theorem q90z {V W : aa_V} (hI : nv V) (hS : sc V W) (k : Int32) : va_90 k W = va_90 k V := by
  rw [q90, q90, hS 42 rfl, hS 53 rfl]
  refine bs_c (fun w _ => ?_)
  unfold qlie
  rw [q87z hI hS, hS 30 rfl, hS 33 rfl, hS 39 rfl, hS 40 rfl, hS 41 rfl, hS 50 rfl, hS 51 rfl]
theorem sp_90z {G : ab_G} {L : Nat} {xs : Nat → Int32} {l : Launch} {d : Nat} {i1 : Int32} {V W : aa_V} {K : aa_K} (hI : nv V) (hS : sc V W) (h : K (some (.int (va_90 i1 V))) W) : ab_E G (ac_ST L xs) l (d + 5) ac_SK 90 [.ref 42, .int i1] W K := by
  rw [← q90z hI hS] at h
  have hI' := nv_z hS hI
  obtain ⟨⟨w1, w2, w3, w4⟩, ⟨w5, w6, w7, w8, w9, w10, w11, w12⟩, s1, s2, s3, s4, s5, s6, s7, s8⟩ := hI'.2.2.1
  obtain ⟨⟨a1, a2⟩, ⟨a3, a4, a5⟩, a6, a7, a8⟩ := hI'.2.2.2.1
  obtain ⟨⟨p1, p2, p3, p4, p5, p6⟩, ⟨p7, p8, p9, p10, p11, p12⟩, ⟨p13, p14, p15, p16, p17⟩, ⟨q1, q2, q3, q4, q5, q6⟩, q7, q8, q9, q10, q11⟩ := hI'.2.2.2.2.1
  refine sp_90 p6 p4 ?_ ?_ ?_ ?_ ?_ ?_ ?_ ?_ ?_ ?_ ?_ ?_ ?_ h
  · intros; exact vpz (q9 _) (by decide) (by decide)
  · intros; exact vpz (a6 _) (by decide) (by decide)
  · intros; exact vpz (s4 _) (by decide) (by decide)
  · intros; exact vpz (q8 _) (by decide) (by decide)
  · intros; exact vpz (q1 _) (by decide) (by decide)
  · intros; exact vpz (s1 _) (by decide) (by decide)
  · intros; exact vpz (q1 _) (by decide) (by decide)
  · intros; exact vpz (s1 _) (by decide) (by decide)
  · intros; exact vpz (q1 _) (by decide) (by decide)
  · intros; exact vpz (s1 _) (by decide) (by decide)
  · intros; exact vpz (q3 _) (by decide) (by decide)
  · intros; exact vpz (q3 _) (by decide) (by decide)
  · intros; exact vpz (q3 _) (by decide) (by decide)
def qhf (V : aa_V) (k wo : Int32) : Nat → Int32 → Int32 := fun p a => if qhold V (nI p) k wo = 0 then a else a ||| ((1 : Int32) <<< ((nI p) &&& 31))
def qheld (V : aa_V) (k wo : Int32) : Int32 := fo (qhf V k wo) (V 42 2).toNatClampNeg 0
set_option maxRecDepth 20000 in
theorem sp_189 {G : ab_G} {L : Nat} {xs : Nat → Int32} {l : Launch} {d : Nat} {i1 i2 : Int32} {V W : aa_V} {K : aa_K} (hI : nv V) (hS : sc V W) (h : ∀ X, sc V X → K (some (.int (qheld V i2 i1))) X) :
    ab_E G (ac_ST L xs) l (d + 6) ac_SK 189 [.ref 0, .int i1, .int i2] W K := by
  obtain ⟨⟨p1, p2, p3, p4, p5, p6⟩, _⟩ := hI.2.2.2.2.1
  obtain ⟨n, hn, hm⟩ := zb_i p2
  have hN : (V 42 2).toNatClampNeg = n := by rw [hn]; exact zz_ix (by omega)
  refine iv_189_0 ?_
  refine sp_90z hI hS ?_
  dsimp only [aa_rI]
  refine zz_up (σ := Int32 × aa_V) (fun i s => ab_J G (ac_ST L xs) l (d + 6) 189 15 [some (.ref 0), some (.int i1), some (.int i2), some (.int s.1), some (.int (va_90 i2 V)), some (.int (nI i))] [] ac_SK s.2 ac_SK K) (fun i s => s.1 = fo (qhf V i2 i1) i 0 ∧ sc V s.2) n ?_ ?_ 0 ((0 : Int32), W) (Nat.zero_le _) ⟨rfl, hS⟩
  · intro s hs
    obtain ⟨a, X⟩ := s
    obtain ⟨h1, h2⟩ := hs
    dsimp only at h1 h2 ⊢
    have e42 : X 42 2 = nI n := by rw [h2 42 rfl, hn]
    refine iv_189_15 ⟨fun q => absurd q (zz_ge e42), fun _ => ?_⟩
    have := h X h2
    unfold qheld at this
    rw [hN, ← h1] at this
    exact this
  · intro i s hi hs ih
    obtain ⟨a, X⟩ := s
    obtain ⟨h1, h2⟩ := hs
    dsimp only at h1 h2 ⊢
    have e42 : X 42 2 = nI n := by rw [h2 42 rfl, hn]
    refine iv_189_15 ⟨fun _ => ?_, fun q => absurd (zz_gl e42 hi (by omega)) q⟩
    refine sp_188 hI h2 rfl (fun Y hY => ?_)
    dsimp only [aa_rI]
    have ih' : ∀ b, b = qhf V i2 i1 i a → ab_J G (ac_ST L xs) l (d + 6) 189 15 [some (.ref 0), some (.int i1), some (.int i2), some (.int b), some (.int (va_90 i2 V)), some (.int (nI i + 1))] [] ac_SK Y ac_SK K := fun b hb => by
      have := ih (b, Y) ⟨by rw [fo_s, ← h1]; exact hb, hY⟩
      rw [nI_succ] at this
      exact this
    refine ⟨fun c => ih' _ ?_, fun c => ih' _ ?_⟩
    · unfold qhf
      rw [if_pos c]
    · unfold qhf
      rw [if_neg c]
set_option maxRecDepth 20000 in
theorem sp_254 {G : ab_G} {L : Nat} {xs : Nat → Int32} {l : Launch} {d : Nat} {i1 i2 : Int32} {V W : aa_V} {K : aa_K} (hI : nv V) (hS : sc V W) (h : ∀ X, sc V X → K (some (.int (qheld V i1 i2))) X) :
    ab_E G (ac_ST L xs) l (d + 7) ac_SK 254 [.ref 105, .int i1, .int i2] W K := by
  obtain ⟨⟨p1, p2, p3, p4, p5, p6⟩, _⟩ := hI.2.2.2.2.1
  obtain ⟨n, hn, hm⟩ := zb_i p2
  have hN : (V 42 2).toNatClampNeg = n := by rw [hn]; exact zz_ix (by omega)
  refine iv_254_0 ?_
  refine zz_up (σ := Int32 × aa_V) (fun i s => ab_J G (ac_ST L xs) l (d + 7) 254 5 [some (.ref 105), some (.int i1), some (.int i2), some (.int s.1), some (.int (nI i))] [] ac_SK s.2 ac_SK K) (fun i s => s.1 = fo (qhf V i1 i2) i 0 ∧ sc V s.2) n ?_ ?_ 0 ((0 : Int32), W) (Nat.zero_le _) ⟨rfl, hS⟩
  · intro s hs
    obtain ⟨a, X⟩ := s
    obtain ⟨h1, h2⟩ := hs
    dsimp only at h1 h2 ⊢
    have e42 : X 105 46 = nI n := by rw [h2 105 rfl, p1, hn]
    refine iv_254_5 ⟨fun q => absurd q (zz_ge e42), fun _ => ?_⟩
    have := h X h2
    unfold qheld at this
    rw [hN, ← h1] at this
    exact this
  · intro i s hi hs ih
    obtain ⟨a, X⟩ := s
    obtain ⟨h1, h2⟩ := hs
    dsimp only at h1 h2 ⊢
    have e42 : X 105 46 = nI n := by rw [h2 105 rfl, p1, hn]
    refine iv_254_5 ⟨fun _ => ?_, fun q => absurd (zz_gl e42 hi (by omega)) q⟩
    refine sp_253 hI h2 (fun Y hY => ?_)
    dsimp only [aa_rI]
    have ih' : ∀ b, b = qhf V i1 i2 i a → ab_J G (ac_ST L xs) l (d + 7) 254 5 [some (.ref 105), some (.int i1), some (.int i2), some (.int b), some (.int (nI i + 1))] [] ac_SK Y ac_SK K := fun b hb => by
      have := ih (b, Y) ⟨by rw [fo_s, ← h1]; exact hb, hY⟩
      rw [nI_succ] at this
      exact this
    refine ⟨fun c => ih' _ ?_, fun c => ih' _ ?_⟩
    · unfold qhf
      rw [if_pos c, Int32.or_zero]
    · unfold qhf
      rw [if_neg c]
theorem cs_164 {G : ab_G} {L : Nat} {xs : Nat → Int32} {l : Launch} {d : Nat} {i1 : Int32} {V : aa_V} {Q : Int32 → Int32 → aa_V → Prop} (hI : nv V) (hQ : ∀ x W, nv W → Q x x W) :
    ab_E G (ac_ST L xs) l (d + 7) ac_SK 164 [.ref 0, .int i1] V (aa_rI fun x V1 => ab_E G (ac_ST L xs) l (d + 8) ac_SK 255 [.ref 105, .int i1] V1 (aa_rI fun y W => Q x y W)) := by
  obtain ⟨n1, n2⟩ := hI.1
  refine iv_164_0 ⟨fun c1 => ?_, fun c1 => ⟨fun c2 => ?_, fun c2 => ?_⟩⟩
  · dsimp only [aa_rI]
    exact iv_255_0 ⟨fun _ => hQ _ _ hI, fun c => absurd c1 c⟩
  · dsimp only [aa_rI]
    exact iv_255_0 ⟨fun _ => hQ _ _ hI, fun _ => ⟨fun _ => hQ _ _ hI, fun c => absurd (by rw [n1]; exact c2) c⟩⟩
  · refine sp_189 hI sc_r (fun X hX => ?_)
    dsimp only [aa_rI]
    refine iv_255_0 ⟨fun c => absurd c c1, fun _ => ⟨fun c => absurd (by rw [hX 105 rfl, n1] at c; exact c) c2, fun _ => ?_⟩⟩
    refine sp_254 hI hX (fun Y hY => ?_)
    exact hQ _ _ (nv_z hY hI)
theorem cs_165 {G : ab_G} {L : Nat} {xs : Nat → Int32} {l : Launch} {d : Nat} {i1 i2 : Int32} {V : aa_V} {Q : Int32 → Int32 → aa_V → Prop} (hI : nv V) (hQ : ∀ x W, nv W → Q x x W) :
    ab_E G (ac_ST L xs) l (d + 7) ac_SK 165 [.ref 0, .int i1, .int i2] V (aa_rI fun x V1 => ab_E G (ac_ST L xs) l (d + 8) ac_SK 256 [.ref 105, .int i1, .int i2] V1 (aa_rI fun y W => Q x y W)) := by
  obtain ⟨n1, n2⟩ := hI.1
  refine iv_165_0 ⟨fun c1 => ?_, fun c1 => ⟨fun c2 => ?_, fun c2 => ⟨fun c3 => ?_, fun c3 => ⟨fun c4 => ?_, fun c4 => ?_⟩⟩⟩⟩
  · dsimp only [aa_rI]
    exact iv_256_0 ⟨fun _ => hQ _ _ hI, fun c => absurd c1 c⟩
  · dsimp only [aa_rI]
    exact iv_256_0 ⟨fun _ => hQ _ _ hI, fun _ => ⟨fun _ => hQ _ _ hI, fun c => absurd c2 c⟩⟩
  · dsimp only [aa_rI]
    exact iv_256_0 ⟨fun _ => hQ _ _ hI, fun _ => ⟨fun _ => hQ _ _ hI, fun _ => ⟨fun _ => hQ _ _ hI, fun c => absurd c3 c⟩⟩⟩
  · dsimp only [aa_rI]
    exact iv_256_0 ⟨fun _ => hQ _ _ hI, fun _ => ⟨fun _ => hQ _ _ hI, fun _ => ⟨fun _ => hQ _ _ hI, fun _ => ⟨fun _ => hQ _ _ hI, fun c => absurd (by rw [n1]; exact c4) c⟩⟩⟩⟩
  · refine sp_189 hI sc_r (fun X hX => ?_)
    dsimp only [aa_rI]
    refine sp_189 hI hX (fun X2 hX2 => ?_)
    dsimp only [aa_rI]
    refine iv_256_0 ⟨fun c => absurd c c1, fun _ => ⟨fun c => absurd c c2, fun _ => ⟨fun c => absurd c c3, fun _ => ⟨fun c => absurd (by rw [hX2 105 rfl, n1] at c; exact c) c4, fun _ => ?_⟩⟩⟩⟩
    refine sp_254 hI hX2 (fun Y hY => ?_)
    dsimp only [aa_rI]
    refine sp_254 hI hY (fun Y2 hY2 => ?_)
    exact hQ _ _ (nv_z hY2 hI)
-- says
theorem zb_lt1 {x i : Int32} {b : Nat} (h : zb x b) (hb : b < 2147483648) : (¬ (x - 1) < i) ↔ i < x := by
  have t := zb_sub1 h hb
  simp only [zz_lt, t]
  omega
set_option maxRecDepth 20000 in
theorem sp_228 {G : ab_G} {L : Nat} {xs : Nat → Int32} {l : Launch} {d : Nat} {i1 i2 : Int32} {V W : aa_V} {K : aa_K} (hI : nv V) (hS : sc V W)
    (hN : ¬ (i1 = 0 ∧ ¬ i2 < 0 ∧ i2 < V 29 3) → ¬ (i1 = 1 ∧ ¬ i2 < 0 ∧ i2 < V 42 2) → K (some (.long (-4611686018427387904 : Int64))) W)
    (hP : i1 = 0 → ¬ i2 < 0 → i2 < V 29 3 → ∀ X, sc V X → K (some (.long (qprice V i2).toInt64)) X)
    (hH : i1 = 1 → ¬ i2 < 0 → i2 < V 42 2 → ∀ X, sc V X → K (some (.long (qhold V i2 (V 0 13) (-1)).toInt64)) X) :
    ab_E G (ac_ST L xs) l (d + 7) ac_SK 228 [.ref 105, .int i1, .int i2] W K := by
  obtain ⟨n1, n2⟩ := hI.1
  obtain ⟨⟨w1, w2, w3, w4⟩, _⟩ := hI.2.2.1
  obtain ⟨⟨p1, p2, p3, p4, p5, p6⟩, _⟩ := hI.2.2.2.2.1
  have e105 := hS 105 rfl
  have ho : i1 = 1 → ¬ i2 < 0 → i2 < V 42 2 → ab_E G (ac_ST L xs) l (d + 6) ac_SK 253 [.ref 105, .int i2, .int (W 105 2), .int (-1 : Int32)] W (aa_rI (fun x1 V1 => K (some (.long (x1.toInt64))) V1)) := fun c1 c2 c3 => by
    rw [e105, n1]
    exact sp_253 hI hS (fun X hX => hH c1 c2 c3 X hX)
  refine iv_228_0 (d := d + 4) ?_
  rw [e105, w3, p1, ← e105]
  refine ⟨fun c1 => ⟨fun c2 => ⟨fun c3 => absurd (c1.symm.trans c3) (by decide), fun c3 => hN (fun z => z.2.1 c2) (fun z => c3 z.1)⟩, fun c2 => ⟨fun c3 => ?_, fun c3 => ⟨fun c4 => absurd (c1.symm.trans c4) (by decide), fun c4 => hN (fun z => c3 z.2.2) (fun z => c4 z.1)⟩⟩⟩, fun c1 => ⟨fun c2 => ⟨fun c3 => hN (fun z => c1 z.1) (fun z => z.2.1 c3), fun c3 => ⟨fun c4 => ho c2 c3 c4, fun c4 => hN (fun z => c1 z.1) (fun z => c4 z.2.2)⟩⟩, fun c2 => hN (fun z => c1 z.1) (fun z => c2 z.1)⟩⟩
  have r4 := zb_r w4 (by decide)
  refine sp_227 hI hS ?_ (fun X hX => hP c1 c2 c3 X hX)
  simp only [zz_lt, zl_0] at c2 c3
  refine vp_of_r ?_ ?_ <;> omega
set_option maxRecDepth 20000 in
theorem sp_151 {G : ab_G} {L : Nat} {xs : Nat → Int32} {l : Launch} {d : Nat} {i1 i2 : Int32} {V : aa_V} {K : aa_K} (hI : nv V)
    (hN : ¬ (i1 = 0 ∧ ¬ i2 < 0 ∧ i2 < V 29 3) → ¬ (i1 = 1 ∧ ¬ i2 < 0 ∧ i2 < V 42 2) → K (some (.long (-4611686018427387904 : Int64))) V)
    (hP : i1 = 0 → ¬ i2 < 0 → i2 < V 29 3 → ∀ X, sc V X → K (some (.long (qprice V i2).toInt64)) X)
    (hH : i1 = 1 → ¬ i2 < 0 → i2 < V 42 2 → ∀ X, sc V X → K (some (.long (qhold V i2 (V 0 13) (-1)).toInt64)) X) :
    ab_E G (ac_ST L xs) l (d + 6) ac_SK 151 [.ref 0, .int i1, .int i2] V K := by
  obtain ⟨⟨w1, w2, w3, w4⟩, _⟩ := hI.2.2.1
  obtain ⟨⟨p1, p2, p3, p4, p5, p6⟩, _⟩ := hI.2.2.2.2.1
  have k4 := zb_lt1 (i := i2) w4 (by decide)
  have k2 := zb_lt1 (i := i2) p2 (by decide)
  have ho : i1 = 1 → ¬ i2 < 0 → i2 < V 42 2 → ab_E G (ac_ST L xs) l (d + 5) ac_SK 90 [.ref 42, .int (V 0 13)] V (aa_rI (fun x1 V1 =>
                ab_E G (ac_ST L xs) l (d + 5) ac_SK 188 [.ref 0, .int i2, .int (V 0 13), .int x1, .int (-1 : Int32)] V1 (aa_rI (fun x2 V2 =>
                  K (some (.long (x2.toInt64))) V2)))) := fun c1 c2 c3 => by
    refine sp_90z hI sc_r ?_
    dsimp only [aa_rI]
    exact sp_188 hI sc_r rfl (fun X hX => hH c1 c2 c3 X hX)
  refine iv_151_0 ?_
  refine ⟨fun c1 => ⟨fun c2 => ⟨fun c3 => absurd (c1.symm.trans c3) (by decide), fun c3 => hN (fun z => z.2.1 c2) (fun z => c3 z.1)⟩, fun c2 => ⟨fun c3 => ⟨fun c4 => absurd (c1.symm.trans c4) (by decide), fun c4 => hN (fun z => (k4.mpr z.2.2) c3) (fun z => c4 z.1)⟩, fun c3 => ?_⟩⟩, fun c1 => ⟨fun c2 => ⟨fun c3 => hN (fun z => c1 z.1) (fun z => z.2.1 c3), fun c3 => ⟨fun c4 => hN (fun z => c1 z.1) (fun z => (k2.mpr z.2.2) c4), fun c4 => ho c2 c3 (k2.mp c4)⟩⟩, fun c2 => hN (fun z => c1 z.1) (fun z => c2 z.1)⟩⟩
  have r4 := zb_r w4 (by decide)
  have c4 := k4.mp c3
  refine sp_187 hI sc_r ?_ (fun X hX => hP c1 c2 c4 X hX)
  simp only [zz_lt, zl_0] at c2 c4
  refine vp_of_r ?_ ?_ <;> omega
theorem cs_151 {G : ab_G} {L : Nat} {xs : Nat → Int32} {l : Launch} {d : Nat} {i1 i2 : Int32} {V : aa_V} {Q : Int64 → Int64 → aa_V → Prop} (hI : nv V) (hQ : ∀ x W, nv W → Q x x W) :
    ab_E G (ac_ST L xs) l (d + 6) ac_SK 151 [.ref 0, .int i1, .int i2] V (aa_rL fun x V1 => ab_E G (ac_ST L xs) l (d + 7) ac_SK 228 [.ref 105, .int i1, .int i2] V1 (aa_rL fun y W => Q x y W)) := by
  refine sp_151 hI (fun g1 g2 => ?_) (fun g1 g2 g3 X hX => ?_) (fun g1 g2 g3 X hX => ?_)
  · dsimp only [aa_rL]
    exact sp_228 hI sc_r (fun _ _ => hQ _ _ hI) (fun c1 c2 c3 => absurd ⟨c1, c2, c3⟩ g1) (fun c1 c2 c3 => absurd ⟨c1, c2, c3⟩ g2)
  · dsimp only [aa_rL]
    exact sp_228 hI hX (fun c _ => absurd ⟨g1, g2, g3⟩ c) (fun _ _ _ Y hY => hQ _ _ (nv_z hY hI)) (fun c1 _ _ => absurd (g1.symm.trans c1) (by decide))
  · dsimp only [aa_rL]
    exact sp_228 hI hX (fun _ c => absurd ⟨g1, g2, g3⟩ c) (fun c1 _ _ => absurd (g1.symm.trans c1) (by decide)) (fun _ _ _ Y hY => hQ _ _ (nv_z hY hI))
-- keeps
def qkp (V : aa_V) (s : Int32) (f : Nat) : Prop := V 33 f = s ∧ V 36 f = 0 ∧ V 31 s.toNatClampNeg < qprice V (nI f)
set_option maxRecDepth 20000 in
theorem sp_209 {G : ab_G} {L : Nat} {xs : Nat → Int32} {l : Launch} {d : Nat} {i1 : Int32} {V W : aa_V} {K : aa_K} (hI : nv V) (hS : sc V W) (hv : vp_in i1 8) (h0 : ∀ X, sc V X → (∃ f, f < (V 29 3).toNatClampNeg ∧ qkp V i1 f) → K (some (.int (0 : Int32))) X) (h1 : ∀ X, sc V X → (∀ f, f < (V 29 3).toNatClampNeg → ¬ qkp V i1 f) → K (some (.int (1 : Int32))) X) :
    ab_J G (ac_ST L xs) l (d + 4) 209 15 [some (.ref 105), some (.int i1), some (.int (1 : Int32)), some (.int (0 : Int32))] [] ac_SK W ac_SK K := by
  obtain ⟨⟨w1, w2, w3, w4⟩, ⟨w5, w6, w7, w8, w9, w10, w11, w12⟩, s1, s2, s3, s4, s5, s6, s7, s8⟩ := hI.2.2.1
  obtain ⟨n, hn, hm⟩ := zb_i w4
  have hN : (V 29 3).toNatClampNeg = n := by rw [hn]; exact zz_ix (by omega)
  rw [hN] at h0 h1
  refine zz_up (σ := Int32 × aa_V) (fun i s => ab_J G (ac_ST L xs) l (d + 4) 209 15 [some (.ref 105), some (.int i1), some (.int s.1), some (.int (nI i))] [] ac_SK s.2 ac_SK K) (fun i s => sc V s.2 ∧ ((s.1 = 1 ∧ ∀ f, f < i → ¬ qkp V i1 f) ∨ (s.1 = 0 ∧ ∃ f, f < i ∧ qkp V i1 f))) n ?_ ?_ 0 ((1 : Int32), W) (Nat.zero_le _) ⟨hS, Or.inl ⟨rfl, fun f hf => absurd hf (Nat.not_lt_zero _)⟩⟩
  · intro s hs
    obtain ⟨a, X⟩ := s
    obtain ⟨h2, h3⟩ := hs
    dsimp only at h2 h3 ⊢
    have e : X 105 12 = nI n := by rw [h2 105 rfl, w3, hn]
    refine iv_209_15 ⟨fun q => absurd q (zz_ge e), fun _ => ?_⟩
    rcases h3 with ⟨h4, h5⟩ | ⟨h4, h5⟩
    · rw [h4]
      exact h1 X h2 h5
    · rw [h4]
      exact h0 X h2 h5
  · intro i s hi hs ih
    obtain ⟨a, X⟩ := s
    obtain ⟨h2, h3⟩ := hs
    dsimp only at h2 h3 ⊢
    have e : X 105 12 = nI n := by rw [h2 105 rfl, w3, hn]
    have ei : (nI i).toNatClampNeg = i := zz_ix (by omega)
    have vi : vp_in (nI i) 20 := vp_in_nI (by omega) (by decide)
    refine iv_209_15 ⟨fun _ => ?_, fun q => absurd (zz_gl e hi (by omega)) q⟩
    have ihn : ∀ Y, sc V Y → ¬ qkp V i1 i → ab_J G (ac_ST L xs) l (d + 4) 209 15 [some (.ref 105), some (.int i1), some (.int a), some (.int (nI i + 1))] [] ac_SK Y ac_SK K := fun Y hY q => by
      have := ih (a, Y) ⟨hY, h3.elim (fun z => Or.inl ⟨z.1, fun f hf => by
        rcases Nat.lt_or_ge f i with r | r
        · exact z.2 f r
        · rw [show f = i by omega]
          exact q⟩) (fun z => Or.inr ⟨z.1, z.2.elim (fun f hf => ⟨f, by omega, hf.2⟩)⟩)⟩
      rw [nI_succ] at this
      exact this
    have ihy : ∀ Y, sc V Y → qkp V i1 i → ab_J G (ac_ST L xs) l (d + 4) 209 15 [some (.ref 105), some (.int i1), some (.int (0 : Int32)), some (.int (nI i + 1))] [] ac_SK Y ac_SK K := fun Y hY q => by
      have := ih ((0 : Int32), Y) ⟨hY, Or.inr ⟨rfl, i, by omega, q⟩⟩
      rw [nI_succ] at this
      exact this
    have e111 : X 111 = V 33 := (h2 111 rfl).trans w8
    have e114 : X 114 = V 36 := (h2 114 rfl).trans w11
    refine ⟨vi, fun c1 => ⟨vi, fun c2 => ⟨hv, ?_⟩, fun c2 => ihn X h2 (fun z => c2 (by rw [ei, e114]; exact z.2.1))⟩, fun c1 => ihn X h2 (fun z => c1 (by rw [ei, e111]; exact z.1))⟩
    rw [ei, e111] at c1
    rw [ei, e114] at c2
    refine sp_227 hI h2 vi (fun Y hY => ?_)
    rw [(h2 109 rfl).trans w6]
    exact ⟨fun c3 => ihy Y hY ⟨c1, c2, c3⟩, fun c3 => ihn Y hY (fun z => c3 z.2.2)⟩
set_option maxRecDepth 20000 in
theorem cs_146 {G : ab_G} {L : Nat} {xs : Nat → Int32} {l : Launch} {d : Nat} {i1 : Int32} {V : aa_V} {Q : Int32 → Int32 → aa_V → Prop} (hI : nv V) (hQ : ∀ x W, nv W → Q x x W) :
    ab_E G (ac_ST L xs) l (d + 6) ac_SK 146 [.ref 0, .int i1] V (aa_rI fun x V1 => ab_E G (ac_ST L xs) l (d + 4) ac_SK 209 [.ref 105, .int i1] V1 (aa_rI fun y W => Q x y W)) := by
  obtain ⟨⟨w1, w2, w3, w4⟩, ⟨w5, w6, w7, w8, w9, w10, w11, w12⟩, s1, s2, s3, s4, s5, s6, s7, s8⟩ := hI.2.2.1
  have k2 := zb_lt1 (i := i1) w2 (by decide)
  have r2 := zb_r w2 (by decide)
  refine iv_146_0 ⟨fun c1 => ?_, fun c1 => ⟨fun c2 => ?_, fun c2 => ?_⟩⟩
  · dsimp only [aa_rI]
    exact iv_209_0 ⟨fun _ => hQ _ _ hI, fun c => absurd c1 c⟩
  · dsimp only [aa_rI]
    exact iv_209_0 ⟨fun _ => hQ _ _ hI, fun _ => ⟨fun c => absurd c2 (k2.mpr (by rw [w1] at c; exact c)), fun _ => hQ _ _ hI⟩⟩
  have c2 := k2.mp c2
  have hv : vp_in i1 8 := by
    have d1 := c1
    have d2 := c2
    simp only [zz_lt, zl_0] at d1 d2
    refine vp_of_r ?_ ?_ <;> omega
  have m0 : ∀ X, sc V X → (∃ f, f < (V 29 3).toNatClampNeg ∧ qkp V i1 f) → ab_E G (ac_ST L xs) l (d + 4) ac_SK 209 [.ref 105, .int i1] X (aa_rI fun y W => Q (0 : Int32) y W) := fun X hX hf => by
    refine iv_209_0 (d := d + 1) ⟨fun c => absurd c c1, fun _ => ⟨fun _ => ?_, fun c => absurd (by rw [hX 105 rfl, w1]; exact c2) c⟩⟩
    refine sp_209 hI hX hv (fun Y hY _ => hQ _ _ (nv_z hY hI)) (fun Y hY h => hf.elim (fun f z => absurd z.2 (h f z.1)))
  have m1 : ∀ X, sc V X → (∀ f, f < (V 29 3).toNatClampNeg → ¬ qkp V i1 f) → ab_E G (ac_ST L xs) l (d + 4) ac_SK 209 [.ref 105, .int i1] X (aa_rI fun y W => Q (1 : Int32) y W) := fun X hX hf => by
    refine iv_209_0 (d := d + 1) ⟨fun c => absurd c c1, fun _ => ⟨fun _ => ?_, fun c => absurd (by rw [hX 105 rfl, w1]; exact c2) c⟩⟩
    refine sp_209 hI hX hv (fun Y hY h => h.elim (fun f z => absurd z.2 (hf f z.1))) (fun Y hY _ => hQ _ _ (nv_z hY hI))
  obtain ⟨n, hn, hm⟩ := zb_i w4
  have hN : (V 29 3).toNatClampNeg = n := by rw [hn]; exact zz_ix (by omega)
  rw [hN] at m0 m1
  refine zz_up (σ := aa_V) (fun i X => ab_J G (ac_ST L xs) l (d + 6) 146 16 [some (.ref 0), some (.int i1), some (.int (nI i))] [] ac_SK X ac_SK (aa_rI fun x V1 => ab_E G (ac_ST L xs) l (d + 4) ac_SK 209 [.ref 105, .int i1] V1 (aa_rI fun y W => Q x y W))) (fun i X => sc V X ∧ ∀ f, f < i → ¬ qkp V i1 f) n ?_ ?_ 0 V (Nat.zero_le _) ⟨sc_r, fun f hf => absurd hf (Nat.not_lt_zero _)⟩
  · intro X hX
    obtain ⟨h2, h3⟩ := hX
    have e : X 29 3 = nI n := by rw [h2 29 rfl, hn]
    exact iv_146_16 ⟨fun q => absurd q (zz_ge e), fun _ => m1 X h2 h3⟩
  · intro i X hi hX ih
    obtain ⟨h2, h3⟩ := hX
    have e : X 29 3 = nI n := by rw [h2 29 rfl, hn]
    have ei : (nI i).toNatClampNeg = i := zz_ix (by omega)
    have vi : vp_in (nI i) 20 := vp_in_nI (by omega) (by decide)
    have ihn : ∀ Y, sc V Y → ¬ qkp V i1 i → ab_J G (ac_ST L xs) l (d + 6) 146 16 [some (.ref 0), some (.int i1), some (.int (nI i + 1))] [] ac_SK Y ac_SK (aa_rI fun x V1 => ab_E G (ac_ST L xs) l (d + 4) ac_SK 209 [.ref 105, .int i1] V1 (aa_rI fun y W => Q x y W)) := fun Y hY q => by
      have := ih Y ⟨hY, fun f hf => by
        rcases Nat.lt_or_ge f i with r | r
        · exact h3 f r
        · rw [show f = i by omega]
          exact q⟩
      rw [nI_succ] at this
      exact this
    refine iv_146_16 ⟨fun _ => ?_, fun q => absurd (zz_gl e hi (by omega)) q⟩
    rw [ei, h2 33 rfl, h2 36 rfl]
    refine ⟨vi, fun c3 => ⟨vi, fun c4 => ⟨hv, ?_⟩, fun c4 => ihn X h2 (fun z => c4 z.2.1)⟩, fun c3 => ihn X h2 (fun z => c3 z.1)⟩
    refine sp_187 hI h2 vi (fun Y hY => ?_)
    dsimp only [aa_rI]
    rw [h2 31 rfl]
    exact ⟨fun c5 => m0 Y hY ⟨i, hi, c3, c4, c5⟩, fun c5 => ihn Y hY (fun z => c5 z.2.2)⟩
