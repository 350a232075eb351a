/-! price and hold of the list -/
theorem aa_row_c {W : aa_V} {r b : Nat} {f : Nat → Int32} (h : b ≠ r) : aa_row W r f b = W b := if_neg h
theorem aa_row_s {W : aa_V} {r : Nat} {f : Nat → Int32} : aa_row W r f r = f := if_pos rfl
/-- Arrays.fill -/
theorem sp_299 {G : ab_G} {L : Nat} {xs : Nat → Int32} {l : Launch} {d r n : Nat} {i1 : Int32} {W : aa_V} {K : aa_K} (hs : aa_sh ac_SK r = some (100, n, [])) (hn : n < 1000000) (h : K none (aa_row W r (fun j => if j < n then i1 else W r j))) :
    ab_E G (ac_ST L xs) l (d + 1) ac_SK 299 [.ref r, .int i1] W K := by
  refine iv_299_0 ⟨100, n, [], hs, by decide, ?_⟩
  refine zz_up (σ := aa_V) (fun i X => ab_J G (ac_ST L xs) l (d + 1) 299 5 [some (.ref r), some (.int i1), some (.int (nI i)), some (.int (nI n))] [] ac_SK X ac_SK K) (fun i X => X = aa_row W r (fun j => if j < i then i1 else W r j)) n ?_ ?_ 0 W (Nat.zero_le _) ?_
  · intro X hX
    refine iv_299_5 ⟨fun c => absurd c (nI_nl (Nat.le_refl _) (by omega)), fun _ => ?_⟩
    rw [hX]
    exact h
  · intro i X hi hX ih
    refine iv_299_5 ⟨fun _ => ⟨n, [], hs, vp_in_nI hi (by omega), ?_⟩, fun q => absurd ((zz_nlt (by omega) (by omega)).mpr hi) q⟩
    have := ih (aa_up X r i i1) (by
      subst hX
      funext b
      by_cases hb : b = r
      · subst hb
        rw [aa_row_s]
        funext j
        rw [aa_up_at, aa_row_s]
        by_cases hj : j = i
        · rw [if_pos ⟨rfl, hj⟩, if_pos (by omega)]
        · rw [if_neg (fun z => hj z.2)]
          by_cases hj2 : j < i
          · rw [if_pos hj2, if_pos (by omega)]
          · rw [if_neg hj2, if_neg (by omega)]
      · rw [aa_up_c hb, aa_row_c hb, aa_row_c hb])
    rw [zz_ix (by omega)]
    rw [nI_succ] at this
    exact this
  · funext b
    by_cases hb : b = r
    · subst hb
      rw [aa_row_s]
      funext j
      rw [if_neg (by omega)]
    · rw [aa_row_c hb]
theorem v6 {k : Nat} (h : k < 6) : vp_in (nI k) 6 := vp_in_nI h (by decide)
theorem zs_t {t : Nat} (h : t < 6) : zsc (89 + 3 * t) = true := (show ∀ t, t < 6 → zsc (89 + 3 * t) = true by decide) t h
/-- what part p of the list comes to, over names -/
def qtx (V : aa_V) (p : Nat) (nm : Nat → Int32) : Int32 :=
  if p = 0 then tv nm (V (88 + 3 * (V 0 12).toNatClampNeg)) (V (87 + 3 * (V 0 12).toNatClampNeg) 2).toNatClampNeg
  else tv nm (fun j => V (88 + 3 * (V 0 12).toNatClampNeg) ((V (87 + 3 * (V 0 12).toNatClampNeg) 2).toNatClampNeg + j)) ((V (87 + 3 * (V 0 12).toNatClampNeg) 3).toNatClampNeg - (V (87 + 3 * (V 0 12).toNatClampNeg) 2).toNatClampNeg)
theorem nv_list {V : aa_V} (hI : nv V) : ∃ l : Nat, V 0 12 = nI l ∧ l < 6 ∧ (V 0 12).toNatClampNeg = l ∧ V 105 21 = nI l ∧ nv_u V l ∧ ∃ M : Nat, V 105 25 = nI M ∧ M ≤ 1200 := by
  obtain ⟨⟨t1, t2⟩, T, M, l, t3, t4, t5, t6, t7, t8, t9, t10⟩ := hI.2.2.2.2.2.2.2.2.2.2
  exact ⟨l, t8, by omega, by rw [t8]; exact zz_ix (by omega), by rw [t2, t8], t10 l t9, M, t6, by omega⟩
theorem nI_j {a b : Nat} (ha : a < 2 ^ 31) (hb : b < 2 ^ 31) (h : nI a = nI b) : a = b := (nI_k ha hb).mp h
theorem sp_72 {G : ab_G} {L : Nat} {xs : Nat → Int32} {l : Launch} {d : Nat} {t : Nat} {nm : Nat → Int32} {V W : aa_V} {K : aa_K} (hI : nv V) (hS : sc V W) (ht : (V 0 12).toNatClampNeg = t) (hn : ∀ j, j < 6 → W 86 j = nm j) (h : ∀ X, sc V X → K (some (.int (qtx V 0 nm))) X) :
    ab_E G (ac_ST L xs) l (d + 4) ac_SK 72 [.ref (87 + 3 * t), .ref 86] W K := by
  obtain ⟨t', e1, e2, e3, e4, ⟨m1, m2, b1, b2, M', u1, u2, u3, u4, u5, u6, u7, u8, u9, u10, u11, u12, u13, u14⟩, M, e5, e6⟩ := nv_list hI
  have : t' = t := by rw [← e3, ht]
  subst this
  refine vc_72_0 ⟨⟨4, _, tx_0 e2⟩, ⟨4, _, tx_0 e2⟩, ?_⟩
  rw [hS (87 + 3 * t') (zs_f (by omega)), u1]
  have hr : (fun j => W (88 + 3 * t') (0 + j)) = V (88 + 3 * t') := by
    funext j
    rw [Nat.zero_add, hS (88 + 3 * t') (zs_f (by omega))]
  have := sp_74 (G := G) (L := L) (xs := xs) (l := l) (d := d) (b := 0) (n := m1) (t := t') (W := W) (K := aa_rI (fun x1 V1 => K (some (.int x1)) V1)) e2 (by omega) (by rw [hr]; exact u13) (fun X hX => by
    show K _ _
    rw [hr, tv_of hn (fun _ _ => rfl) u13]
    have h2 := h X (sc_on hS (zs_t e2) hX)
    unfold qtx at h2
    rw [if_pos rfl, e3, u1, zz_ix (by omega)] at h2
    exact h2)
  rw [Nat.zero_add] at this
  exact this
theorem sp_73 {G : ab_G} {L : Nat} {xs : Nat → Int32} {l : Launch} {d : Nat} {t : Nat} {nm : Nat → Int32} {V W : aa_V} {K : aa_K} (hI : nv V) (hS : sc V W) (ht : (V 0 12).toNatClampNeg = t) (hn : ∀ j, j < 6 → W 86 j = nm j) (h : ∀ X, sc V X → K (some (.int (qtx V 1 nm))) X) :
    ab_E G (ac_ST L xs) l (d + 4) ac_SK 73 [.ref (87 + 3 * t), .ref 86] W K := by
  obtain ⟨t', e1, e2, e3, e4, ⟨m1, m2, b1, b2, M', u1, u2, u3, u4, u5, u6, u7, u8, u9, u10, u11, u12, u13, u14⟩, M, e5, e6⟩ := nv_list hI
  have : t' = t := by rw [← e3, ht]
  subst this
  refine vc_73_0 ⟨⟨4, _, tx_0 e2⟩, ⟨4, _, tx_0 e2⟩, ⟨4, _, tx_0 e2⟩, ?_⟩
  rw [hS (87 + 3 * t') (zs_f (by omega)), u1, u2]
  have hr : (fun j => W (88 + 3 * t') (m1 + j)) = (fun j => V (88 + 3 * t') (m1 + j)) := by
    funext j
    rw [hS (88 + 3 * t') (zs_f (by omega))]
  refine sp_74 e2 (by omega) (by rw [hr]; exact u14) (fun X hX => ?_)
  show K _ _
  rw [hr, tv_of hn (fun _ _ => rfl) u14]
  have h2 := h X (sc_on hS (zs_t e2) hX)
  unfold qtx at h2
  rw [if_neg (by decide), e3, u1, u2, zz_ix (by omega), zz_ix (by omega), Nat.add_sub_cancel_left] at h2
  exact h2
theorem ix2 {l p : Nat} (hl : l < 6) (hp : p < 2) : (2 : Int32) * nI l + nI p = nI (2 * l + p) := (show ∀ l, l < 6 → ∀ p, p < 2 → (2 : Int32) * nI l + nI p = nI (2 * l + p) by decide +kernel) l hl p hp
theorem sp_225 {G : ab_G} {L : Nat} {xs : Nat → Int32} {l : Launch} {d p : Nat} {i1 : Int32} {nm : Nat → Int32} {V W : aa_V} {K : aa_K} (hI : nv V) (hS : sc V W) (hp : p < 2) (hi : i1 = nI p) (hn : ∀ j, j < 6 → j ≠ 2 → W 122 j = nm j) (hn2 : nm 2 = V 0 13 / 7) (h : ∀ X, sc V X → K (some (.int (qtx V p nm))) X) :
    ab_E G (ac_ST L xs) l (d + 2) ac_SK 225 [.ref 105, .int i1] W K := by
  obtain ⟨t, e1, e2, e3, e4, ⟨m1, m2, b1, b2, M', u1, u2, u3, u4, u5, u6, u7, u8, u9, u10, u11, u12, u13, u14⟩, M, e5, e6⟩ := nv_list hI
  obtain ⟨n1, n2⟩ := hI.1
  have e105 := hS 105 rfl
  subst hi
  have hM := u8.2
  have ev : ((2 : Int32) * (W 105 21)) + nI p = nI (2 * t + p) := by rw [e105, e4, ix2 e2 hp]
  have ex : (((2 : Int32) * (W 105 21)) + nI p).toNatClampNeg = 2 * t + p := by rw [ev]; exact zz_ix (by omega)
  have vv : vp_in (((2 : Int32) * (W 105 21)) + nI p) 12 := by rw [ev]; exact vp_in_nI (by omega) (by decide)
  refine iv_225_0 ⟨by decide, v6 (k := 2) (by decide), vv, ?_⟩
  rw [ex, hS 119 rfl]
  obtain ⟨U, hU⟩ : ∃ U, U = aa_up W 122 ((2 : Int32)).toNatClampNeg (W 105 2 / 7) := ⟨_, rfl⟩
  rw [← hU]
  have hUc : ∀ c, c ≠ 122 → U c = W c := fun c hc => by rw [hU]; exact aa_up_c hc
  have hSU : sc V U := sc_on hS rfl hUc
  have hnU : ∀ j, j < 6 → U 122 j = nm j := by
    intro j hj
    by_cases q : j = 2
    · rw [q, hn2, hU, show ((2 : Int32)).toNatClampNeg = 2 from rfl, aa_up_s, e105, n1]
    · rw [hU, show ((2 : Int32)).toNatClampNeg = 2 from rfl, aa_up_o q]
      exact hn j hj q
  rcases (show p = 0 ∨ p = 1 by omega) with rfl | rfl
  · have u3' : V 119 (2 * t + 0) = nI b1 := u3
    have u4' : V 120 (2 * t + 0) = nI (b1 + m1) := u4
    rw [u3']
    refine sp_225w (n := m1) (r := V (88 + 3 * t)) (by omega) (by rw [hUc 105 (by decide)]; exact vv) (by rw [hUc 105 (by decide), ex, hUc 120 (by decide), hS 120 rfl, u4']) (fun j hj => by rw [hUc 117 (by decide), hUc 118 (by decide), hS 117 rfl, hS 118 rfl]; exact u11 j hj) u13 (fun X hX => ?_)
    rw [tv_of hnU (fun _ _ => rfl) u13]
    have h2 := h X (sc_on hSU rfl hX)
    unfold qtx at h2
    rw [if_pos rfl, e3, u1, zz_ix (by omega)] at h2
    exact h2
  · rw [u5]
    refine sp_225w (n := m2) (r := fun j => V (88 + 3 * t) (m1 + j)) (by omega) (by rw [hUc 105 (by decide)]; exact vv) (by rw [hUc 105 (by decide), ex, hUc 120 (by decide), hS 120 rfl, u6]) (fun j hj => by rw [hUc 117 (by decide), hUc 118 (by decide), hS 117 rfl, hS 118 rfl]; exact u12 j hj) u14 (fun X hX => ?_)
    rw [tv_of hnU (fun _ _ => rfl) u14]
    have h2 := h X (sc_on hSU rfl hX)
    unfold qtx at h2
    rw [if_neg (by decide), e3, u1, u2, zz_ix (by omega), zz_ix (by omega), Nat.add_sub_cancel_left] at h2
    exact h2
-- price
def qnp (V : aa_V) (i : Int32) : Nat → Int32 := fun j => if j = 0 then V 32 i.toNatClampNeg else if j = 1 then V 34 i.toNatClampNeg else if j = 2 then V 0 13 / 7 else if j = 3 then va_125 i V else 0
def qprice (V : aa_V) (i : Int32) : Int32 := qtx V 0 (qnp V i)
theorem q125 {V W : aa_V} (h1 : W 32 = V 32) (h2 : W 34 = V 34) (h3 : W 35 = V 35) (i : Int32) : va_125 i W = va_125 i V := by
  unfold va_125
  rw [h1, h2, h3]
theorem six {P : Nat → Prop} (h0 : P 0) (h1 : P 1) (h2 : P 2) (h3 : P 3) (h4 : P 4) (h5 : P 5) : ∀ j, j < 6 → P j := by
  intro j hj
  have : j = 0 ∨ j = 1 ∨ j = 2 ∨ j = 3 ∨ j = 4 ∨ j = 5 := by omega
  rcases this with rfl | rfl | rfl | rfl | rfl | rfl <;> assumption
set_option maxRecDepth 20000 in
theorem sp_187 {G : ab_G} {L : Nat} {xs : Nat → Int32} {l : Launch} {d : Nat} {i1 : Int32} {V W : aa_V} {K : aa_K} (hI : nv V) (hS : sc V W) (hv : vp_in i1 20) (h : ∀ X, sc V X → K (some (.int (qprice V i1))) X) :
    ab_E G (ac_ST L xs) l (d + 5) ac_SK 187 [.ref 0, .int i1] W K := by
  obtain ⟨t, e1, e2, e3, e4, _, _⟩ := nv_list hI
  refine iv_187_0 ?_
  refine sp_299 (n := 6) rfl (by decide) ?_
  dsimp only [aa_rV]
  refine ⟨hv, v6 (k := 0) (by decide), hv, v6 (k := 1) (by decide), by decide, v6 (k := 2) (by decide), ?_⟩
  refine sp_125 hv ?_
  dsimp only [aa_rI]
  refine ⟨v6 (k := 3) (by decide), 6, _, 87 + 3 * t, rfl, ?_, ?_, ⟨4, _, tx_0 e2⟩, ?_⟩
  · show vp_in (W 0 12) 6
    rw [hS 0 rfl, e1]
    exact v6 e2
  · show aa_nth _ (W 0 12).toNatClampNeg = _
    rw [hS 0 rfl, e3]
    exact tx_n e2
  · refine sp_72 (V := V) hI (sc_up (sc_up (sc_up (sc_up (sc_on hS (a := 86) rfl (fun c hc => aa_row_c hc)) rfl) rfl) rfl) rfl) e3 (nm := qnp V i1) (six ?_ ?_ ?_ ?_ ?_ ?_) (fun X hX => h X hX)
    · show W 32 i1.toNatClampNeg = V 32 i1.toNatClampNeg
      rw [hS 32 rfl]
    · show W 34 i1.toNatClampNeg = V 34 i1.toNatClampNeg
      rw [hS 34 rfl]
    · show W 0 13 / 7 = V 0 13 / 7
      rw [hS 0 rfl]
    · show va_125 i1 _ = va_125 i1 V
      exact q125 ((hS 32 rfl) ▸ rfl) ((hS 34 rfl) ▸ rfl) ((hS 35 rfl) ▸ rfl) i1
    · rfl
    · rfl
/-- the price as the reference asks for it -/
theorem sp_227 {G : ab_G} {L : Nat} {xs : Nat → Int32} {l : Launch} {d : Nat} {i1 : Int32} {V W : aa_V} {R : Int32 → aa_V → Prop} (hI : nv V) (hS : sc V W) (hv : vp_in i1 20) (h : ∀ X, sc V X → R (qprice V i1) X) :
    vp_in i1 20 ∧ vp_in (0 : Int32) 6 ∧ vp_in i1 20 ∧ vp_in (1 : Int32) 6 ∧
          ab_E G (ac_ST L xs) l (d + 2) ac_SK 205 [.ref 105, .int i1] (aa_up (aa_up W 122 (((0 : Int32)).toNatClampNeg) (W 110 ((i1).toNatClampNeg))) 122 (((1 : Int32)).toNatClampNeg) (W 112 ((i1).toNatClampNeg))) (aa_rI (fun x1 V1 =>
            vp_in (3 : Int32) 6 ∧
            vp_in (4 : Int32) 6 ∧
            vp_in (5 : Int32) 6 ∧
            ab_E G (ac_ST L xs) l (d + 2) ac_SK 225 [.ref 105, .int (0 : Int32)] (aa_up (aa_up (aa_up V1 122 (((3 : Int32)).toNatClampNeg) x1) 122 (((4 : Int32)).toNatClampNeg) (0 : Int32)) 122 (((5 : Int32)).toNatClampNeg) (0 : Int32)) (aa_rI (fun x2 V2 => R x2 V2)))) := by
  have hw := hI.2.2.1
  have q := qv_125 hw i1
  obtain ⟨⟨w1, w2, w3, w4⟩, ⟨w5, w6, w7, w8, w9, w10, w11, w12⟩, s1, s2, s3, s4, s5, s6, s7, s8⟩ := hw
  refine ⟨hv, v6 (k := 0) (by decide), hv, v6 (k := 1) (by decide), ?_⟩
  refine sp_205 hv ?_
  dsimp only [aa_rI]
  refine ⟨v6 (k := 3) (by decide), v6 (k := 4) (by decide), v6 (k := 5) (by decide), ?_⟩
  refine sp_225 (V := V) (p := 0) (nm := qnp V i1) hI (sc_up (sc_up (sc_up (sc_up (sc_up hS rfl) rfl) rfl) rfl) rfl) (by decide) rfl (six ?_ ?_ ?_ ?_ ?_ ?_) rfl (fun X hX => h X hX)
  · intro _
    show W 110 i1.toNatClampNeg = V 32 i1.toNatClampNeg
    rw [hS 110 rfl, w7]
  · intro _
    show W 112 i1.toNatClampNeg = V 34 i1.toNatClampNeg
    rw [hS 112 rfl, w9]
  · exact fun z => absurd rfl z
  · intro _
    show va_205 i1 _ = va_125 i1 V
    rw [← q]
    unfold va_205
    rw [aa_up_c (by decide), aa_up_c (by decide), aa_up_c (by decide), aa_up_c (by decide), aa_up_c (by decide), aa_up_c (by decide), hS 110 rfl, hS 112 rfl, hS 113 rfl]
  · exact fun _ => rfl
  · exact fun _ => rfl
-- hold
def qhw (V : aa_V) (p k wo : Int32) : Nat → Bool := fun w => decide (¬ k < V 53 w ∧ V 50 w = p ∧ ¬ qlie k V w = 0 ∧ ¬ V 49 w = wo)
def qnh (V : aa_V) (p k wo : Int32) : Nat → Int32 := fun j => if j = 2 then V 0 13 / 7 else if j = 4 then nI (pz_c (qhw V p k wo) (V 42 10).toNatClampNeg) else if j = 5 then fo (fun i a => if qhw V p k wo i = true then a + V 52 i else a) (V 42 10).toNatClampNeg 0 else 0
def qhold (V : aa_V) (p k wo : Int32) : Int32 := qtx V 1 (qnh V p k wo)
set_option maxRecDepth 20000 in
theorem sp_188e {G : ab_G} {L : Nat} {xs : Nat → Int32} {l : Launch} {d : Nat} {i1 i2 i4 : Int32} {V W : aa_V} {K : aa_K} (hI : nv V) (hS : sc V W) (h : ∀ X, sc V X → K (some (.int (qhold V i1 i2 i4))) X) :
    ab_E G (ac_ST L xs) l (d + 4) ac_SK 299 [.ref 86, .int (0 : Int32)] W (aa_rV (fun V2 =>
          ¬ (7 : Int32) = 0 ∧
          vp_in (2 : Int32) 6 ∧
          ab_E G (ac_ST L xs) l (d + 4) ac_SK 285 [.int (bs (V 42 10).toNatClampNeg (qhw V i1 i2 i4))] (aa_up V2 86 (((2 : Int32)).toNatClampNeg) ((V2 0 13) / (7 : Int32))) (aa_rI (fun x3 V3 =>
            vp_in (4 : Int32) 6 ∧
            ab_E G (ac_ST L xs) l (d + 4) ac_SK 93 [.ref 42, .int (bs (V 42 10).toNatClampNeg (qhw V i1 i2 i4))] (aa_up V3 86 (((4 : Int32)).toNatClampNeg) x3) (aa_rI (fun x4 V4 =>
              vp_in (5 : Int32) 6 ∧
              ∃ (n5 : Nat) (rs5 : List Nat) (q5 : Nat), aa_sh ac_SK 85 = some (102, n5, rs5) ∧ vp_in (V4 0 12) n5 ∧ aa_nth rs5 ((V4 0 12)).toNatClampNeg = q5 + 1 ∧
              aa_is ac_SK q5 6 ∧
              ab_E G (ac_ST L xs) l (d + 4) ac_SK 73 [.ref q5, .ref 86] (aa_up V4 86 (((5 : Int32)).toNatClampNeg) x4) (aa_rI (fun x6 V6 =>
                K (some (.int x6)) V6)))))))) := by
  obtain ⟨t, e1, e2, e3, e4, _, _⟩ := nv_list hI
  obtain ⟨⟨p1, p2, p3, p4, p5, p6⟩, _⟩ := hI.2.2.2.2.1
  refine sp_299 (n := 6) rfl (by decide) ?_
  dsimp only [aa_rV]
  refine ⟨by decide, v6 (k := 2) (by decide), ?_⟩
  refine sp_285 ?_
  dsimp only [aa_rI]
  refine ⟨v6 (k := 4) (by decide), ?_⟩
  refine sp_93 (by show zb (W 42 10) 24; rw [hS 42 rfl]; exact p6) ?_
  dsimp only [aa_rI]
  refine ⟨v6 (k := 5) (by decide), 6, _, 87 + 3 * t, rfl, ?_, ?_, ⟨4, _, tx_0 e2⟩, ?_⟩
  · show vp_in (W 0 12) 6
    rw [hS 0 rfl, e1]
    exact v6 e2
  · show aa_nth _ (W 0 12).toNatClampNeg = _
    rw [hS 0 rfl, e3]
    exact tx_n e2
  · refine sp_73 (V := V) hI (sc_up (sc_up (sc_up (sc_on hS (a := 86) rfl (fun c hc => aa_row_c hc)) rfl) rfl) rfl) e3 (nm := qnh V i1 i2 i4) (six ?_ ?_ ?_ ?_ ?_ ?_) (fun X hX => h X hX)
    · rfl
    · rfl
    · show W 0 13 / 7 = V 0 13 / 7
      rw [hS 0 rfl]
    · rfl
    · exact q285 W p6.2
    · show va_93 _ _ = fo (fun i a => if qhw V i1 i2 i4 i = true then a + V 52 i else a) (V 42 10).toNatClampNeg 0
      rw [q93 (n := (V 42 10).toNatClampNeg) _ (by show (W 42 10).toNatClampNeg = _; rw [hS 42 rfl]) p6.2]
      refine fo_c (fun w hw a => ?_)
      rw [show aa_up (aa_up (aa_row W 86 fun j => if j < 6 then 0 else W 86 j) 86 (((2 : Int32)).toNatClampNeg) _) 86 (((4 : Int32)).toNatClampNeg) _ 52 = V 52 from hS 52 rfl]
set_option maxRecDepth 20000 in
theorem sp_188 {G : ab_G} {L : Nat} {xs : Nat → Int32} {l : Launch} {d : Nat} {i1 i2 i3 i4 : Int32} {V W : aa_V} {K : aa_K} (hI : nv V) (hS : sc V W) (h3 : i3 = va_90 i2 V) (h : ∀ X, sc V X → K (some (.int (qhold V i1 i2 i4))) X) :
    ab_E G (ac_ST L xs) l (d + 5) ac_SK 188 [.ref 0, .int i1, .int i2, .int i3, .int i4] W K := by
  obtain ⟨⟨p1, p2, p3, p4, p5, p6⟩, ⟨p7, p8, p9, p10, p11, p12⟩, ⟨p13, p14, p15, p16, p17⟩, ⟨q1, q2, q3, q4, q5, q6⟩, q7, q8, q9, q10, q11⟩ := hI.2.2.2.2.1
  have hm : (V 42 10).toNatClampNeg ≤ 24 := p6.2
  have e92 : va_92 i1 i2 W = bs (V 42 10).toNatClampNeg (fun w => decide (¬ i2 < V 53 w ∧ V 50 w = i1)) := by
    rw [q92, hS 42 rfl, hS 53 rfl, hS 50 rfl]
  have e91 : va_91 i4 i2 W = bs (V 42 10).toNatClampNeg (fun w => decide (¬ i2 < V 53 w ∧ V 49 w = i4)) := by
    rw [q91, hS 42 rfl, hS 53 rfl, hS 49 rfl]
  have hz : zb (W 42 10) 24 := by rw [hS 42 rfl]; exact p6
  refine iv_188_0 ?_
  refine sp_92 hz ?_
  dsimp only [aa_rI]
  rw [h3, q90, e92, bs_andn (by omega)]
  refine ⟨fun c => ?_, fun c => ?_⟩
  · rw [show bs (V 42 10).toNatClampNeg (fun i => decide (¬ i2 < V 53 i ∧ V 50 i = i1) && !decide (¬ i2 < V 53 i ∧ qlie i2 V i = 0)) = bs (V 42 10).toNatClampNeg (qhw V i1 i2 i4) from bs_c (fun w _ => by
      unfold qhw
      have h4 : ¬ V 49 w = i4 := fun z => by
        have := zb_r (q7 w) (by decide)
        rw [z, c, zl_m1] at this
        omega
      by_cases a1 : i2 < V 53 w <;> by_cases a2 : V 50 w = i1 <;> by_cases a3 : qlie i2 V w = 0 <;> simp [a1, a2, a3, h4])]
    exact sp_188e hI hS h
  · refine sp_91 hz ?_
    dsimp only [aa_rI]
    rw [e91, bs_andn (by omega)]
    rw [show bs (V 42 10).toNatClampNeg (fun i => (decide (¬ i2 < V 53 i ∧ V 50 i = i1) && !decide (¬ i2 < V 53 i ∧ qlie i2 V i = 0)) && !decide (¬ i2 < V 53 i ∧ V 49 i = i4)) = bs (V 42 10).toNatClampNeg (qhw V i1 i2 i4) from bs_c (fun w _ => by
      unfold qhw
      by_cases a1 : i2 < V 53 w <;> by_cases a2 : V 50 w = i1 <;> by_cases a3 : qlie i2 V w = 0 <;> by_cases a4 : V 49 w = i4 <;> simp [a1, a2, a3, a4])]
    exact sp_188e hI hS h
set_option maxRecDepth 20000 in
theorem sp_253 {G : ab_G} {L : Nat} {xs : Nat → Int32} {l : Launch} {d : Nat} {i1 i2 i3 : Int32} {V W : aa_V} {K : aa_K} (hI : nv V) (hS : sc V W) (h : ∀ X, sc V X → K (some (.int (qhold V i1 i2 i3))) X) :
    ab_E G (ac_ST L xs) l (d + 6) ac_SK 253 [.ref 105, .int i1, .int i2, .int i3] W K := by
  obtain ⟨⟨w1, w2, w3, w4⟩, ⟨w5, w6, w7, w8, w9, w10, w11, w12⟩, s1, s2, s3, s4, s5, s6, s7, s8⟩ := hI.2.2.1
  obtain ⟨⟨a1, a2⟩, ⟨a3, a4, a5⟩, a6, a7, a8⟩ := hI.2.2.2.1
  obtain ⟨⟨p1, p2, p3, p4, p5, p6⟩, ⟨p7, p8, p9, p10, p11, p12⟩, ⟨p13, p14, p15, p16, p17⟩, ⟨q1, q2, q3, q4, q5, q6⟩, q7, q8, q9, q10, q11⟩ := hI.2.2.2.2.1
  obtain ⟨n, hn, hm⟩ := zb_i p6
  have hN : (V 42 10).toNatClampNeg = n := by rw [hn]; exact zz_ix (by omega)
  refine iv_253_0 ?_
  refine zz_up (σ := aa_V) (fun i X => ab_J G (ac_ST L xs) l (d + 6) 253 9 [some (.ref 105), some (.int i1), some (.int i2), some (.int i3), some (.int (nI (pz_c (qhw V i1 i2 i3) i))), some (.int (fo (fun i a => if qhw V i1 i2 i3 i = true then a + V 52 i else a) i 0)), some (.int (nI i))] [] ac_SK X ac_SK K) (fun i X => sc V X) n ?_ ?_ 0 W (Nat.zero_le _) hS
  · intro X hX
    have e105 : X 105 48 = nI n := by rw [hX 105 rfl, p5, hn]
    refine iv_253_9 ⟨fun q => absurd q (zz_ge e105), fun _ => ⟨v6 (k := 0) (by decide), v6 (k := 1) (by decide), v6 (k := 3) (by decide), v6 (k := 4) (by decide), v6 (k := 5) (by decide), ?_⟩⟩
    refine sp_225 (V := V) (p := 1) (nm := qnh V i1 i2 i3) hI (sc_up (sc_up (sc_up (sc_up (sc_up hX rfl) rfl) rfl) rfl) rfl) (by decide) rfl (six ?_ ?_ ?_ ?_ ?_ ?_) rfl (fun Y hY => h Y hY)
    · exact fun _ => rfl
    · exact fun _ => rfl
    · exact fun z => absurd rfl z
    · exact fun _ => rfl
    · intro _
      show nI (pz_c (qhw V i1 i2 i3) n) = nI (pz_c (qhw V i1 i2 i3) (V 42 10).toNatClampNeg)
      rw [hN]
    · intro _
      show fo _ n 0 = fo _ (V 42 10).toNatClampNeg 0
      rw [hN]
  · intro i X hi h2 ih
    have e : (nI i).toNatClampNeg = i := zz_ix (by omega)
    have vi : vp_in (nI i) 24 := vp_in_nI (by omega) (by decide)
    have e105 : X 105 48 = nI n := by rw [h2 105 rfl, p5, hn]
    refine iv_253_9 ⟨fun _ => ?_, fun q => absurd (zz_gl e105 hi (by omega)) q⟩
    have e124 : X 124 = V 39 := (h2 124 rfl).trans a3
    have e125 : X 125 = V 40 := (h2 125 rfl).trans a4
    have e126 : X 126 = V 41 := (h2 126 rfl).trans a5
    have e111 : X 111 = V 33 := (h2 111 rfl).trans w8
    have e108 : X 108 = V 30 := (h2 108 rfl).trans w5
    have e133 : X 133 = V 49 := (h2 133 rfl).trans p13
    have e134 : X 134 = V 50 := (h2 134 rfl).trans p14
    have e135 : X 135 = V 51 := (h2 135 rfl).trans p15
    have e137 : X 137 = V 53 := (h2 137 rfl).trans p17
    have ihn : ∀ Y, sc V Y → ¬ (¬ i2 < V 53 i ∧ V 50 i = i1 ∧ ¬ qlie i2 V i = 0 ∧ ¬ V 49 i = i3) → ab_J G (ac_ST L xs) l (d + 6) 253 9 [some (.ref 105), some (.int i1), some (.int i2), some (.int i3), some (.int (nI (pz_c (qhw V i1 i2 i3) i))), some (.int (fo (fun i a => if qhw V i1 i2 i3 i = true then a + V 52 i else a) i 0)), some (.int (nI i + 1))] [] ac_SK Y ac_SK K := fun Y hY z => by
      have := ih Y hY
      have hq : ¬ qhw V i1 i2 i3 i = true := fun y => z (of_decide_eq_true y)
      rw [nI_succ, fo_s, if_neg hq, show pz_c (qhw V i1 i2 i3) (i + 1) = pz_c (qhw V i1 i2 i3) i + (if qhw V i1 i2 i3 i = true then 1 else 0) from rfl, if_neg hq, Nat.add_zero] at this
      exact this
    have ihy : ∀ Y, sc V Y → (¬ i2 < V 53 i ∧ V 50 i = i1 ∧ ¬ qlie i2 V i = 0 ∧ ¬ V 49 i = i3) → ab_J G (ac_ST L xs) l (d + 6) 253 9 [some (.ref 105), some (.int i1), some (.int i2), some (.int i3), some (.int (nI (pz_c (qhw V i1 i2 i3) i) + 1)), some (.int (fo (fun i a => if qhw V i1 i2 i3 i = true then a + V 52 i else a) i 0 + V 52 i)), some (.int (nI i + 1))] [] ac_SK Y ac_SK K := fun Y hY z => by
      have := ih Y hY
      have hq : qhw V i1 i2 i3 i = true := decide_eq_true z
      rw [fo_s, if_pos hq, show pz_c (qhw V i1 i2 i3) (i + 1) = pz_c (qhw V i1 i2 i3) i + (if qhw V i1 i2 i3 i = true then 1 else 0) from rfl, if_pos hq, nI_succ, nI_succ] at this
      exact this
    rw [e, e133, e137, e135, e134, e124, e111, e108, e125, e126]
    refine ⟨vi, fun c1 => ⟨vi, fun c2 => ihn _ h2 (fun z => z.1 c2), fun c2 => ⟨vi, fun c3 => ihn _ h2 (fun z => z.2.2.2 c3), fun c3 => ⟨vi, vi, vpz (q9 _) (by decide) (by decide), vpz (a6 _) (by decide) (by decide), vpz (s4 _) (by decide) (by decide), vpz (q9 _) (by decide) (by decide), vpz (q9 _) (by decide) (by decide), ?_⟩⟩⟩, fun c1 => ihn _ h2 (fun z => c1 z.2.1)⟩
    refine sp_244 hI h2 (q8 _) (s1 _) (a8 _) (fun Y hY => ?_)
    dsimp only [aa_rI]
    refine ⟨q87b, fun c4 => ihn _ hY (fun z => z.2.2.1 c4), fun c4 => ⟨vi, ?_⟩⟩
    rw [(hY 136 rfl).trans p16]
    exact ihy _ hY ⟨c2, c1, c4, c3⟩
