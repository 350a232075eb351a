/-! earns, pattern, left, form, sends, taken, sworn -/
set_option maxRecDepth 20000 in
theorem cs_153 {G : ab_G} {L : Nat} {xs : Nat → Int32} {l : Launch} {d : Nat} {i1 : Int32} {V : aa_V} {Q : Int32 → Int32 → aa_V → Prop} (hI : nv V) (hQ : ∀ x W, nv W → Q x x W) :
    ab_E G (ac_ST L xs) l (d + 3) ac_SK 153 [.ref 0, .int i1] V (aa_rI fun x V1 => ab_E G (ac_ST L xs) l (d + 4) ac_SK 234 [.ref 105, .int i1] V1 (aa_rI fun y W => Q x y W)) := by
  have hn := hI.1
  have hw := hI.2.2.1
  have w3 := hw.1.2.2.1
  have w4 := hw.1.2.2.2
  refine sp_153 w4 ?_
  dsimp only [aa_rI]
  refine sp_234 (by rw [w3]; exact w4) (fun i _ z hz => qv_bit hn hw _ z hz) ?_
  dsimp only [aa_rI]
  have e1 : va_234 i1 V = va_153 i1 V := by
    unfold va_234 va_153
    rw [qv_129 hn hw, qv_130 hn hw]
    by_cases c0 : i1 = 0
    · rw [if_pos c0, if_neg (by rw [c0]; decide), if_neg (by rw [c0]; decide), if_pos c0]
    · by_cases c1 : i1 = 1
      · rw [if_neg c0, if_pos c1, if_neg (by rw [c1]; decide), if_neg (by rw [c1]; decide), if_neg c0]
      · rw [if_neg c0, if_neg c1]
        by_cases c2 : i1 < 0
        · rw [if_pos c2]
        · rw [if_neg c2, if_pos]
          simp only [zz_lt, zz_eq, zl_0, zl_1] at c0 c1 c2 ⊢
          omega
  rw [e1]
  exact hQ _ _ hI
set_option maxRecDepth 20000 in
theorem cs_154 {G : ab_G} {L : Nat} {xs : Nat → Int32} {l : Launch} {d : Nat} {V : aa_V} {Q : Int32 → Int32 → aa_V → Prop} (hI : nv V) (hQ : ∀ x W, nv W → Q x x W) :
    ab_E G (ac_ST L xs) l (d + 4) ac_SK 154 [.ref 0] V (aa_rI fun x V1 => ab_E G (ac_ST L xs) l (d + 4) ac_SK 237 [.ref 105] V1 (aa_rI fun y W => Q x y W)) := by
  have hn := hI.1
  have hw := hI.2.2.1
  have w3 := hw.1.2.2.1
  have w4 := hw.1.2.2.2
  have w8 := hw.2.1.2.2.2.1
  have s4 := hw.2.2.2.2.2.1
  refine sp_154 w4 (zb_le w4 (by decide)) ?_ ?_ ?_ ?_ ?_ ?_ ?_ ?_
  · intros; exact vp_in_nI (Nat.lt_of_lt_of_le (by assumption) w4.2) (by decide)
  · intros; exact vp_in_nI (Nat.lt_of_lt_of_le (by assumption) w4.2) (by decide)
  · intros; exact vp_in_nI (Nat.lt_of_lt_of_le (by assumption) w4.2) (by decide)
  · intros; exact vp_in_nI (Nat.lt_of_lt_of_le (by assumption) w4.2) (by decide)
  · intros; exact vpz (s4 _) (by decide) (by decide)
  · intros; exact vp_in_nI (Nat.lt_of_lt_of_le (by assumption) w4.2) (by decide)
  · intros; exact vpz (s4 _) (by decide) (by decide)
  dsimp only [aa_rI]
  refine sp_237 (by rw [w3]; exact w4) (fun i _ z hz => qv_bit hn hw _ z hz) (by rw [w3]; exact zb_le w4 (by decide)) ?_ ?_ ?_ ?_ ?_ ?_ ?_ ?_
  · intros; exact vp_in_nI (Nat.lt_of_lt_of_le (by assumption) (by rw [w3]; exact w4.2)) (by decide)
  · intros; exact vp_in_nI (Nat.lt_of_lt_of_le (by assumption) (by rw [w3]; exact w4.2)) (by decide)
  · intros; exact vp_in_nI (Nat.lt_of_lt_of_le (by assumption) (by rw [w3]; exact w4.2)) (by decide)
  · intros; exact vp_in_nI (Nat.lt_of_lt_of_le (by assumption) (by rw [w3]; exact w4.2)) (by decide)
  · intros; rw [w8]; exact vpz (s4 _) (by decide) (by decide)
  · intros; exact vp_in_nI (Nat.lt_of_lt_of_le (by assumption) (by rw [w3]; exact w4.2)) (by decide)
  · intros; rw [w8]; exact vpz (s4 _) (by decide) (by decide)
  dsimp only [aa_rI]
  rw [qv_237 hn hw]
  exact hQ _ _ hI
set_option maxRecDepth 20000 in
theorem cs_155 {G : ab_G} {L : Nat} {xs : Nat → Int32} {l : Launch} {d : Nat} {i1 : Int32} {V : aa_V} {Q : Int32 → Int32 → aa_V → Prop} (hI : nv V) (hQ : ∀ x W, nv W → Q x x W) :
    ab_E G (ac_ST L xs) l (d + 4) ac_SK 155 [.ref 0, .int i1] V (aa_rI fun x V1 => ab_E G (ac_ST L xs) l (d + 4) ac_SK 238 [.ref 105, .int i1] V1 (aa_rI fun y W => Q x y W)) := by
  have hn := hI.1
  have hw := hI.2.2.1
  have w3 := hw.1.2.2.1
  have w4 := hw.1.2.2.2
  have w8 := hw.2.1.2.2.2.1
  have s4 := hw.2.2.2.2.2.1
  refine sp_155 w4 (zb_le w4 (by decide)) ?_ ?_ ?_ ?_ ?_ ?_ ?_ ?_
  · intros; exact vp_in_nI (Nat.lt_of_lt_of_le (by assumption) w4.2) (by decide)
  · intros; exact vp_in_nI (Nat.lt_of_lt_of_le (by assumption) w4.2) (by decide)
  · intros; exact vp_in_nI (Nat.lt_of_lt_of_le (by assumption) w4.2) (by decide)
  · intros; exact vp_in_nI (Nat.lt_of_lt_of_le (by assumption) w4.2) (by decide)
  · intros; exact vpz (s4 _) (by decide) (by decide)
  · intros; exact vp_in_nI (Nat.lt_of_lt_of_le (by assumption) w4.2) (by decide)
  · intros; exact vpz (s4 _) (by decide) (by decide)
  dsimp only [aa_rI]
  refine sp_238 (by rw [w3]; exact w4) (fun i _ z hz => qv_bit hn hw _ z hz) (by rw [w3]; exact zb_le w4 (by decide)) ?_ ?_ ?_ ?_ ?_ ?_ ?_ ?_
  · intros; exact vp_in_nI (Nat.lt_of_lt_of_le (by assumption) (by rw [w3]; exact w4.2)) (by decide)
  · intros; exact vp_in_nI (Nat.lt_of_lt_of_le (by assumption) (by rw [w3]; exact w4.2)) (by decide)
  · intros; exact vp_in_nI (Nat.lt_of_lt_of_le (by assumption) (by rw [w3]; exact w4.2)) (by decide)
  · intros; exact vp_in_nI (Nat.lt_of_lt_of_le (by assumption) (by rw [w3]; exact w4.2)) (by decide)
  · intros; rw [w8]; exact vpz (s4 _) (by decide) (by decide)
  · intros; exact vp_in_nI (Nat.lt_of_lt_of_le (by assumption) (by rw [w3]; exact w4.2)) (by decide)
  · intros; rw [w8]; exact vpz (s4 _) (by decide) (by decide)
  dsimp only [aa_rI]
  rw [qv_238 hn hw]
  exact hQ _ _ hI
-- earns
def qv_mk (n q : Int32) : Int32 := if n = 1 then q + 3 else if n = 2 then q - 1 else if n = 3 then (q + 3) * 2 else if n = 4 then (q - 1) / 2 else if n = 5 then q * 4 else q
def qv_rk (n r w : Int32) : Int32 := if n = 2 then r / 2 else if n = 3 then r + 2 else if n = 4 then r / 2 else if n = 5 then r + w else r
theorem qv_mk_r {n q : Int32} (hn : zb n 5) (hq : zb q 6) : -1 ≤ (qv_mk n q).toInt ∧ (qv_mk n q).toInt ≤ 24 := by
  obtain ⟨a, rfl, ha⟩ := zb_i hn
  obtain ⟨b, rfl, hb⟩ := zb_i hq
  exact (show ∀ a, a < 6 → ∀ b, b < 7 → -1 ≤ (qv_mk (nI a) (nI b)).toInt ∧ (qv_mk (nI a) (nI b)).toInt ≤ 24 by decide +kernel) a (by omega) b (by omega)
theorem qv_d10 {w : Int32} (h : zb w 60) : zb (w / 10) 6 := by
  obtain ⟨a, rfl, ha⟩ := zb_i h
  rw [(show ∀ a, a < 61 → nI a / 10 = nI (a / 10) by decide +kernel) a (by omega)]
  exact zb_n (by omega) (by decide)
theorem qv_rk_r {n r w : Int32} (hr : zb r 99) (hw : zb w 60) : 0 ≤ (qv_rk n r w).toInt ∧ (qv_rk n r w).toInt ≤ 159 := by
  obtain ⟨a, rfl, ha⟩ := zb_i hr
  obtain ⟨b, rfl, hb⟩ := zb_i hw
  have h2 : nI a / 2 = nI (a / 2) := (show ∀ a, a < 100 → nI a / 2 = nI (a / 2) by decide +kernel) a (by omega)
  have h3 : nI a + 2 = nI (a + 2) := by rw [← nI_plus]; rfl
  unfold qv_rk
  rw [h2, h3, nI_plus]
  repeat' split
  all_goals (rw [nI_toInt (by omega)]; omega)
theorem toL_add {x e : Int32} (hx : -1000000 ≤ x.toInt ∧ x.toInt ≤ 1000000) (he : -1000000 ≤ e.toInt ∧ e.toInt ≤ 1000000) : (x + e).toInt = x.toInt + e.toInt ∧ (x + e).toInt64 = x.toInt64 + e.toInt64 := by
  have h1 : (x + e).toInt = x.toInt + e.toInt := by
    rw [Int32.toInt_add]
    apply Int.bmod_eq_of_le <;> omega
  refine ⟨h1, ?_⟩
  apply Int64.toInt_inj.mp
  rw [Int32.toInt_toInt64, Int64.toInt_add, Int32.toInt_toInt64, Int32.toInt_toInt64, h1]
  symm
  apply Int.bmod_eq_of_le <;> omega
section
variable {V : aa_V}
/-- what a frame earned -/
def qv_er (V : aa_V) (k : Nat) : Int32 := if V 36 k = 0 then ((va_126 (nI k) V) * (V 31 (((V 33 k)).toNatClampNeg))) - (va_125 (nI k) V) else (0 : Int32) - (va_125 (nI k) V)
theorem qv_er_r (hw : nv_w V) {k : Nat} (hk : k < 20) : -10000 ≤ (qv_er V k).toInt ∧ (qv_er V k).toInt ≤ 10000 := by
  obtain ⟨⟨w1, w2, w3, w4⟩, ⟨w5, w6, w7, w8, w9, w10, w11, w12⟩, s1, s2, s3, s4, s5, s6, s7, s8⟩ := hw
  have e : (nI k).toNatClampNeg = k := zz_ix (by omega)
  have hm : -1 ≤ (va_126 (nI k) V).toInt ∧ (va_126 (nI k) V).toInt ≤ 24 := by
    have := qv_mk_r (s3 k) (qv_d10 (s5 k))
    unfold va_126
    rw [e]
    exact this
  have hr : 0 ≤ (va_125 (nI k) V).toInt ∧ (va_125 (nI k) V).toInt ≤ 159 := by
    have := qv_rk_r (n := V 32 k) (s6 k) (s5 k)
    unfold va_125
    rw [e]
    exact this
  have hp := zb_r (s2 (V 33 k).toNatClampNeg) (by decide)
  unfold qv_er
  generalize va_126 (nI k) V = m at *
  generalize va_125 (nI k) V = r at *
  generalize V 31 (V 33 k).toNatClampNeg = p at *
  have hb1 : m.toInt * p.toInt ≤ 24 * 99 := by
    have h1 : m.toInt * p.toInt ≤ 24 * p.toInt := Int.mul_le_mul_of_nonneg_right hm.2 hp.1
    omega
  have hb2 : -99 ≤ m.toInt * p.toInt := by
    have h1 : -1 * p.toInt ≤ m.toInt * p.toInt := Int.mul_le_mul_of_nonneg_right hm.1 hp.1
    omega
  have h1 : (m * p).toInt = m.toInt * p.toInt := by
    rw [Int32.toInt_mul]
    apply Int.bmod_eq_of_le <;> omega
  split
  · rw [Int32.toInt_sub, h1, Int.bmod_eq_of_le] <;> omega
  · rw [Int32.toInt_sub, zl_0, Int.bmod_eq_of_le] <;> omega
theorem qv_210 (hw : nv_w V) (s : Int32) : vl_210_17 s V 0 = (va_128 s V).toInt64 := by
  have hw' := hw
  obtain ⟨⟨w1, w2, w3, w4⟩, ⟨w5, w6, w7, w8, w9, w10, w11, w12⟩, _⟩ := hw'
  have hb : (V 29 3).toNatClampNeg ≤ 20 := w4.2
  unfold vl_210_17 va_128 vl_128_4
  rw [w3, w6, w8, w11]
  dsimp only
  have key := fo_r (f := fun (k : Nat) (a : Int32) => if V 33 k = s then a + qv_er V k else a) (g := fun (k : Nat) (a : Int64) => if V 33 k = s then a + (qv_er V k).toInt64 else a) (R := fun k x y => k ≤ 20 → (y = x.toInt64 ∧ -10000 * (k : Int) ≤ x.toInt ∧ x.toInt ≤ 10000 * (k : Int))) (n := (V 29 3).toNatClampNeg) (a := 0) (a' := 0) (fun _ => ⟨rfl, by decide, by decide⟩) (fun k hk x y ih hk2 => by
    obtain ⟨h1, h2, h3⟩ := ih (by omega)
    have hr := qv_er_r hw (k := k) (by omega)
    by_cases c : V 33 k = s
    · rw [if_pos c, if_pos c]
      have := toL_add (x := x) (e := qv_er V k) (by omega) (by omega)
      rw [this.1, this.2, h1]
      refine ⟨rfl, by omega, by omega⟩
    · rw [if_neg c, if_neg c]
      exact ⟨h1, by omega, by omega⟩) hb
  have k1 : fo (fun (i_128 : Nat) (a_128 : Int32) => ((if (V 33 i_128) = s then (if (V 36 i_128) = 0 then (a_128 + (((va_126 (nI i_128) V) * (V 31 (((V 33 i_128)).toNatClampNeg))) - (va_125 (nI i_128) V))) else (a_128 + ((0 : Int32) - (va_125 (nI i_128) V)))) else a_128) : Int32)) ((V 29 3)).toNatClampNeg 0 = fo (fun (k : Nat) (a : Int32) => if V 33 k = s then a + qv_er V k else a) ((V 29 3)).toNatClampNeg 0 := by
    refine fo_c (fun k hk a => ?_)
    unfold qv_er
    by_cases c : V 36 k = 0
    · simp only [if_pos c]
    · simp only [if_neg c]
  have k2 : fo (fun (i_210 : Nat) (a_210 : Int64) => ((if (V 33 i_210) = s then (if (V 36 i_210) = 0 then (a_210 + ((((va_204 (nI i_210) V) * (V 31 (((V 33 i_210)).toNatClampNeg))) - (va_205 (nI i_210) V)).toInt64)) else (a_210 + (((0 : Int32) - (va_205 (nI i_210) V)).toInt64))) else (a_210 + (0 : Int64))) : Int64)) ((V 29 3)).toNatClampNeg 0 = fo (fun (k : Nat) (a : Int64) => if V 33 k = s then a + (qv_er V k).toInt64 else a) ((V 29 3)).toNatClampNeg 0 := by
    refine fo_c (fun k hk a => ?_)
    rw [qv_126 hw, qv_125 hw]
    unfold qv_er
    by_cases c : V 36 k = 0
    · simp only [if_pos c, Int64.add_zero]
    · simp only [if_neg c, Int64.add_zero]
  rw [k1, k2]
  exact key.1
end
set_option maxRecDepth 20000 in
theorem cs_147 {G : ab_G} {L : Nat} {xs : Nat → Int32} {l : Launch} {d : Nat} {i1 : Int32} {V : aa_V} {Q : Int64 → Int64 → aa_V → Prop} (hI : nv V) (hQ : ∀ x W, nv W → Q x x W) :
    ab_E G (ac_ST L xs) l (d + 4) ac_SK 147 [.ref 0, .int i1] V (aa_rL fun x V1 => ab_E G (ac_ST L xs) l (d + 3) ac_SK 210 [.ref 105, .int i1] V1 (aa_rL fun y W => Q x y W)) := by
  have hw := hI.2.2.1
  have w1 := hw.1.1
  have w2 := hw.1.2.1
  have w3 := hw.1.2.2.1
  have w4 := hw.1.2.2.2
  have w8 := hw.2.1.2.2.2.1
  have s4 := hw.2.2.2.2.2.1
  have r2 := zb_r w2 (by decide)
  have t2 := zb_sub1 w2 (by decide)
  refine sp_147 w4 (fun _ _ => vpz (s4 _) (by decide) (by decide)) ?_
  dsimp only [aa_rL]
  refine sp_210 (by rw [w3]; exact w4) (fun _ _ => by rw [w8]; exact vpz (s4 _) (by decide) (by decide)) ?_
  dsimp only [aa_rL]
  have e1 : va_210 i1 V = va_147 i1 V := by
    unfold va_210 va_147
    rw [w1, qv_210 hw]
    by_cases c0 : i1 < 0
    · rw [if_pos c0, if_pos c0]
    · rw [if_neg c0, if_neg c0]
      by_cases c1 : i1 < V 29 0
      · rw [if_pos c1, if_neg]
        simp only [zz_lt, t2] at c1 ⊢
        omega
      · rw [if_neg c1, if_pos]
        simp only [zz_lt, t2] at c1 ⊢
        omega
  rw [e1]
  exact hQ _ _ hI
