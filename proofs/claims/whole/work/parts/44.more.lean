/-! sends, taken, sworn, cell -/
section
variable {V : aa_V}
theorem qv_136 (hw : nv_w V) (f : Int32) (s : Nat) : fo (fun (i : Nat) (a : Int32) => if V 111 i = nI s then (if V 114 i = 0 then (if va_235 f (nI i) V = 0 then a + 0 else a + 1) else a + 0) else a + 0) (V 105 12).toNatClampNeg 0 = va_136 f (nI s) V := by
  obtain ⟨⟨w1, w2, w3, w4⟩, ⟨w5, w6, w7, w8, w9, w10, w11, w12⟩, _⟩ := id hw
  unfold va_136 vl_136_5
  rw [w3, w8, w11]
  dsimp only
  refine fo_c (fun k hk a => ?_)
  rw [qv_132 hw]
  by_cases c1 : V 33 k = nI s
  · rw [if_pos c1, if_pos c1]
    by_cases c2 : V 36 k = 0
    · rw [if_pos c2, if_pos c2]
      by_cases c3 : va_132 f (nI k) V = 0
      · rw [if_pos c3, if_pos c3, Int32.add_zero]
      · rw [if_neg c3, if_neg c3]
    · rw [if_neg c2, if_neg c2, Int32.add_zero]
  · rw [if_neg c1, if_neg c1, Int32.add_zero]
theorem qv_136_r (hw : nv_w V) (f s : Int32) : zb (va_136 f s V) 20 := by
  have hb : (V 29 3).toNatClampNeg ≤ 20 := hw.1.2.2.2.2
  unfold va_136 vl_136_5
  dsimp only
  have key := fo_r (f := fun (i : Nat) (a : Int32) => if V 33 i = s then (if V 36 i = 0 then (if va_132 f (nI i) V = 0 then a else a + 1) else a) else a) (g := fun (_ : Nat) (u : Unit) => u) (R := fun k x _ => ∃ m : Nat, x = nI m ∧ m ≤ k) (n := (V 29 3).toNatClampNeg) (a := 0) (a' := ()) ⟨0, rfl, Nat.le_refl _⟩ (fun k hk x _ ⟨m, hm, hmk⟩ => by
    repeat' split
    all_goals first | exact ⟨m, hm, by omega⟩ | exact ⟨m + 1, by rw [hm, nI_succ], by omega⟩)
  obtain ⟨m, hm, hmk⟩ := key
  rw [hm]
  exact zb_n (by omega) (by decide)
end
set_option maxRecDepth 20000 in
theorem cs_156 {G : ab_G} {L : Nat} {xs : Nat → Int32} {l : Launch} {d : Nat} {i1 : Int32} {V : aa_V} {Q : Int32 → Int32 → aa_V → Prop} (hI : nv V) (hQ : ∀ x W, nv W → Q x x W) :
    ab_E G (ac_ST L xs) l (d + 5) ac_SK 156 [.ref 0, .int i1] V (aa_rI fun x V1 => ab_E G (ac_ST L xs) l (d + 3) ac_SK 239 [.ref 105, .int i1] V1 (aa_rI fun y W => Q x y W)) := by
  have hn := hI.1
  have hw := hI.2.2.1
  obtain ⟨⟨w1, w2, w3, w4⟩, ⟨w5, w6, w7, w8, w9, w10, w11, w12⟩, s1, s2, s3, s4, s5, s6, s7, s8⟩ := id hw
  refine sp_156 w4 (zb_le w2 (by decide)) ?_ ?_ ?_ ?_ ?_ ?_ ?_ ?_
  · intros; exact vp_in_nI (Nat.lt_of_lt_of_le (by assumption) w4.2) (by decide)
  · intros; exact vp_in_nI (Nat.lt_of_lt_of_le (by assumption) w4.2) (by decide)
  · intros; exact vp_in_nI (Nat.lt_of_lt_of_le (by assumption) w4.2) (by decide)
  · intros; exact vp_in_nI (Nat.lt_of_lt_of_le (by assumption) w4.2) (by decide)
  · intros; exact vpz (s4 _) (by decide) (by decide)
  · intros; exact vp_in_nI (Nat.lt_of_lt_of_le (by assumption) w4.2) (by decide)
  · intros; exact vpz (s4 _) (by decide) (by decide)
  dsimp only [aa_rI]
  refine iv_239_0 ⟨fun c => ?_, fun c => ⟨fun c2 => ?_, fun c2 => ?_⟩⟩
  · show Q _ _ V
    unfold va_156
    rw [if_pos c]
    exact hQ _ _ hI
  · show Q _ _ V
    unfold va_156
    rw [if_neg c, if_pos c2]
    exact hQ _ _ hI
  · unfold va_156
    rw [if_neg c, if_neg c2]
    obtain ⟨n, hnn, hm⟩ := zb_i w2
    have hN : (V 29 0).toNatClampNeg = n := by rw [hnn]; exact zz_ix (by omega)
    have hn1 : V 105 11 = nI n := by rw [w1, hnn]
    obtain ⟨f, hff, hfm⟩ := zb_i w4
    have hF : (V 29 3).toNatClampNeg = f := by rw [hff]; exact zz_ix (by omega)
    have hf1 : V 105 12 = nI f := by rw [w3, hff]
    have hF1 : (V 105 12).toNatClampNeg = f := by rw [hf1]; exact zz_ix (by omega)
    -- the step of the reference
    have main : ∀ K : aa_K, K (some (.int (fo (fun (i : Nat) (a : Int32 × Int32) => if va_231 (nI i) V = 0 then (if a.2 < va_136 i1 (nI i) V then (nI i, va_136 i1 (nI i) V) else a) else a) n ((-1 : Int32), (0 : Int32))).1)) V → ab_J G (ac_ST L xs) l (d + 3) 239 22 [some (.ref 105), some (.int i1), some (.int (-1)), some (.int (0 : Int32)), some (.int (nI 0)), none, none] [] ac_SK V ac_SK K := by
      intro K hK
      refine zz_fo (fun (i : Nat) (a : Int32 × Int32) => if va_231 (nI i) V = 0 then (if a.2 < va_136 i1 (nI i) V then (nI i, va_136 i1 (nI i) V) else a) else a) (fun i a => ab_J G (ac_ST L xs) l (d + 3) 239 22 [some (.ref 105), some (.int i1), some (.int a.1), some (.int a.2), some (.int (nI i)), none, none] [] ac_SK V ac_SK K) n ((-1 : Int32), (0 : Int32)) ?_ ?_
      · exact iv_239_22 ⟨fun q => absurd q (zz_ge hn1), fun _ => hK⟩
      · intro i hi ih
        rw [fo_s, nI_succ] at ih
        generalize fo (fun (i : Nat) (a : Int32 × Int32) => if va_231 (nI i) V = 0 then (if a.2 < va_136 i1 (nI i) V then (nI i, va_136 i1 (nI i) V) else a) else a) i ((-1 : Int32), (0 : Int32)) = a at ih ⊢
        refine iv_239_22 ⟨fun _ => ?_, fun q => absurd (zz_gl hn1 hi (by omega)) q⟩
        refine zz_fo (fun (i_1 : Nat) (c : Int32) => if V 111 i_1 = nI i then (if V 114 i_1 = 0 then (if va_235 i1 (nI i_1) V = 0 then c + 0 else c + 1) else c + 0) else c + 0) (fun j c => ab_J G (ac_ST L xs) l (d + 3) 239 37 [some (.ref 105), some (.int i1), some (.int a.1), some (.int a.2), some (.int (nI i)), some (.int c), some (.int (nI j))] [] ac_SK V ac_SK K) f 0 ?_ ?_
        · have e136 := qv_136 hw i1 i
          rw [hF1] at e136
          rw [e136]
          refine iv_239_37 ⟨fun q => absurd q (zz_ge hf1), fun _ => ?_⟩
          refine sp_231 (by rw [w3]; exact w4) (fun z hz => qv_bit hn hw _ z hz) (fun _ => ?_)
          dsimp only [aa_rI]
          refine ⟨fun c1 => ⟨fun c2 => ?_, fun c2 => ?_⟩, fun c1 => ?_⟩
          · rw [if_pos c1, if_pos c2] at ih
            exact ih
          · rw [if_pos c1, if_neg c2] at ih
            exact ih
          · rw [if_neg c1] at ih
            exact ih
        · intro j hj ih2
          rw [fo_s, nI_succ] at ih2
          generalize fo (fun (i_1 : Nat) (c : Int32) => if V 111 i_1 = nI i then (if V 114 i_1 = 0 then (if va_235 i1 (nI i_1) V = 0 then c + 0 else c + 1) else c + 0) else c + 0) j 0 = b at ih2 ⊢
          refine iv_239_37 ⟨fun _ => ?_, fun q => absurd (zz_gl hf1 hj (by omega)) q⟩
          have e : (nI j).toNatClampNeg = j := zz_ix (by omega)
          simp only [e]
          refine ⟨vp_in_nI (by omega) (by decide), fun c1 => ⟨vp_in_nI (by omega) (by decide), fun c2 => ?_, fun c2 => ?_⟩, fun c1 => ?_⟩
          · refine sp_235 ?_ ?_ ?_ ?_ ?_ ?_ ?_ ?_
            · intros; exact vp_in_nI (by omega) (by decide)
            · intros; exact vp_in_nI (by omega) (by decide)
            · intros; exact vp_in_nI (by omega) (by decide)
            · intros; exact vp_in_nI (by omega) (by decide)
            · intros; rw [w8]; exact vpz (s4 _) (by decide) (by decide)
            · intros; exact vp_in_nI (by omega) (by decide)
            · intros; rw [w8]; exact vpz (s4 _) (by decide) (by decide)
            · intro hb
              dsimp only [aa_rI]
              refine ⟨fun c3 => ?_, fun c3 => ?_⟩
              · rw [if_pos c1, if_pos c2, if_pos c3] at ih2
                exact ih2
              · rw [if_pos c1, if_pos c2, if_neg c3] at ih2
                exact ih2
          · rw [if_pos c1, if_neg c2] at ih2
            exact ih2
          · rw [if_neg c1] at ih2
            exact ih2
    refine main _ ?_
    show Q _ _ V
    have e1 : (fo (fun (i : Nat) (a : Int32 × Int32) => if va_231 (nI i) V = 0 then (if a.2 < va_136 i1 (nI i) V then (nI i, va_136 i1 (nI i) V) else a) else a) n ((-1 : Int32), (0 : Int32))).1 = va_135 i1 (va_129 (V 0 13) V) V := by
      unfold va_135 vl_135_15
      rw [hN]
      dsimp only
      have key := fo_r (f := fun (i : Nat) (a : Int32 × Int32) => if va_231 (nI i) V = 0 then (if a.2 < va_136 i1 (nI i) V then (nI i, va_136 i1 (nI i) V) else a) else a) (g := (fun (i_135 : Nat) (a_135 : Int32 × Int32) => ((if (((va_131 (va_129 (V 0 13) V) V) >>> ((nI i_135) &&& 31)) &&& (1 : Int32)) = (1 : Int32) then (if a_135.2 < (0 : Int32) then ((nI i_135), (0 : Int32)) else (a_135.1, a_135.2)) else (if a_135.2 < (va_136 i1 (nI i_135) V) then ((nI i_135), (va_136 i1 (nI i_135) V)) else (a_135.1, a_135.2))) : Int32 × Int32))) (R := fun _ x y => x = y ∧ ¬ x.2 < 0) (n := n) (a := ((-1 : Int32), (0 : Int32))) (a' := ((-1 : Int32), (0 : Int32))) ⟨rfl, by decide⟩ (fun k hk x y ⟨h1, h2⟩ => by
        subst h1
        have h3 : ¬ va_136 i1 (nI k) V < 0 := by
          have := zb_r (qv_136_r hw i1 (nI k)) (by decide)
          rw [zz_lt, zl_0]
          omega
        have h4 := qv_hit hn hw (s := k) (by omega)
        rcases qv_231 hn hw (nI k) with ⟨q1, _⟩ | ⟨q1, _⟩
        · rw [if_neg (by rw [q1]; decide), if_pos (h4.mpr q1), if_neg h2]
          exact ⟨rfl, h2⟩
        · rw [if_pos q1, if_neg (fun z => absurd (h4.mp z) (by rw [q1]; decide))]
          by_cases c3 : x.2 < va_136 i1 (nI k) V
          · rw [if_pos c3]
            exact ⟨rfl, h3⟩
          · rw [if_neg c3]
            exact ⟨rfl, h2⟩)
      rw [key.1]
    rw [e1]
    exact hQ _ _ hI
-- taken
def qv_tk (i2 a0 : Int32) : Int32 := (match fe (fun (_ : Nat) (a_124 : Int32) => ((if a_124 = (-1 : Int32) then .inr (0 : Int32) else (if a_124 = i2 then .inr (1 : Int32) else .inl (ac_zr0 (a_124).toNatClampNeg))) : Int32 ⊕ Int32)) 6 a0 with
  | .inl _ => (0 : Int32)
  | .inr b => b)
theorem qv_tkb {i2 a0 : Int32} (h2 : zb i2 5) (h0 : zb a0 5) : aa_bit (qv_tk i2 a0) := by
  obtain ⟨a, rfl, ha⟩ := zb_i h2
  obtain ⟨b, rfl, hb⟩ := zb_i h0
  have := (show ∀ a, a < 6 → ∀ b, b < 6 → qv_tk (nI a) (nI b) = 0 ∨ qv_tk (nI a) (nI b) = 1 by decide +kernel) a (by omega) b (by omega)
  exact this
theorem qv_under {i2 a0 : Int32} (h0 : zb a0 5) : ∀ (i : Nat) {a : Int32}, i < 6 → fe (fun (_ : Nat) (a_124 : Int32) => ((if a_124 = (-1 : Int32) then .inr (0 : Int32) else (if a_124 = i2 then .inr (1 : Int32) else .inl (ac_zr0 (a_124).toNatClampNeg))) : Int32 ⊕ Int32)) i a0 = .inl a → a = -1 ∨ zb a 5
  | 0, a, _, h => by
    have : a0 = a := by injection h
    rw [← this]
    exact Or.inr h0
  | i + 1, a, hi, h => by
    rw [fe_s] at h
    cases e : fe (fun (_ : Nat) (a_124 : Int32) => ((if a_124 = (-1 : Int32) then .inr (0 : Int32) else (if a_124 = i2 then .inr (1 : Int32) else .inl (ac_zr0 (a_124).toNatClampNeg))) : Int32 ⊕ Int32)) i a0 with
    | inr b =>
      rw [e] at h
      cases h
    | inl x =>
      rw [e] at h
      have ih := qv_under h0 i (by omega) e
      dsimp only at h
      by_cases c1 : x = -1
      · rw [if_pos c1] at h
        cases h
      · rw [if_neg c1] at h
        by_cases c2 : x = i2
        · rw [if_pos c2] at h
          cases h
        · rw [if_neg c2] at h
          have h3 : ac_zr0 x.toNatClampNeg = a := by injection h
          rcases ih with q | q
          · exact absurd q c1
          · obtain ⟨n, rfl, hn⟩ := zb_i q
            rw [zz_ix (by omega)] at h3
            rw [← h3]
            exact (show ∀ n, n < 6 → (ac_zr0 n = -1 ∨ zb (ac_zr0 n) 5) by
              intro n hn
              have : n = 0 ∨ n = 1 ∨ n = 2 ∨ n = 3 ∨ n = 4 ∨ n = 5 := by omega
              rcases this with rfl | rfl | rfl | rfl | rfl | rfl
              · exact Or.inl rfl
              · exact Or.inr ⟨rfl, by decide⟩
              · exact Or.inr ⟨rfl, by decide⟩
              · exact Or.inr ⟨rfl, by decide⟩
              · exact Or.inr ⟨rfl, by decide⟩
              · exact Or.inr ⟨rfl, by decide⟩) n (by omega)
set_option maxRecDepth 20000 in
theorem sp_284 {G : ab_G} {L : Nat} {xs : Nat → Int32} {l : Launch} {d : Nat} {i1 i2 : Int32} {V : aa_V} {K : aa_K} (hv : vp_in i1 20) (h2 : zb i2 5) {a0 : Int32} (h0 : zb a0 5) (h : K (some (.int (if qv_tk i2 a0 = 0 then (-13) else V 112 i1.toNatClampNeg))) V) :
    ab_J G (ac_ST L xs) l (d + 2) 284 33 [some (.ref 105), some (.int i1), some (.int i2), some (.int a0)] [] ac_SK V ac_SK K := by
  have hend : K (some (.int (-13))) V → ab_J G (ac_ST L xs) l (d + 2) 284 33 [some (.ref 105), some (.int i1), some (.int i2), some (.int (-1))] [] ac_SK V ac_SK K := by
    intro hK
    exact iv_284_33 ⟨fun _ => ⟨fun _ => hK, fun q => absurd (by decide) q⟩, fun q => absurd (by decide) q⟩
  have hhit : ∀ {x : Int32}, ¬ x < 0 → x = i2 → K (some (.int (V 112 i1.toNatClampNeg))) V → ab_J G (ac_ST L xs) l (d + 2) 284 33 [some (.ref 105), some (.int i1), some (.int i2), some (.int x)] [] ac_SK V ac_SK K := by
    intro x hx hx2 hK
    exact iv_284_33 ⟨fun q => absurd q hx, fun _ => ⟨fun _ => ⟨fun q => absurd q hx, fun _ => ⟨hv, hK⟩⟩, fun q => absurd hx2 q⟩⟩
  have hgo : ∀ {x y : Int32}, ¬ x < 0 → ¬ x = i2 → va_283 x V = y → ab_J G (ac_ST L xs) l (d + 2) 284 33 [some (.ref 105), some (.int i1), some (.int i2), some (.int y)] [] ac_SK V ac_SK K → ab_J G (ac_ST L xs) l (d + 2) 284 33 [some (.ref 105), some (.int i1), some (.int i2), some (.int x)] [] ac_SK V ac_SK K := by
    intro x y hx hx2 he hJ
    refine iv_284_33 ⟨fun q => absurd q hx, fun _ => ⟨fun q => absurd q hx2, fun _ => ?_⟩⟩
    refine sp_283 ?_
    dsimp only [aa_rI]
    rw [he]
    exact hJ
  obtain ⟨k, rfl, hk⟩ := zb_i h2
  obtain ⟨n, rfl, hn⟩ := zb_i h0
  have hkc : k = 0 ∨ k = 1 ∨ k = 2 ∨ k = 3 ∨ k = 4 ∨ k = 5 := by omega
  have hnc : n = 0 ∨ n = 1 ∨ n = 2 ∨ n = 3 ∨ n = 4 ∨ n = 5 := by omega
  have no : ∀ {a b : Nat}, a < 6 → b < 6 → a ≠ b → ¬ nI a = nI b := fun ha hb hab q => hab ((nI_k (by omega) (by omega)).mp q)
  have nn : ∀ {a : Nat}, a < 6 → ¬ nI a < 0 := fun ha q => by
    rw [zz_lt, nI_toInt (by omega), zl_0] at q
    omega
  have t0 : ∀ {a b : Nat}, qv_tk (nI a) (nI b) = 0 → K (some (.int (if qv_tk (nI a) (nI b) = 0 then (-13) else V 112 i1.toNatClampNeg))) V → K (some (.int (-13))) V := by
    intro a b q hK
    rw [if_pos q] at hK
    exact hK
  have t1 : ∀ {a b : Nat}, qv_tk (nI a) (nI b) = 1 → K (some (.int (if qv_tk (nI a) (nI b) = 0 then (-13) else V 112 i1.toNatClampNeg))) V → K (some (.int (V 112 i1.toNatClampNeg))) V := by
    intro a b q hK
    rw [if_neg (by rw [q]; decide)] at hK
    exact hK
  rcases hnc with rfl | rfl | rfl | rfl | rfl | rfl
  · by_cases e : k = 0
    · subst e
      exact hhit (nn (by omega)) rfl (t1 (by decide +kernel) h)
    · exact hgo (y := -1) (nn (by omega)) (no (by omega) (by omega) (by omega)) rfl (hend (t0 (by rcases hkc with rfl | rfl | rfl | rfl | rfl | rfl <;> first | decide +kernel | omega) h))
  · by_cases e : k = 1
    · subst e
      exact hhit (nn (by omega)) rfl (t1 (by decide +kernel) h)
    · by_cases e0 : k = 0
      · subst e0
        exact hgo (y := nI 0) (nn (by omega)) (no (by omega) (by omega) (by omega)) rfl (hhit (nn (by omega)) rfl (t1 (by decide +kernel) h))
      · exact hgo (y := nI 0) (nn (by omega)) (no (by omega) (by omega) (by omega)) rfl (hgo (y := -1) (nn (by omega)) (no (by omega) (by omega) (by omega)) rfl (hend (t0 (by rcases hkc with rfl | rfl | rfl | rfl | rfl | rfl <;> first | decide +kernel | omega) h)))
  · by_cases e : k = 2
    · subst e
      exact hhit (nn (by omega)) rfl (t1 (by decide +kernel) h)
    · by_cases e0 : k = 0
      · subst e0
        exact hgo (y := nI 0) (nn (by omega)) (no (by omega) (by omega) (by omega)) rfl (hhit (nn (by omega)) rfl (t1 (by decide +kernel) h))
      · exact hgo (y := nI 0) (nn (by omega)) (no (by omega) (by omega) (by omega)) rfl (hgo (y := -1) (nn (by omega)) (no (by omega) (by omega) (by omega)) rfl (hend (t0 (by rcases hkc with rfl | rfl | rfl | rfl | rfl | rfl <;> first | decide +kernel | omega) h)))
  · by_cases e : k = 3
    · subst e
      exact hhit (nn (by omega)) rfl (t1 (by decide +kernel) h)
    · by_cases e1 : k = 1
      · subst e1
        exact hgo (y := nI 1) (nn (by omega)) (no (by omega) (by omega) (by omega)) rfl (hhit (nn (by omega)) rfl (t1 (by decide +kernel) h))
      · by_cases e0 : k = 0
        · subst e0
          exact hgo (y := nI 1) (nn (by omega)) (no (by omega) (by omega) (by omega)) rfl (hgo (y := nI 0) (nn (by omega)) (no (by omega) (by omega) (by omega)) rfl (hhit (nn (by omega)) rfl (t1 (by decide +kernel) h)))
        · exact hgo (y := nI 1) (nn (by omega)) (no (by omega) (by omega) (by omega)) rfl (hgo (y := nI 0) (nn (by omega)) (no (by omega) (by omega) (by omega)) rfl (hgo (y := -1) (nn (by omega)) (no (by omega) (by omega) (by omega)) rfl (hend (t0 (by rcases hkc with rfl | rfl | rfl | rfl | rfl | rfl <;> first | decide +kernel | omega) h))))
  · by_cases e : k = 4
    · subst e
      exact hhit (nn (by omega)) rfl (t1 (by decide +kernel) h)
    · by_cases e1 : k = 2
      · subst e1
        exact hgo (y := nI 2) (nn (by omega)) (no (by omega) (by omega) (by omega)) rfl (hhit (nn (by omega)) rfl (t1 (by decide +kernel) h))
      · by_cases e0 : k = 0
        · subst e0
          exact hgo (y := nI 2) (nn (by omega)) (no (by omega) (by omega) (by omega)) rfl (hgo (y := nI 0) (nn (by omega)) (no (by omega) (by omega) (by omega)) rfl (hhit (nn (by omega)) rfl (t1 (by decide +kernel) h)))
        · exact hgo (y := nI 2) (nn (by omega)) (no (by omega) (by omega) (by omega)) rfl (hgo (y := nI 0) (nn (by omega)) (no (by omega) (by omega) (by omega)) rfl (hgo (y := -1) (nn (by omega)) (no (by omega) (by omega) (by omega)) rfl (hend (t0 (by rcases hkc with rfl | rfl | rfl | rfl | rfl | rfl <;> first | decide +kernel | omega) h))))
  · by_cases e : k = 5
    · subst e
      exact hhit (nn (by omega)) rfl (t1 (by decide +kernel) h)
    · by_cases e1 : k = 1
      · subst e1
        exact hgo (y := nI 1) (nn (by omega)) (no (by omega) (by omega) (by omega)) rfl (hhit (nn (by omega)) rfl (t1 (by decide +kernel) h))
      · by_cases e0 : k = 0
        · subst e0
          exact hgo (y := nI 1) (nn (by omega)) (no (by omega) (by omega) (by omega)) rfl (hgo (y := nI 0) (nn (by omega)) (no (by omega) (by omega) (by omega)) rfl (hhit (nn (by omega)) rfl (t1 (by decide +kernel) h)))
        · exact hgo (y := nI 1) (nn (by omega)) (no (by omega) (by omega) (by omega)) rfl (hgo (y := nI 0) (nn (by omega)) (no (by omega) (by omega) (by omega)) rfl (hgo (y := -1) (nn (by omega)) (no (by omega) (by omega) (by omega)) rfl (hend (t0 (by rcases hkc with rfl | rfl | rfl | rfl | rfl | rfl <;> first | decide +kernel | omega) h))))
set_option maxRecDepth 20000 in
theorem cs_181 {G : ab_G} {L : Nat} {xs : Nat → Int32} {l : Launch} {d : Nat} {i1 i2 : Int32} {V : aa_V} {Q : Int32 → Int32 → aa_V → Prop} (hI : nv V) (hQ : ∀ x W, nv W → Q x x W) :
    ab_E G (ac_ST L xs) l (d + 3) ac_SK 181 [.ref 0, .int i1, .int i2] V (aa_rI fun x V1 => ab_E G (ac_ST L xs) l (d + 2) ac_SK 284 [.ref 105, .int i1, .int i2] V1 (aa_rI fun y W => Q x y W)) := by
  have hw := hI.2.2.1
  obtain ⟨⟨w1, w2, w3, w4⟩, ⟨w5, w6, w7, w8, w9, w10, w11, w12⟩, s1, s2, s3, s4, s5, s6, s7, s8⟩ := id hw
  have r4 := zb_r w4 (by decide)
  have t4 := zb_sub1 w4 (by decide)
  have hv : ¬ i1 < 0 → ¬ V 29 3 - 1 < i1 → vp_in i1 20 := by
    intro q1 q2
    simp only [zz_lt, zl_0, t4] at q1 q2
    exact vp_of_r (by omega) (by omega)
  refine sp_181 (fun _ _ q1 q2 => hv q1 q2) (fun i a hi hfe g1 g2 => ?_) ?_
  · rcases qv_under (s3 _) i hi hfe with q | q
    · exact absurd q g1
    · exact (show vp_in a 6 from vpz q (by decide) (by decide))
  dsimp only [aa_rI]
  refine iv_284_0 ⟨fun c => ?_, fun c => ⟨fun c2 => ?_, fun c2 => ⟨fun c3 => ?_, fun c3 => ⟨fun c4 => ?_, fun c4 => ?_⟩⟩⟩⟩
  · show Q _ _ V
    unfold va_181
    rw [if_pos c]
    exact hQ _ _ hI
  · show Q _ _ V
    unfold va_181
    rw [if_neg c, if_pos c2]
    exact hQ _ _ hI
  · show Q _ _ V
    unfold va_181
    rw [if_neg c, if_neg c2, if_pos c3]
    exact hQ _ _ hI
  · have c5 : ¬ V 29 3 - 1 < i1 := by
      rw [w3] at c4
      simp only [zz_lt, t4] at c4 ⊢
      omega
    have h2 : zb i2 5 := by
      simp only [zz_lt, zl_0, zl_5] at c c2
      exact zb_of_r (by omega) (by omega) (by decide)
    refine ⟨hv c3 c5, ?_⟩
    rw [w7]
    refine sp_284 (hv c3 c5) h2 (s3 _) ?_
    show Q _ _ V
    unfold va_181 va_124
    rw [if_neg c, if_neg c2, if_neg c3, if_neg c5, show vl_124_10 i2 V (V 32 i1.toNatClampNeg) = qv_tk i2 (V 32 i1.toNatClampNeg) from rfl, w9]
    exact hQ _ _ hI
  · have c5 : V 29 3 - 1 < i1 := by
      rw [w3] at c4
      simp only [zz_lt, t4] at c4 ⊢
      omega
    show Q _ _ V
    unfold va_181
    rw [if_neg c, if_neg c2, if_neg c3, if_pos c5]
    exact hQ _ _ hI
