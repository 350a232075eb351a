/-! road, force, feed, meeting -/
def zs5 (j : Nat) : Bool := j == 22 || j == 23 || j == 24 || j == 26 || j == 27 || j == 28 || j == 61 || j == 62
/-- W is V but for the cells that hold nothing, and the fields of the reference that hold nothing -/
def sc5 (V W : aa_V) : Prop := (∀ c, zsc c = false → c ≠ 105 → W c = V c) ∧ ∀ j, zs5 j = false → W 105 j = V 105 j
theorem nv_5 {V W : aa_V} (hS : sc5 V W) (h : nv V) : nv W := by
  obtain ⟨hn, hr, hw, ha, hp, ho, hb, hk, hs, hf, ht⟩ := h
  obtain ⟨hC, hJ⟩ := hS
  have hc : ∀ c, zsc c = false ∧ c ≠ 105 → W c = V c := fun c q => hC c q.1 q.2
  have e0 := hc 0 ⟨rfl, by decide⟩
  refine ⟨?_, nv_rc (fun c h1 h2 => hc c ⟨zs_f (by omega), by omega⟩) (hc 106 ⟨rfl, by decide⟩) hr, ?_, ?_, ?_, ?_, ?_, nv_kc (fun c h1 h2 => hc c ⟨zs_f (by omega), by omega⟩) (hc 146 ⟨rfl, by decide⟩) (by rw [hc 64 ⟨rfl, by decide⟩]) (hJ 60 rfl) hk, nv_sc (fun c h1 h2 => hc c ⟨zs_f (by omega), by omega⟩) (hc 147 ⟨rfl, by decide⟩) (hc 148 ⟨rfl, by decide⟩) (hc 149 ⟨rfl, by decide⟩) (hc 73 ⟨rfl, by decide⟩) (hc 74 ⟨rfl, by decide⟩) hs, ?_, nv_tc (fun t ht => ⟨hc _ ⟨zs_f (by omega), by omega⟩, hc _ ⟨zs_f (by omega), by omega⟩⟩) (hc 117 ⟨rfl, by decide⟩) (hc 118 ⟨rfl, by decide⟩) (hc 119 ⟨rfl, by decide⟩) (hc 120 ⟨rfl, by decide⟩) (hJ 20 rfl) (hJ 21 rfl) (hJ 25 rfl) (by rw [e0]) (by rw [e0]) ht⟩
  · unfold nv_n
    rw [e0, hJ 2 rfl]
    exact hn
  · unfold nv_w
    rw [hJ 11 rfl, hJ 12 rfl, hc 29 ⟨rfl, by decide⟩, hc 30 ⟨rfl, by decide⟩, hc 31 ⟨rfl, by decide⟩, hc 32 ⟨rfl, by decide⟩, hc 33 ⟨rfl, by decide⟩, hc 34 ⟨rfl, by decide⟩, hc 35 ⟨rfl, by decide⟩, hc 36 ⟨rfl, by decide⟩, hc 37 ⟨rfl, by decide⟩, hc 108 ⟨rfl, by decide⟩, hc 109 ⟨rfl, by decide⟩, hc 110 ⟨rfl, by decide⟩, hc 111 ⟨rfl, by decide⟩, hc 112 ⟨rfl, by decide⟩, hc 113 ⟨rfl, by decide⟩, hc 114 ⟨rfl, by decide⟩, hc 115 ⟨rfl, by decide⟩]
    exact hw
  · unfold nv_a
    rw [hJ 34 rfl, hc 38 ⟨rfl, by decide⟩, hc 39 ⟨rfl, by decide⟩, hc 40 ⟨rfl, by decide⟩, hc 41 ⟨rfl, by decide⟩, hc 124 ⟨rfl, by decide⟩, hc 125 ⟨rfl, by decide⟩, hc 126 ⟨rfl, by decide⟩]
    exact ha
  · unfold nv_p
    rw [hJ 46 rfl, hJ 47 rfl, hJ 48 rfl, hc 42 ⟨rfl, by decide⟩, hc 43 ⟨rfl, by decide⟩, hc 44 ⟨rfl, by decide⟩, hc 45 ⟨rfl, by decide⟩, hc 46 ⟨rfl, by decide⟩, hc 47 ⟨rfl, by decide⟩, hc 48 ⟨rfl, by decide⟩, hc 49 ⟨rfl, by decide⟩, hc 50 ⟨rfl, by decide⟩, hc 51 ⟨rfl, by decide⟩, hc 52 ⟨rfl, by decide⟩, hc 53 ⟨rfl, by decide⟩, hc 127 ⟨rfl, by decide⟩, hc 128 ⟨rfl, by decide⟩, hc 129 ⟨rfl, by decide⟩, hc 130 ⟨rfl, by decide⟩, hc 131 ⟨rfl, by decide⟩, hc 132 ⟨rfl, by decide⟩, hc 133 ⟨rfl, by decide⟩, hc 134 ⟨rfl, by decide⟩, hc 135 ⟨rfl, by decide⟩, hc 136 ⟨rfl, by decide⟩, hc 137 ⟨rfl, by decide⟩]
    exact hp
  · unfold nv_o
    rw [hJ 54 rfl, hc 54 ⟨rfl, by decide⟩, hc 55 ⟨rfl, by decide⟩, hc 56 ⟨rfl, by decide⟩, hc 57 ⟨rfl, by decide⟩, hc 58 ⟨rfl, by decide⟩, hc 138 ⟨rfl, by decide⟩, hc 139 ⟨rfl, by decide⟩, hc 140 ⟨rfl, by decide⟩, hc 141 ⟨rfl, by decide⟩, hc 142 ⟨rfl, by decide⟩]
    exact ho
  · unfold nv_b
    rw [hJ 58 rfl, hc 60 ⟨rfl, by decide⟩, hc 61 ⟨rfl, by decide⟩, hc 62 ⟨rfl, by decide⟩, hc 63 ⟨rfl, by decide⟩, hc 143 ⟨rfl, by decide⟩, hc 144 ⟨rfl, by decide⟩, hc 145 ⟨rfl, by decide⟩]
    exact hb
  · unfold nv_f
    rw [hJ 19 rfl, hc 80 ⟨rfl, by decide⟩, hc 81 ⟨rfl, by decide⟩, hc 116 ⟨rfl, by decide⟩]
    exact hf
-- force
theorem sp_182 {G : ab_G} {L : Nat} {xs : Nat → Int32} {l : Launch} {d : Nat} {a b c : Int32} {V : aa_V} {K : aa_K} (h0 : ¬ (¬ a < b ∧ ¬ c < a) → K (some (.int (0 : Int32))) V) (h1 : ¬ a < b → ¬ c < a → K (some (.int (1 : Int32))) V) : ab_E G (ac_ST L xs) l (d + 1) ac_SK 182 [.int a, .int b, .int c] V K :=
  vc_182_0 ⟨fun q => ⟨Or.inl rfl, h0 (fun z => z.1 q)⟩, fun q => ⟨fun q2 => ⟨Or.inl rfl, h0 (fun z => z.2 q2)⟩, fun q2 => ⟨Or.inr rfl, h1 q q2⟩⟩⟩
theorem cs_150 {G : ab_G} {L : Nat} {xs : Nat → Int32} {l : Launch} {d : Nat} {i1 : Int32} {V : aa_V} {Q : Int32 → Int32 → aa_V → Prop} (hI : nv V) (hQ : ∀ x W, nv W → Q x x W) :
    ab_E G (ac_ST L xs) l (d + 2) ac_SK 150 [.ref 0, .int i1] V (aa_rI fun x V1 => ab_E G (ac_ST L xs) l (d + 2) ac_SK 224 [.ref 105, .int i1] V1 (aa_rI fun y W => Q x y W)) := by
  obtain ⟨hn, hr, hw, ha, hp, ho, hb, hk, hs, hf, ht⟩ := id hI
  obtain ⟨⟨t1, t2⟩, T, M, l', t3, t4, t5, t6, t7, t8, t9, t10⟩ := id ht
  have e1 : nI T - 1 = nI (T - 1) := nI_minus t4
  refine vc_150_0 (sp_182 (fun c => ?_) (fun c1 c2 => ?_))
  · dsimp only [aa_rI]
    refine ⟨fun _ => ?_, fun z => absurd rfl z⟩
    refine vc_224_0 (iv_isIn (b := 0) (c := V 105 20 - 1) rfl rfl ⟨fun q => ?_, fun q => ⟨fun q2 => ?_, fun q2 => ?_⟩⟩)
    · exact ⟨fun _ => hQ _ _ hI, fun z => absurd rfl z⟩
    · exact ⟨fun _ => hQ _ _ hI, fun z => absurd rfl z⟩
    · rw [t1] at q2
      exact absurd ⟨q, q2⟩ c
  · dsimp only [aa_rI]
    refine ⟨fun z => absurd z (by decide), fun _ => ?_⟩
    refine vc_224_0 (iv_isIn (b := 0) (c := aa_up V 0 12 i1 105 20 - 1) rfl rfl ⟨fun q => absurd q c1, fun q => ⟨fun q2 => ?_, fun q2 => ?_⟩⟩)
    · rw [aa_up_c (by decide), t1] at q2
      exact absurd q2 c2
    · dsimp only [aa_rI]
      refine ⟨fun z => absurd z (by decide), fun _ => ?_⟩
      rw [aa_up_c (by decide), t2]
      refine hQ _ _ ?_
      rw [t3, e1] at c2
      obtain ⟨j, hj, hj2⟩ := zz_of (n := T) c1 (by
        simp only [zz_lt] at c2 ⊢
        rw [nI_toInt (by omega)] at c2 ⊢
        omega) (by omega)
      have u0 : ∀ c, c ≠ 0 → c ≠ 105 → aa_up (aa_up V 0 12 i1) 105 21 i1 c = V c := fun c h0 h1 => by rw [aa_up_c h1, aa_up_c h0]
      refine ⟨hn, nv_rc (V := V) (fun c h1 h2 => u0 c (by omega) (by omega)) rfl hr, hw, ha, hp, ho, hb, nv_kc (V := V) (fun c h1 h2 => u0 c (by omega) (by omega)) rfl rfl rfl hk, nv_sc (V := V) (fun c h1 h2 => u0 c (by omega) (by omega)) rfl rfl rfl rfl rfl hs, hf, ⟨t1, rfl⟩, T, M, j, t3, t4, t5, t6, t7, hj2, hj, fun t hlt => ?_⟩
      have := t10 t hlt
      unfold nv_u at this ⊢
      rw [u0 (87 + 3 * t) (by omega) (by omega), u0 (88 + 3 * t) (by omega) (by omega)]
      exact this
-- meeting
def insm (f : Nat → Int32) (p n : Nat) : Nat → Int32 := fun j => if j ≤ p then f j else if j ≤ n then f (j - 1) else f j
def insf (f : Nat → Int32) (p n : Nat) (x : Int32) : Nat → Int32 := fun j => if j < p then f j else if j = p then x else if j ≤ n then f (j - 1) else f j
theorem insm_n (f : Nat → Int32) (n : Nat) : insm f n n = f := by
  funext j
  unfold insm
  by_cases c : j ≤ n
  · rw [if_pos c]
  · rw [if_neg c, if_neg c]
theorem insm_s (f : Nat → Int32) {p n : Nat} (hp : 0 < p) (hn : p ≤ n) : upd (insm f p n) p (insm f p n (p - 1)) = insm f (p - 1) n := by
  funext j
  unfold upd insm
  by_cases c : j = p
  · subst c
    rw [if_pos rfl, if_pos (by omega), if_neg (by omega), if_pos hn]
  · rw [if_neg c]
    by_cases c2 : j ≤ p - 1
    · rw [if_pos (by omega), if_pos c2]
    · rw [if_neg (by omega), if_neg c2]
theorem insm_f (f : Nat → Int32) (p n : Nat) (x : Int32) : upd (insm f p n) p x = insf f p n x := by
  funext j
  unfold upd insm insf
  by_cases c : j = p
  · rw [if_pos c, if_neg (by omega), if_pos c]
  · rw [if_neg c]
    by_cases c2 : j < p
    · rw [if_pos (by omega), if_pos c2]
    · rw [if_neg (by omega), if_neg c2, if_neg c]
/-- where a meeting of a night comes to stand -/
def inspl (V : aa_V) (x : Int32) (n p : Nat) : Prop := p ≤ n ∧ (∀ j, p ≤ j → j < n → x < V 57 j) ∧ (p = 0 ∨ ¬ x < V 57 (p - 1))
theorem inspl_e {V : aa_V} {x : Int32} {n p q : Nat} (h : inspl V x n p) (g : inspl V x n q) : p = q := by
  obtain ⟨h1, h2, h3⟩ := h
  obtain ⟨g1, g2, g3⟩ := g
  rcases Nat.lt_trichotomy p q with r | r | r
  · rcases g3 with g3 | g3
    · omega
    · exact absurd (h2 (q - 1) (by omega) (by omega)) g3
  · exact r
  · rcases h3 with h3 | h3
    · omega
    · exact absurd (g2 (p - 1) (by omega) (by omega)) h3
theorem nI_pre {p : Nat} (h : 0 < p) : nI p - 1 = nI (p - 1) := nI_minus h
theorem nI_pre2 {p : Nat} (h : 0 < p) : nI p + -1 = nI (p - 1) := by
  rw [← nI_pre h]
  exact (Int32.sub_eq_add_neg _ _).symm
set_option maxRecDepth 20000 in
theorem sp_11 {G : ab_G} {L : Nat} {xs : Nat → Int32} {l : Launch} {d n : Nat} {i1 i2 i3 : Int32} {V : aa_V} {K : aa_K} (hn : V 54 0 = nI n) (hm : n < 40) (h : ∀ p, inspl V i3 n p → ∀ X, (∀ c, c ≠ 54 → c ≠ 55 → c ≠ 56 → c ≠ 57 → X c = V c) → X 55 = insf (V 55) p n i1 → X 56 = insf (V 56) p n i2 → X 57 = insf (V 57) p n i3 → X 54 0 = nI (n + 1) → K (some (.int (nI (n + 1)))) X) :
    ab_E G (ac_ST L xs) l (d + 1) ac_SK 11 [.ref 54, .int i1, .int i2, .int i3] V K := by
  refine iv_11_0 ⟨fun _ => ?_, fun q => absurd (by rw [hn]; exact (zz_nlt (b := 40) (by omega) (by decide)).mpr hm) q⟩
  rw [hn]
  have key : ∀ p, p ≤ n → (∀ j, p ≤ j → j < n → i3 < V 57 j) → ∀ X, (∀ c, c ≠ 55 → c ≠ 56 → c ≠ 57 → X c = V c) → X 55 = insm (V 55) p n → X 56 = insm (V 56) p n → X 57 = insm (V 57) p n → ab_J G (ac_ST L xs) l (d + 1) 11 24 [some (.ref 54), some (.int i1), some (.int i2), some (.int i3), some (.int (nI p)), some (.int (nI p))] [] ac_SK X ac_SK K := by
    intro p
    induction p with
    | zero =>
      intro hp hq X h0 h1 h2 h3
      have v0 : vp_in (nI 0) 40 := vp_in_nI (by decide) (by decide)
      refine iv_11_24 ⟨fun q => absurd q (by decide), fun _ => ⟨v0, v0, v0, ?_⟩⟩
      have e54 : X 54 = V 54 := h0 54 (by decide) (by decide) (by decide)
      rw [e54, hn, ← nI_succ]
      refine h 0 ⟨hp, hq, Or.inl rfl⟩ _ (fun c g1 g2 g3 g4 => ?_) ?_ ?_ ?_ ?_
      · rw [aa_up_c g1, aa_up_c g4, aa_up_c g3, aa_up_c g2, h0 c g2 g3 g4]
      · show upd (X 55) 0 i1 = _
        rw [h1, insm_f]
      · show upd (X 56) 0 i2 = _
        rw [h2, insm_f]
      · show upd (X 57) 0 i3 = _
        rw [h3, insm_f]
      · exact aa_up_s
    | succ p ih =>
      intro hp hq X h0 h1 h2 h3
      have e1 : (nI (p + 1) - 1) = nI p := nI_pre (p := p + 1) (by omega)
      have e2 : (nI (p + 1) + -1) = nI p := nI_pre2 (p := p + 1) (by omega)
      have vp : vp_in (nI p) 40 := vp_in_nI (by omega) (by decide)
      have vp1 : vp_in (nI (p + 1)) 40 := vp_in_nI (by omega) (by decide)
      have ep : (nI p).toNatClampNeg = p := zz_ix (by omega)
      have ep1 : (nI (p + 1)).toNatClampNeg = p + 1 := zz_ix (by omega)
      have e57 : X 57 p = V 57 p := by rw [h3]; unfold insm; rw [if_pos (by omega)]
      refine iv_11_24 ⟨fun _ => ?_, fun q => absurd ((zz_nlt (a := 0) (by decide) (by omega)).mpr (by omega)) q⟩
      rw [e1, e2, ep, ep1]
      refine ⟨vp, fun c => ⟨vp, vp1, vp, vp1, vp, vp1, ?_⟩, fun c => ⟨vp1, vp1, vp1, ?_⟩⟩
      · refine ih (by omega) (fun j hj hj2 => ?_) _ (fun c g1 g2 g3 => ?_) ?_ ?_ ?_
        · rcases Nat.lt_or_ge p j with r | r
          · exact hq j (by omega) hj2
          · rw [show j = p by omega, ← e57]
            exact c
        · rw [aa_up_c g3, aa_up_c g2, aa_up_c g1, h0 c g1 g2 g3]
        · show upd (X 55) (p + 1) (X 55 p) = _
          rw [h1]
          exact insm_s (V 55) (p := p + 1) (by omega) hp
        · show upd (X 56) (p + 1) (X 56 p) = _
          rw [h2]
          exact insm_s (V 56) (p := p + 1) (by omega) hp
        · show upd (X 57) (p + 1) (X 57 p) = _
          rw [h3]
          exact insm_s (V 57) (p := p + 1) (by omega) hp
      · have e54 : X 54 = V 54 := h0 54 (by decide) (by decide) (by decide)
        rw [e54, hn, ← nI_succ]
        rw [e57] at c
        refine h (p + 1) ⟨hp, hq, Or.inr c⟩ _ (fun c g1 g2 g3 g4 => ?_) ?_ ?_ ?_ ?_
        · rw [aa_up_c g1, aa_up_c g4, aa_up_c g3, aa_up_c g2, h0 c g2 g3 g4]
        · show upd (X 55) (p + 1) i1 = _
          rw [h1, insm_f]
        · show upd (X 56) (p + 1) i2 = _
          rw [h2, insm_f]
        · show upd (X 57) (p + 1) i3 = _
          rw [h3, insm_f]
        · exact aa_up_s
  exact key n (Nat.le_refl _) (fun j h1 h2 => absurd h2 (by omega)) V (fun _ _ _ _ => rfl) (insm_n _ _).symm (insm_n _ _).symm (insm_n _ _).symm
set_option maxRecDepth 20000 in
/-- the reference's order: U is the one behind the putting down; f is the row of nights in order -/
theorem sp_257 {G : ab_G} {L : Nat} {xs : Nat → Int32} {l : Launch} {d n : Nat} {i3 : Int32} {V U : aa_V} {K : aa_K} (hm : n < 40) (ho : ∀ j, j < n → ∃ o, o < n ∧ U 141 j = nI o ∧ V 57 j = U 140 o) (h : ∀ p, inspl V i3 n p → K (some (.int (U 105 54))) (aa_row U 141 (insf (U 141) p n (nI n)))) :
    ab_J G (ac_ST L xs) l (d + 2) 257 94 [some (.ref 105), none, none, some (.int i3), some (.int (nI n)), some (.int (nI n))] [] ac_SK U ac_SK K := by
  have hrow : ∀ (X : aa_V) (k : Nat) (x : Int32), (∀ c, c ≠ 141 → X c = U c) → aa_up X 141 k x = aa_row U 141 (upd (X 141) k x) := fun X k x hX => by
    funext c
    by_cases q : c = 141
    · subst q
      rw [aa_row_s]
      rfl
    · rw [aa_row_c q, aa_up_c q, hX c q]
  have key : ∀ p, p ≤ n → (∀ j, p ≤ j → j < n → i3 < V 57 j) → ∀ X, (∀ c, c ≠ 141 → X c = U c) → X 141 = insm (U 141) p n → ab_J G (ac_ST L xs) l (d + 2) 257 94 [some (.ref 105), none, none, some (.int i3), some (.int (nI n)), some (.int (nI p))] [] ac_SK X ac_SK K := by
    intro p
    induction p with
    | zero =>
      intro hp hq X h0 h1
      have v0 : vp_in (nI 0) 40 := vp_in_nI (by decide) (by decide)
      refine iv_257_94 ⟨fun q => absurd q (by decide), fun _ => ⟨v0, ?_⟩⟩
      rw [h0 105 (by decide), hrow X _ _ h0, h1, show (nI 0).toNatClampNeg = 0 from rfl, insm_f]
      exact h 0 ⟨hp, hq, Or.inl rfl⟩
    | succ p ih =>
      intro hp hq X h0 h1
      have e1 : (nI (p + 1) - 1) = nI p := nI_pre (p := p + 1) (by omega)
      have e2 : (nI (p + 1) + -1) = nI p := nI_pre2 (p := p + 1) (by omega)
      have vp : vp_in (nI p) 40 := vp_in_nI (by omega) (by decide)
      have vp1 : vp_in (nI (p + 1)) 40 := vp_in_nI (by omega) (by decide)
      have ep : (nI p).toNatClampNeg = p := zz_ix (by omega)
      have ep1 : (nI (p + 1)).toNatClampNeg = p + 1 := zz_ix (by omega)
      obtain ⟨o, o1, o2, o3⟩ := ho p (by omega)
      have e141 : X 141 p = nI o := by rw [h1]; unfold insm; rw [if_pos (by omega), o2]
      have eo : (nI o).toNatClampNeg = o := zz_ix (by omega)
      refine iv_257_94 ⟨fun _ => ?_, fun q => absurd ((zz_nlt (a := 0) (by decide) (by omega)).mpr (by omega)) q⟩
      rw [e1, e2, ep, ep1, e141, eo, h0 140 (by decide), ← o3]
      refine ⟨vp, vp_in_nI (by omega) (by decide), fun c => ⟨vp, vp1, ?_⟩, fun c => ⟨vp1, ?_⟩⟩
      · refine ih (by omega) (fun j hj hj2 => ?_) _ (fun c g1 => (aa_up_c g1).trans (h0 c g1)) ?_
        · rcases Nat.lt_or_ge p j with r | r
          · exact hq j (by omega) hj2
          · rw [show j = p by omega]
            exact c
        · show upd (X 141) (p + 1) (nI o) = _
          rw [← e141, h1]
          exact insm_s (U 141) (p := p + 1) (by omega) hp
      · rw [h0 105 (by decide), hrow X _ _ h0, h1, insm_f]
        exact h (p + 1) ⟨hp, hq, Or.inr c⟩
  exact key n (Nat.le_refl _) (fun j h1 h2 => absurd h2 (by omega)) U (fun _ _ => rfl) (insm_n _ _).symm
theorem insf_p {P : Int32 → Prop} {f : Nat → Int32} {p n : Nat} {x : Int32} (h : ∀ i, P (f i)) (hx : P x) : ∀ i, P (insf f p n x i) := by
  intro i
  unfold insf
  repeat' split
  all_goals first | exact h _ | exact hx
set_option maxRecDepth 20000 in
theorem cs_166 {G : ab_G} {L : Nat} {xs : Nat → Int32} {l : Launch} {d : Nat} {i1 i2 i3 : Int32} {V : aa_V} {Q : Int32 → Int32 → aa_V → Prop} (hI : nv V) (hQ : ∀ x W, nv W → Q x x W) :
    ab_E G (ac_ST L xs) l (d + 3) ac_SK 166 [.ref 0, .int i1, .int i2, .int i3] V (aa_rI fun x V1 => ab_E G (ac_ST L xs) l (d + 2) ac_SK 257 [.ref 105, .int i1, .int i2, .int i3] V1 (aa_rI fun y W => Q x y W)) := by
  obtain ⟨hn, hr, hw, ha, hp, ho, hb, hk, hs, hf, ht⟩ := id hI
  obtain ⟨n1, n2⟩ := id hn
  obtain ⟨⟨p1, p2, p3, p4, p5, p6⟩, _⟩ := id hp
  obtain ⟨⟨o1, o2, o3, o4⟩, o5, o6, o7, o8, o9⟩ := id ho
  have k1 := zb_lt1 (i := i1) p2 (by decide)
  have k2 := zb_lt1 (i := i2) p2 (by decide)
  -- the reference where it says no
  have bad : ∀ v : Int32, v = -2 → (i1 < 0 ∨ ¬ i1 < V 42 2 ∨ i2 < 0 ∨ ¬ i2 < V 42 2 ∨ i1 = i2 ∨ i3 < 0 ∨ V 0 13 < i3) → ab_E G (ac_ST L xs) l (d + 2) ac_SK 257 [.ref 105, .int i1, .int i2, .int i3] V (aa_rI fun y W => Q v y W) := by
    intro v hv hc
    subst hv
    refine iv_257_0 ?_
    rw [p1, n1]
    refine ⟨fun _ => hQ _ _ hI, fun c1 => ⟨fun c2 => ⟨fun _ => hQ _ _ hI, fun c3 => ⟨fun c4 => ⟨fun _ => hQ _ _ hI, fun c5 => ⟨fun _ => hQ _ _ hI, fun c6 => ⟨fun _ => hQ _ _ hI, fun c7 => ?_⟩⟩⟩, fun _ => hQ _ _ hI⟩⟩, fun _ => hQ _ _ hI⟩⟩
    rcases hc with q | q | q | q | q | q | q
    · exact absurd q c1
    · exact absurd c2 q
    · exact absurd q c3
    · exact absurd c4 q
    · exact absurd q c5
    · exact absurd q c6
    · exact absurd q c7
  refine iv_166_0 ⟨fun c1 => bad _ rfl (Or.inl c1), fun c1 => ⟨fun c2 => bad _ rfl (Or.inr (Or.inl (fun z => k1.mpr z c2))), fun c2 => ⟨fun c3 => bad _ rfl (Or.inr (Or.inr (Or.inl c3))), fun c3 => ⟨fun c4 => bad _ rfl (Or.inr (Or.inr (Or.inr (Or.inl (fun z => k2.mpr z c4))))), fun c4 => ⟨fun c5 => bad _ rfl (Or.inr (Or.inr (Or.inr (Or.inr (Or.inl c5))))), fun c5 => ⟨fun c6 => bad _ rfl (Or.inr (Or.inr (Or.inr (Or.inr (Or.inr (Or.inl c6)))))), fun c6 => ⟨fun c7 => bad _ rfl (Or.inr (Or.inr (Or.inr (Or.inr (Or.inr (Or.inr c7)))))), fun c7 => ?_⟩⟩⟩⟩⟩⟩⟩
  replace c2 := k1.mp c2
  replace c4 := k2.mp c4
  obtain ⟨n, hnn, hm⟩ := zb_i o2
  have hN : (V 54 0).toNatClampNeg = n := by rw [hnn]; exact zz_ix (by omega)
  rw [hN] at o5 o6
  have z1 : zb i1 11 := by
    have r := zb_r p2 (by decide)
    simp only [zz_lt, zl_0] at c1 c2
    exact zb_of_r (by omega) (by omega) (by decide)
  have z2 : zb i2 11 := by
    have r := zb_r p2 (by decide)
    simp only [zz_lt, zl_0] at c3 c4
    exact zb_of_r (by omega) (by omega) (by decide)
  have z3 : zb i3 399 := by
    have r := zb_r n2 (by decide)
    simp only [zz_lt, zl_0] at c6 c7
    exact zb_of_r (by omega) (by omega) (by decide)
  rcases Nat.lt_or_ge n 40 with hlt | hge
  · refine sp_11 (d := d + 1) hnn hlt (fun p hpl X hX x55 x56 x57 x54 => ?_)
    dsimp only [aa_rI]
    have e105 : X 105 = V 105 := hX 105 (by decide) (by decide) (by decide) (by decide)
    refine iv_257_0 ?_
    rw [e105, p1, n1, o1, hnn]
    refine ⟨fun q => absurd q c1, fun _ => ⟨fun _ => ⟨fun q => absurd q c3, fun _ => ⟨fun _ => ⟨fun q => absurd q c5, fun _ => ⟨fun q => absurd q c6, fun _ => ⟨fun q => absurd q c7, fun _ => ⟨fun q => absurd q (fun z => by have := nI_j (b := 40) (by omega) (by decide) z; omega), fun _ => ?_⟩⟩⟩⟩, fun q => absurd c4 q⟩⟩, fun q => absurd c2 q⟩⟩
    have vn : vp_in (nI n) 40 := vp_in_nI hlt (by decide)
    have en : (nI n).toNatClampNeg = n := zz_ix (by omega)
    refine ⟨vn, vn, vn, ?_⟩
    rw [en, ← nI_succ]
    obtain ⟨U, hU⟩ : ∃ U, U = aa_up (aa_up (aa_up (aa_up X 138 n i1) 139 n i2) 140 n i3) 105 54 (nI (n + 1)) := ⟨_, rfl⟩
    rw [← hU]
    have uc : ∀ c, c ≠ 138 → c ≠ 139 → c ≠ 140 → c ≠ 105 → U c = X c := fun c g1 g2 g3 g4 => by rw [hU, aa_up_c g4, aa_up_c g3, aa_up_c g2, aa_up_c g1]
    have u138 : U 138 = upd (V 138) n i1 := by
      rw [hU, ← hX 138 (by decide) (by decide) (by decide) (by decide)]
      rfl
    have u139 : U 139 = upd (V 139) n i2 := by
      rw [hU, ← hX 139 (by decide) (by decide) (by decide) (by decide)]
      rfl
    have u140 : U 140 = upd (V 140) n i3 := by
      rw [hU, ← hX 140 (by decide) (by decide) (by decide) (by decide)]
      rfl
    have u141 : U 141 = V 141 := by rw [uc 141 (by decide) (by decide) (by decide) (by decide), hX 141 (by decide) (by decide) (by decide) (by decide)]
    have u105 : U 105 54 = nI (n + 1) := by rw [hU]; exact aa_up_s
    refine sp_257 (V := V) hlt (fun j hj => ?_) (fun p' hpl' => ?_)
    · obtain ⟨o, g1, g2, g3, g4, g5⟩ := o5 j hj
      refine ⟨o, g1, by rw [u141, g2], ?_⟩
      rw [u140, g5]
      unfold upd
      rw [if_neg (by omega)]
    · have := inspl_e hpl' hpl
      subst this
      show Q _ _ _
      rw [u105]
      refine hQ _ _ ?_
      have wc : ∀ c, c ≠ 54 → c ≠ 55 → c ≠ 56 → c ≠ 57 → c ≠ 138 → c ≠ 139 → c ≠ 140 → c ≠ 141 → c ≠ 105 → aa_row U 141 (insf (U 141) p' n (nI n)) c = V c := fun c g1 g2 g3 g4 g5 g6 g7 g8 g9 => by rw [aa_row_c g8, uc c g5 g6 g7 g9, hX c g1 g2 g3 g4]
      obtain ⟨W, hW⟩ : ∃ W, W = aa_row U 141 (insf (U 141) p' n (nI n)) := ⟨_, rfl⟩
      rw [← hW] at wc ⊢
      have w105 : ∀ j, j ≠ 54 → W 105 j = V 105 j := fun j hj => by
        rw [hW, aa_row_c (by decide), hU, aa_up_o hj, aa_up_c (by decide), aa_up_c (by decide), aa_up_c (by decide), e105]
      have w141 : W 141 = insf (V 141) p' n (nI n) := by rw [hW, aa_row_s, u141]
      have w138 : W 138 = upd (V 138) n i1 := by rw [hW, aa_row_c (by decide), u138]
      have w139 : W 139 = upd (V 139) n i2 := by rw [hW, aa_row_c (by decide), u139]
      have w140 : W 140 = upd (V 140) n i3 := by rw [hW, aa_row_c (by decide), u140]
      have w55 : W 55 = insf (V 55) p' n i1 := by rw [hW, aa_row_c (by decide), uc 55 (by decide) (by decide) (by decide) (by decide), x55]
      have w56 : W 56 = insf (V 56) p' n i2 := by rw [hW, aa_row_c (by decide), uc 56 (by decide) (by decide) (by decide) (by decide), x56]
      have w57 : W 57 = insf (V 57) p' n i3 := by rw [hW, aa_row_c (by decide), uc 57 (by decide) (by decide) (by decide) (by decide), x57]
      have w54 : W 54 0 = nI (n + 1) := by rw [hW, aa_row_c (by decide), uc 54 (by decide) (by decide) (by decide) (by decide), x54]
      have wN : W 105 54 = nI (n + 1) := by rw [hW, aa_row_c (by decide), u105]
      have ww : ∀ c, (c < 54 ∨ (57 < c ∧ c < 105) ∨ (105 < c ∧ c < 138) ∨ 141 < c) → W c = V c := fun c h => wc c (by omega) (by omega) (by omega) (by omega) (by omega) (by omega) (by omega) (by omega) (by omega)
      refine ⟨?_, nv_rc (fun c h1 h2 => ww c (by omega)) (ww 106 (by omega)) hr, ?_, ?_, ?_, ?_, ?_, nv_kc (fun c h1 h2 => ww c (by omega)) (ww 146 (by omega)) (by rw [ww 64 (by omega)]) (w105 60 (by decide)) hk, nv_sc (fun c h1 h2 => ww c (by omega)) (ww 147 (by omega)) (ww 148 (by omega)) (ww 149 (by omega)) (ww 73 (by omega)) (ww 74 (by omega)) hs, ?_, nv_tc (fun t ht => ⟨ww _ (by omega), ww _ (by omega)⟩) (ww 117 (by omega)) (ww 118 (by omega)) (ww 119 (by omega)) (ww 120 (by omega)) (w105 20 (by decide)) (w105 21 (by decide)) (w105 25 (by decide)) (by rw [ww 0 (by omega)]) (by rw [ww 0 (by omega)]) ht⟩
      · unfold nv_n
        rw [ww 0 (by omega), w105 2 (by decide)]
        exact hn
      · unfold nv_w
        rw [w105 11 (by decide), w105 12 (by decide), ww 29 (by omega), ww 30 (by omega), ww 31 (by omega), ww 32 (by omega), ww 33 (by omega), ww 34 (by omega), ww 35 (by omega), ww 36 (by omega), ww 37 (by omega), ww 108 (by omega), ww 109 (by omega), ww 110 (by omega), ww 111 (by omega), ww 112 (by omega), ww 113 (by omega), ww 114 (by omega), ww 115 (by omega)]
        exact hw
      · unfold nv_a
        rw [w105 34 (by decide), ww 38 (by omega), ww 39 (by omega), ww 40 (by omega), ww 41 (by omega), ww 124 (by omega), ww 125 (by omega), ww 126 (by omega)]
        exact ha
      · unfold nv_p
        rw [w105 46 (by decide), w105 47 (by decide), w105 48 (by decide), ww 42 (by omega), ww 43 (by omega), ww 44 (by omega), ww 45 (by omega), ww 46 (by omega), ww 47 (by omega), ww 48 (by omega), ww 49 (by omega), ww 50 (by omega), ww 51 (by omega), ww 52 (by omega), ww 53 (by omega), ww 127 (by omega), ww 128 (by omega), ww 129 (by omega), ww 130 (by omega), ww 131 (by omega), ww 132 (by omega), ww 133 (by omega), ww 134 (by omega), ww 135 (by omega), ww 136 (by omega), ww 137 (by omega)]
        exact hp
      · unfold nv_o
        rw [wN, w54, w55, w56, w57, w138, w139, w140, w141, ww 58 (by omega), ww 142 (by omega), zz_ix (by omega)]
        refine ⟨⟨rfl, zb_n (by omega) (by decide), o3, o4⟩, fun i hi => ?_, fun i j hij hj => ?_, insf_p (P := fun z => zb z 11) o7 z1, insf_p (P := fun z => zb z 11) o8 z2, insf_p (P := fun z => zb z 399) o9 z3⟩
        · have old : ∀ k, k < n → ∃ o, o < n + 1 ∧ V 141 k = nI o ∧ V 55 k = upd (V 138) n i1 o ∧ V 56 k = upd (V 139) n i2 o ∧ V 57 k = upd (V 140) n i3 o := fun k hk => by
            obtain ⟨o, g1, g2, g3, g4, g5⟩ := o5 k hk
            refine ⟨o, by omega, g2, ?_, ?_, ?_⟩
            · unfold upd
              rw [if_neg (by omega), g3]
            · unfold upd
              rw [if_neg (by omega), g4]
            · unfold upd
              rw [if_neg (by omega), g5]
          unfold insf
          by_cases q1 : i < p'
          · simp only [if_pos q1]
            exact old i (by have := hpl.1; omega)
          · simp only [if_neg q1]
            by_cases q2 : i = p'
            · simp only [if_pos q2]
              exact ⟨n, by omega, rfl, by unfold upd; rw [if_pos rfl], by unfold upd; rw [if_pos rfl], by unfold upd; rw [if_pos rfl]⟩
            · simp only [if_neg q2]
              rw [if_pos (by omega), if_pos (by omega), if_pos (by omega), if_pos (by omega)]
              exact old (i - 1) (by omega)
        · obtain ⟨l1, l2, l3⟩ := hpl
          have lo : ∀ k, k < p' → ¬ i3 < V 57 k := fun k hk => by
            rcases l3 with l3 | l3
            · omega
            · have := o6 k (p' - 1) (by omega) (by omega)
              simp only [zz_lt] at this l3 ⊢
              omega
          unfold insf
          by_cases q1 : j < p'
          · rw [if_pos q1, if_pos (by omega)]
            exact o6 i j hij (by omega)
          · rw [if_neg q1]
            by_cases q2 : j = p'
            · rw [if_pos q2]
              by_cases q3 : i < p'
              · rw [if_pos q3]
                exact lo i q3
              · rw [if_neg q3, if_pos (by omega)]
                exact fun z => by simp only [zz_lt] at z; omega
            · rw [if_neg q2, if_pos (by omega)]
              have hj' := l2 (j - 1) (by omega) (by omega)
              by_cases q3 : i < p'
              · rw [if_pos q3]
                exact o6 i (j - 1) (by omega) (by omega)
              · rw [if_neg q3]
                by_cases q4 : i = p'
                · rw [if_pos q4]
                  exact fun z => by simp only [zz_lt] at z hj'; omega
                · rw [if_neg q4, if_pos (by omega)]
                  exact o6 (i - 1) (j - 1) (by omega) (by omega)
      · unfold nv_b
        rw [w105 58 (by decide), ww 60 (by omega), ww 61 (by omega), ww 62 (by omega), ww 63 (by omega), ww 143 (by omega), ww 144 (by omega), ww 145 (by omega)]
        exact hb
      · unfold nv_f
        rw [w105 19 (by decide), ww 80 (by omega), ww 81 (by omega), ww 116 (by omega)]
        exact hf
  · have hn40 : n = 40 := by omega
    subst hn40
    refine iv_11_0 (d := d + 1) ⟨fun q => absurd q (by rw [hnn]; decide), fun _ => ?_⟩
    dsimp only [aa_rI]
    refine iv_257_0 ?_
    rw [p1, n1, o1, hnn]
    exact ⟨fun q => absurd q c1, fun _ => ⟨fun _ => ⟨fun q => absurd q c3, fun _ => ⟨fun _ => ⟨fun q => absurd q c5, fun _ => ⟨fun q => absurd q c6, fun _ => ⟨fun q => absurd q c7, fun _ => ⟨fun _ => hQ _ _ hI, fun q => absurd rfl q⟩⟩⟩⟩, fun q => absurd c4 q⟩⟩, fun q => absurd c2 q⟩⟩
