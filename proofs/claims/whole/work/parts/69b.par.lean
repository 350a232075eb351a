/-! the reference parses -/
theorem tm_k2 {k : Int32} (h1 : ¬ k < 300) (h2 : ¬ 305 < k) : tm_k k = 2 := by
  unfold tm_k
  rw [if_neg (fun q => h1 (by rw [q]; decide)), if_neg (fun q => h1 (by rw [q]; decide)), if_pos ⟨h1, h2⟩]
theorem tm_ks (k : Int32) : (k = 256 ∧ tm_k k = 0) ∨ (k = 258 ∧ tm_k k = 1) ∨ (¬ k < 300 ∧ ¬ 305 < k ∧ tm_k k = 2) ∨ (k = 308 ∧ tm_k k = 3) ∨ (k = 309 ∧ tm_k k = 4) ∨ (k = 310 ∧ tm_k k = 5) ∨ (k = 306 ∧ tm_k k = 6) ∨ (k = 307 ∧ tm_k k = 7) ∨ (k = 40 ∧ tm_k k = 40) ∨ (k = 41 ∧ tm_k k = 41) ∨ (k = 59 ∧ tm_k k = 59) ∨ (k = 43 ∧ tm_k k = 43) ∨ (k = 45 ∧ tm_k k = 45) ∨ (k = 42 ∧ tm_k k = 42) ∨ (k = 60 ∧ tm_k k = 60) ∨ (k = 61 ∧ tm_k k = 61) ∨ tm_k k = -1 := by
  by_cases a1 : k = 256
  · exact Or.inl ⟨a1, by rw [a1]; decide⟩
  refine Or.inr ?_
  by_cases a2 : k = 258
  · exact Or.inl ⟨a2, by rw [a2]; decide⟩
  refine Or.inr ?_
  by_cases a3 : ¬ k < 300 ∧ ¬ 305 < k
  · exact Or.inl ⟨a3.1, a3.2, tm_k2 a3.1 a3.2⟩
  refine Or.inr ?_
  by_cases b308 : k = 308
  · exact Or.inl ⟨b308, by rw [b308]; decide⟩
  refine Or.inr ?_
  by_cases b309 : k = 309
  · exact Or.inl ⟨b309, by rw [b309]; decide⟩
  refine Or.inr ?_
  by_cases b310 : k = 310
  · exact Or.inl ⟨b310, by rw [b310]; decide⟩
  refine Or.inr ?_
  by_cases b306 : k = 306
  · exact Or.inl ⟨b306, by rw [b306]; decide⟩
  refine Or.inr ?_
  by_cases b307 : k = 307
  · exact Or.inl ⟨b307, by rw [b307]; decide⟩
  refine Or.inr ?_
  by_cases b40 : k = 40
  · exact Or.inl ⟨b40, by rw [b40]; decide⟩
  refine Or.inr ?_
  by_cases b41 : k = 41
  · exact Or.inl ⟨b41, by rw [b41]; decide⟩
  refine Or.inr ?_
  by_cases b59 : k = 59
  · exact Or.inl ⟨b59, by rw [b59]; decide⟩
  refine Or.inr ?_
  by_cases b43 : k = 43
  · exact Or.inl ⟨b43, by rw [b43]; decide⟩
  refine Or.inr ?_
  by_cases b45 : k = 45
  · exact Or.inl ⟨b45, by rw [b45]; decide⟩
  refine Or.inr ?_
  by_cases b42 : k = 42
  · exact Or.inl ⟨b42, by rw [b42]; decide⟩
  refine Or.inr ?_
  by_cases b60 : k = 60
  · exact Or.inl ⟨b60, by rw [b60]; decide⟩
  refine Or.inr ?_
  by_cases b61 : k = 61
  · exact Or.inl ⟨b61, by rw [b61]; decide⟩
  refine Or.inr ?_
  unfold tm_k
  rw [if_neg a1, if_neg a2, if_neg a3, if_neg b308, if_neg b309, if_neg b310, if_neg b306, if_neg b307, if_neg]
  intro z
  rcases z with z | z | z | z | z | z | z | z <;> contradiction
def mq_w (G : ab_G) (L : Nat) (xs : Nat → Int32) (l : Launch) (d : Nat) (K : aa_K) : Nat → Bool → aa_V → Prop
  | 0, mn, W => ab_J G (ac_ST L xs) l (d + 4) 221 14 [some (.ref 105), some (.int (if mn = true then 1 else 0)), some (.int 0)] [] ac_SK W ac_SK K
  | 1, _, W => ab_E G (ac_ST L xs) l (d + 3) ac_SK 220 [.ref 105, .int 10] W (aa_rV fun V1 => ab_E G (ac_ST L xs) l (d + 3) ac_SK 217 [.ref 105] V1 (aa_rV fun V2 => ab_J G (ac_ST L xs) l (d + 4) 221 169 [some (.ref 105), none, none] [] ac_SK V2 ac_SK K))
  | _, _, W => ab_J G (ac_ST L xs) l (d + 4) 221 169 [some (.ref 105), none, none] [] ac_SK W ac_SK K
def mq_x (tk pl : Nat → Int32) (P : Nat → Nat) : Nat → Nat → aa_V → Prop
  | 0, i, W => W 105 22 = nI (P i)
  | 1, i, W => W 105 22 = nI (P i)
  | _, i, W => W 105 26 = tm_k (tk i) ∧ W 105 27 = pl i ∧ (tm_k (tk i) ≠ -1 → W 105 22 = nI (P (i + 1)))
def mq_K (V : aa_V) (M F : Nat) (tk : Nat → Int32) (P : Nat → Nat) (K : aa_K) : pp_r → Prop
  | .inl r => ∀ W o, r.1 ≤ F → tk r.1 = 59 → mq V M ([], r.2, o) W → r.2.length ≤ r.1 → W 105 22 = nI (P (r.1 + 1)) → K (some (.int 1)) W
  | .inr p => ∀ W, mq_v V W M → W 105 27 = p → K (some (.int 0)) W
theorem mq_kp {W W' : aa_V} {tk pl : Nat → Int32} {P : Nat → Nat} {i : Nat} (h : mq_x tk pl P 2 i W) (k : mq_t W W') : mq_x tk pl P 2 i W' := ⟨k.2.1.trans h.1, k.2.2.1.trans h.2.1, fun z => k.1.trans (h.2.2 z)⟩
/-- a token is read -/
theorem mq_r {G : ab_G} {L : Nat} {xs : Nat → Int32} {l : Launch} {d M s F i : Nat} {tk nb pl y : Nat → Int32} {P : Nat → Nat} {V W : aa_V} {K : aa_K} {x : pp_X} (hs0 : s ≤ 160) (h19 : V 105 19 = nI s) (hxy : ∀ j, j < s → y j = (V 116 j).toInt8.toInt32 ∧ zb (V 116 j) 255) (hT : tr_T y s F tk nb pl P) (hi : i ≤ F) (hq : mq V M x W) (h22 : W 105 22 = nI (P i)) (h : ∀ W', mq V M x W' → mq_x tk pl P 2 i W' → (tk i = 258 → W' 105 28 = nb i) → (¬ tk i < 300 → ¬ 305 < tk i → W' 105 28 = tk i - 300) → K none W') : ab_E G (ac_ST L xs) l (d + 3) ac_SK 217 [.ref 105] W K := by
  obtain ⟨f, ef, ht⟩ := hT.2.2.2.2 i (by omega)
  have w19 : W 105 19 = nI s := (hq.1.2.1 19 (by omega)).trans h19
  have w116 : W 116 = V 116 := hq.1.1 116 (by decide) (by decide) (by decide) (by decide)
  exact tm_217 hs0 h22 w19 (by rw [w116]; exact hxy) ht (fun W' a b c e g k => h W' (mq_e hq a) ⟨c, by rw [ef]; exact b, e⟩ g k)
section
variable {G : ab_G} {L : Nat} {xs : Nat → Int32} {l : Launch} {d M s F : Nat} {tk nb pl y : Nat → Int32} {P : Nat → Nat} {V : aa_V} {K : aa_K}
def mq_P (G : ab_G) (L : Nat) (xs : Nat → Int32) (l : Launch) (d M F : Nat) (tk pl : Nat → Int32) (P : Nat → Nat) (V : aa_V) (K : aa_K) : pp_P := fun g i x mn r => ∀ W, i ≤ F → mq V M x W → mq_i x i → mq_x tk pl P g i W → mq_K V M F tk P K r → mq_w G L xs l d K g mn W
theorem mq_315 {W : aa_V} {v : Int32} (e : W 105 26 = v) (hv : v = 42 ∨ v = 43 ∨ v = 45 ∨ v = 60 ∨ v = 61 ∨ v = 3 ∨ v = 4) (h : ab_J G (ac_ST L xs) l (d + 4) 221 315 [some (.ref 105), none, none] [] ac_SK W ac_SK K) : ab_J G (ac_ST L xs) l (d + 4) 221 169 [some (.ref 105), none, none] [] ac_SK W ac_SK K := by
  rcases hv with q | q | q | q | q | q | q <;> rw [q] at e
  · exact iv_221_169 ⟨fun z => absurd (e.symm.trans z) (by decide), fun _ => ⟨fun z => absurd (e.symm.trans z) (by decide), fun _ => ⟨fun _ => h, fun z => absurd e z⟩⟩⟩
  · exact iv_221_169 ⟨fun z => absurd (e.symm.trans z) (by decide), fun _ => ⟨fun z => absurd (e.symm.trans z) (by decide), fun _ => ⟨fun z => absurd (e.symm.trans z) (by decide), fun _ => ⟨fun _ => h, fun z => absurd e z⟩⟩⟩⟩
  · exact iv_221_169 ⟨fun z => absurd (e.symm.trans z) (by decide), fun _ => ⟨fun z => absurd (e.symm.trans z) (by decide), fun _ => ⟨fun z => absurd (e.symm.trans z) (by decide), fun _ => ⟨fun z => absurd (e.symm.trans z) (by decide), fun _ => ⟨fun _ => h, fun z => absurd e z⟩⟩⟩⟩⟩
  · exact iv_221_169 ⟨fun z => absurd (e.symm.trans z) (by decide), fun _ => ⟨fun z => absurd (e.symm.trans z) (by decide), fun _ => ⟨fun z => absurd (e.symm.trans z) (by decide), fun _ => ⟨fun z => absurd (e.symm.trans z) (by decide), fun _ => ⟨fun z => absurd (e.symm.trans z) (by decide), fun _ => ⟨fun _ => h, fun z => absurd e z⟩⟩⟩⟩⟩⟩
  · exact iv_221_169 ⟨fun z => absurd (e.symm.trans z) (by decide), fun _ => ⟨fun z => absurd (e.symm.trans z) (by decide), fun _ => ⟨fun z => absurd (e.symm.trans z) (by decide), fun _ => ⟨fun z => absurd (e.symm.trans z) (by decide), fun _ => ⟨fun z => absurd (e.symm.trans z) (by decide), fun _ => ⟨fun z => absurd (e.symm.trans z) (by decide), fun _ => ⟨fun _ => h, fun z => absurd e z⟩⟩⟩⟩⟩⟩⟩
  · exact iv_221_169 ⟨fun z => absurd (e.symm.trans z) (by decide), fun _ => ⟨fun z => absurd (e.symm.trans z) (by decide), fun _ => ⟨fun z => absurd (e.symm.trans z) (by decide), fun _ => ⟨fun z => absurd (e.symm.trans z) (by decide), fun _ => ⟨fun z => absurd (e.symm.trans z) (by decide), fun _ => ⟨fun z => absurd (e.symm.trans z) (by decide), fun _ => ⟨fun z => absurd (e.symm.trans z) (by decide), fun _ => ⟨fun _ => h, fun z => absurd e z⟩⟩⟩⟩⟩⟩⟩⟩
  · exact iv_221_169 ⟨fun z => absurd (e.symm.trans z) (by decide), fun _ => ⟨fun z => absurd (e.symm.trans z) (by decide), fun _ => ⟨fun z => absurd (e.symm.trans z) (by decide), fun _ => ⟨fun z => absurd (e.symm.trans z) (by decide), fun _ => ⟨fun z => absurd (e.symm.trans z) (by decide), fun _ => ⟨fun z => absurd (e.symm.trans z) (by decide), fun _ => ⟨fun z => absurd (e.symm.trans z) (by decide), fun _ => ⟨fun z => absurd (e.symm.trans z) (by decide), fun _ => ⟨fun _ => h, fun z => absurd e z⟩⟩⟩⟩⟩⟩⟩⟩⟩
theorem mq_426 {W : aa_V} {x : Int32} {c : Nat} (e : W 105 26 = tm_k x) (hb : pp_cm x c) (h : ab_J G (ac_ST L xs) l (d + 4) 221 426 [some (.ref 105), some (.int 0), none] [] ac_SK W ac_SK K) : ab_J G (ac_ST L xs) l (d + 4) 221 169 [some (.ref 105), none, none] [] ac_SK W ac_SK K := by
  rcases hb with ⟨q, _⟩ | ⟨q, _⟩ <;> rw [q] at e
  · refine mq_315 e (Or.inr (Or.inr (Or.inr (Or.inl (by decide))))) (iv_221_315 ⟨fun z => absurd (e.symm.trans z) (by decide), fun _ => ⟨fun z => absurd (e.symm.trans z) (by decide), fun _ => ⟨fun z => absurd (e.symm.trans z) (by decide), fun _ => ⟨fun z => absurd (e.symm.trans z) (by decide), fun _ => ⟨fun z => absurd (e.symm.trans z) (by decide), fun _ => ⟨fun _ => h, fun z => absurd (e.trans (by decide)) z⟩⟩⟩⟩⟩⟩)
  · refine mq_315 e (Or.inr (Or.inr (Or.inr (Or.inr (Or.inl (by decide)))))) (iv_221_315 ⟨fun z => absurd (e.symm.trans z) (by decide), fun _ => ⟨fun z => absurd (e.symm.trans z) (by decide), fun _ => ⟨fun z => absurd (e.symm.trans z) (by decide), fun _ => ⟨fun z => absurd (e.symm.trans z) (by decide), fun _ => ⟨fun z => absurd (e.symm.trans z) (by decide), fun _ => ⟨fun z => absurd (e.symm.trans z) (by decide), fun _ => ⟨fun _ => h, fun z => absurd (e.trans (by decide)) z⟩⟩⟩⟩⟩⟩⟩)
theorem mq_F (hT : tr_T y s F tk nb pl P) {i : Nat} (hi : i ≤ F) (a : tk i ≠ 256) (b : tk i ≠ 257) : i + 1 ≤ F := by
  by_cases q : i = F
  · rw [q] at a b
    rcases hT.2.2.1 with z | z
    · exact absurd z a
    · exact absurd z b
  · omega
theorem mq_hput (hs0 : s ≤ 160) (hM : M ≤ 1000) (h19 : V 105 19 = nI s) (hxy : ∀ j, j < s → y j = (V 116 j).toInt8.toInt32 ∧ zb (V 116 j) 255) (hT : tr_T y s F tk nb pl P) : ∀ (i : Nat) (S : List Nat) (m : List pp_S) (o : Nat) (mn : Bool) (r : pp_r) (a b : Int32) (W' : aa_V), i + 1 ≤ F → mq V M (S, m, o) W' → mq_i (S, m, o) i → W' 105 22 = nI (P (i + 1)) → W' 105 26 - 1 = a → W' 105 28 = b → mq_K V M F tk P K r → mq_P G L xs l d M F tk pl P V K 1 (i + 1) (S, (a, b) :: m, o) false r → ab_J G (ac_ST L xs) l (d + 4) 221 38 [some (.ref 105), some (.int (if mn = true then 1 else 0)), none] [] ac_SK W' ac_SK K := by
  have hF := hT.1
  have nxt : ∀ i, i ≤ F → tk i ≠ 256 → tk i ≠ 257 → i + 1 ≤ F := fun i hi a b => mq_F hT hi a b
  intro i S m o mn r a b W' hi hq hv h22 h26 h28 hK ih
  have e25 : W' 105 25 = nI (M + m.length) := hq.2.2.2.1
  have hl : S.length + m.length ≤ i := hv.1
  have e2 : nI (M + m.length) + (1 : Int32) = nI (M + (m.length + 1)) := by rw [← Nat.add_assoc, nI_succ]
  obtain ⟨q1, t1⟩ := mq_p a b hq
  refine iv_221_38 ?_
  rw [e25, zz_ix (by omega), e2, h26, h28]
  refine ⟨vp_in_nI (by omega) (by omega), vp_in_nI (by omega) (by omega), iv_221_14 ⟨fun c => absurd c (by decide), fun _ => ?_⟩⟩
  exact ih _ hi q1 ⟨by show S.length + (m.length + 1) ≤ i + 1; omega, hv.2.1, hv.2.2⟩ (t1.1.trans h22) hK
theorem mq_hwait (hs0 : s ≤ 160) (hM : M ≤ 1000) (h19 : V 105 19 = nI s) (hxy : ∀ j, j < s → y j = (V 116 j).toInt8.toInt32 ∧ zb (V 116 j) 255) (hT : tr_T y s F tk nb pl P) : ∀ (i : Nat) (x : pp_X) (c : Nat) (mn : Bool) (r : pp_r) (W : aa_V), i + 1 ≤ F → mq V M x W → mq_i x i → 1 ≤ c ∧ c ≤ 10 → ¬ (c = 1 ∨ c = 4 ∨ c = 10) → W 105 22 = nI (P (i + 1)) → mq_K V M F tk P K r → mq_P G L xs l d M F tk pl P V K 0 (i + 1) (c :: x.1, x.2.1, x.2.2) mn r → vp_in (W 105 24) 200 ∧ ab_J G (ac_ST L xs) l (d + 4) 221 528 [some (.ref 105), some (.int (if mn = true then 1 else 0)), none] [] ac_SK (aa_up (aa_up W 121 (W 105 24).toNatClampNeg (nI c)) 105 24 (W 105 24 + 1)) ac_SK K := by
  have hF := hT.1
  have nxt : ∀ i, i ≤ F → tk i ≠ 256 → tk i ≠ 257 → i + 1 ≤ F := fun i hi a b => mq_F hT hi a b
  intro i x c mn r W hi hq hv hc hn h22 hK ih
  have e24 : W 105 24 = nI x.1.length := hq.2.1
  have hl : x.1.length + x.2.1.length ≤ i := hv.1
  obtain ⟨q1, t1⟩ := mq_a c (V := V) (M := M) (S := x.1) (m := x.2.1) (o := x.2.2) hq
  rw [e24, zz_ix (by omega), show nI x.1.length + (1 : Int32) = nI (x.1.length + 1) by rw [nI_succ]]
  refine ⟨vp_in_nI (by omega) (by omega), iv_221_528 (iv_221_12 ?_)⟩
  refine ih _ hi q1 ⟨by show (c :: x.1).length + x.2.1.length ≤ i + 1; rw [List.length_cons]; omega, ?_, fun a ha => ?_⟩ (t1.1.trans h22) hK
  · show (if c = 1 ∨ c = 4 ∨ c = 10 then 1 else 0) + mq_o x.1 = x.2.2
    rw [if_neg hn, Nat.zero_add]
    exact hv.2.1
  · rcases List.mem_cons.mp ha with q | q
    · rw [q]; exact hc
    · exact hv.2.2 a q
theorem mq_hwork (hs0 : s ≤ 160) (hM : M ≤ 1000) (h19 : V 105 19 = nI s) (hxy : ∀ j, j < s → y j = (V 116 j).toInt8.toInt32 ∧ zb (V 116 j) 255) (hT : tr_T y s F tk nb pl P) : ∀ (k i : Nat) (x : pp_X) (W : aa_V) (K' : aa_K), 2 ≤ k → k ≤ 10 → i ≤ F → mq V M x W → mq_i x i → mq_x tk pl P 2 i W → (∀ W', mq V M (pp_W k x) W' → mq_i (pp_W k x) i → mq_x tk pl P 2 i W' → K' none W') → ab_E G (ac_ST L xs) l (d + 3) ac_SK 220 [.ref 105, .int (nI k)] W K' := by
  have hF := hT.1
  have nxt : ∀ i, i ≤ F → tk i ≠ 256 → tk i ≠ 257 → i + 1 ≤ F := fun i hi a b => mq_F hT hi a b
  intro k i x W K' h1 h2 hi hq hv hx h
  exact tq_220 h1 h2 hM (by omega) x.1 x.2.1 x.2.2 W hq hv (fun W' a b => h W' a (mq_iw h1 hv) (mq_kp hx b))
theorem mq_hop (hs0 : s ≤ 160) (hM : M ≤ 1000) (h19 : V 105 19 = nI s) (hxy : ∀ j, j < s → y j = (V 116 j).toInt8.toInt32 ∧ zb (V 116 j) 255) (hT : tr_T y s F tk nb pl P) : ∀ (i : Nat) (S : List Nat) (m : List pp_S) (o c : Nat) (mn mn' : Bool) (r : pp_r) (W' : aa_V), i ≤ F → pp_op (tk i) mn c mn' → mq V M (S, m, o) W' → mq_i (S, m, o) i → mq_x tk pl P 2 i W' → mq_K V M F tk P K r → (o < 5 → mq_P G L xs l d M F tk pl P V K 0 (i + 1) (c :: S, m, o + 1) mn' r) → (o = 5 → r = .inr (pl i)) → o ≤ 5 → ab_J G (ac_ST L xs) l (d + 4) 221 87 [some (.ref 105), none, some (.int 0)] [] ac_SK W' ac_SK K := by
  have hF := hT.1
  have nxt : ∀ i, i ≤ F → tk i ≠ 256 → tk i ≠ 257 → i + 1 ≤ F := fun i hi a b => mq_F hT hi a b
  intro i S m o c mn mn' r W' hi hop hq hv hx hK ih hr ho
  have e24 : W' 105 24 = nI S.length := hq.2.1
  have e23 : W' 105 23 = nI o := hq.2.2.2.2.2
  have hl : S.length + m.length ≤ i := hv.1
  refine iv_221_87 ⟨fun z => ?_, fun z => ?_⟩
  · rw [e23, show (5 : Int32) = nI 5 from rfl] at z
    have := hr ((nI_k (by omega) (by omega)).mp z)
    rw [this] at hK
    exact hK W' hq.1 hx.2.1
  · have h5 : o < 5 := by
      rcases Nat.lt_or_ge o 5 with q | q
      · exact q
      · exact absurd (by rw [e23, show o = 5 by omega]; rfl) z
    have hn : tk i ≠ 256 ∧ tk i ≠ 257 ∧ tm_k (tk i) ≠ -1 := by
      rcases hop with q | q | q <;> rw [q.1] <;> decide
    have hi1 := nxt i hi hn.1 hn.2.1
    have h22 := hx.2.2 hn.2.2
    obtain ⟨q1, t1⟩ := mq_c (o + 1) hq
    obtain ⟨q2, t2⟩ := mq_a c q1
    have c10 : c ≤ 10 ∧ (c = 1 ∨ c = 4 ∨ c = 10) := by
      rcases hop with q | q | q
      · have := q.2.1; omega
      · have := q.2.1; omega
      · have := q.2.2.1; omega
    have fin := ih h5 _ hi1 q2 ⟨by show (c :: S).length + m.length ≤ i + 1; rw [List.length_cons]; omega, by show (if c = 1 ∨ c = 4 ∨ c = 10 then 1 else 0) + mq_o S = o + 1; rw [if_pos c10.2]; have : mq_o S = o := hv.2.1; omega, fun a ha => by
      rcases List.mem_cons.mp ha with q | q
      · rw [q]; exact ⟨by have := c10.2; omega, c10.1⟩
      · exact hv.2.2 a q⟩ ((mq_tt t1 t2).1.trans h22) hK
    rw [e24, zz_ix (by omega), show nI S.length + (1 : Int32) = nI (S.length + 1) by rw [nI_succ], e23, show nI o + (1 : Int32) = nI (o + 1) by rw [nI_succ], hx.1]
    have vv : vp_in (nI S.length) 200 := vp_in_nI (by omega) (by omega)
    clear ih hr q1 q2 t1 t2 hq hv
    rcases hop with ⟨ek, ec, em⟩ | ⟨ek, ec, em⟩ | ⟨ek, _, ec, em⟩
    · rw [ek, show tm_k 40 = 40 by decide]
      subst ec em
      exact ⟨fun _ => ⟨vv, fun z => absurd z (by decide), fun _ => fin⟩, fun z => absurd rfl z⟩
    · rw [ek, show tm_k 45 = 45 by decide]
      subst ec em
      exact ⟨fun z => absurd z (by decide), fun _ => ⟨fun _ => ⟨vv, fun _ => fin, fun z => absurd rfl z⟩, fun z => absurd rfl z⟩⟩
    · rw [ek, show tm_k 310 = 5 by decide]
      subst ec em
      exact ⟨fun z => absurd z (by decide), fun _ => ⟨fun z => absurd z (by decide), fun _ => ⟨vv, fun z => absurd z (by decide), fun _ => fin⟩⟩⟩
theorem mq_c_num (hs0 : s ≤ 160) (hM : M ≤ 1000) (h19 : V 105 19 = nI s) (hxy : ∀ j, j < s → y j = (V 116 j).toInt8.toInt32 ∧ zb (V 116 j) 255) (hT : tr_T y s F tk nb pl P) : ∀ (i : Nat) (S : List Nat) (m : List pp_S) (o : Nat) (mn : Bool) (r : pp_r), (tk i = 258) → (mq_P G L xs l d M F tk pl P V K 1 (i + 1) (S, (0, nb i) :: m, o) false r) → mq_P G L xs l d M F tk pl P V K 0 i (S, m, o) mn r := by
  have hF := hT.1
  have nxt : ∀ i, i ≤ F → tk i ≠ 256 → tk i ≠ 257 → i + 1 ≤ F := fun i hi a b => mq_F hT hi a b
  have put := mq_hput (G := G) (L := L) (xs := xs) (l := l) (d := d) (K := K) hs0 hM h19 hxy hT
  intro i S m o mn r hk ih W hi hq hv hx hK
  refine iv_221_14 ⟨fun _ => mq_r hs0 h19 hxy hT hi hq hx (fun W' a b c e => ?_), fun z => absurd rfl z⟩
  have b1 := b.1
  rw [hk] at b1
  exact ⟨fun _ => put i S m o mn r 0 (nb i) W' (nxt i hi (by rw [hk]; decide) (by rw [hk]; decide)) a hv (b.2.2 (by rw [hk]; decide)) (by rw [b1]; decide) (c hk) hK ih, fun z => absurd (b1.trans (by decide)) z⟩
theorem mq_c_nam (hs0 : s ≤ 160) (hM : M ≤ 1000) (h19 : V 105 19 = nI s) (hxy : ∀ j, j < s → y j = (V 116 j).toInt8.toInt32 ∧ zb (V 116 j) 255) (hT : tr_T y s F tk nb pl P) : ∀ (i : Nat) (S : List Nat) (m : List pp_S) (o : Nat) (mn : Bool) (r : pp_r), (¬ tk i < 300) → (¬ 305 < tk i) → (mq_P G L xs l d M F tk pl P V K 1 (i + 1) (S, (1, tk i - 300) :: m, o) false r) → mq_P G L xs l d M F tk pl P V K 0 i (S, m, o) mn r := by
  have hF := hT.1
  have nxt : ∀ i, i ≤ F → tk i ≠ 256 → tk i ≠ 257 → i + 1 ≤ F := fun i hi a b => mq_F hT hi a b
  have put := mq_hput (G := G) (L := L) (xs := xs) (l := l) (d := d) (K := K) hs0 hM h19 hxy hT
  intro i S m o mn r h1 h2 ih W hi hq hv hx hK
  refine iv_221_14 ⟨fun _ => mq_r hs0 h19 hxy hT hi hq hx (fun W' a b c e => ?_), fun z => absurd rfl z⟩
  have hk := tm_k2 h1 h2
  have b1 := b.1
  rw [hk] at b1
  refine ⟨fun z => absurd (b1.symm.trans z) (by decide), fun _ => ⟨fun _ => put i S m o mn r 1 (tk i - 300) W' (nxt i hi (fun q => h1 (by rw [q]; decide)) (fun q => h1 (by rw [q]; decide))) a hv (b.2.2 (by rw [hk]; decide)) (by rw [b1]; decide) (e h1 h2) hK ih, fun z => absurd b1 z⟩⟩
theorem mq_c_opn (hs0 : s ≤ 160) (hM : M ≤ 1000) (h19 : V 105 19 = nI s) (hxy : ∀ j, j < s → y j = (V 116 j).toInt8.toInt32 ∧ zb (V 116 j) 255) (hT : tr_T y s F tk nb pl P) : ∀ (i : Nat) (S : List Nat) (m : List pp_S) (o : Nat) (mn : Bool) (r : pp_r) (c : Nat) (mn' : Bool), (pp_op (tk i) mn c mn') → (o < 5) → (mq_P G L xs l d M F tk pl P V K 0 (i + 1) (c :: S, m, o + 1) mn' r) → mq_P G L xs l d M F tk pl P V K 0 i (S, m, o) mn r := by
  have hF := hT.1
  have nxt : ∀ i, i ≤ F → tk i ≠ 256 → tk i ≠ 257 → i + 1 ≤ F := fun i hi a b => mq_F hT hi a b
  have op := mq_hop (G := G) (L := L) (xs := xs) (l := l) (d := d) (K := K) hs0 hM h19 hxy hT
  intro i S m o mn r c mn' hop h5 ih W hi hq hv hx hK
  refine iv_221_14 ⟨fun _ => mq_r hs0 h19 hxy hT hi hq hx (fun W' a b _ _ => ?_), fun z => absurd rfl z⟩
  have fin := op i S m o c mn mn' r W' hi hop a hv b hK (fun _ => ih) (fun z => by omega) (by omega)
  show (W' 105 26 = 1 → _) ∧ _
  rw [b.1]
  rcases hop with ⟨ek, _, _⟩ | ⟨ek, _, _⟩ | ⟨ek, em, _, _⟩
  · rw [ek]
    exact ⟨fun z => absurd z (by decide), fun _ => ⟨fun z => absurd z (by decide), fun _ => ⟨fun _ => fin, fun z => absurd (by decide) z⟩⟩⟩
  · rw [ek]
    exact ⟨fun z => absurd z (by decide), fun _ => ⟨fun z => absurd z (by decide), fun _ => ⟨fun z => absurd z (by decide), fun _ => ⟨fun _ => fin, fun z => absurd (by decide) z⟩⟩⟩⟩
  · rw [ek, em]
    exact ⟨fun z => absurd z (by decide), fun _ => ⟨fun z => absurd z (by decide), fun _ => ⟨fun z => absurd z (by decide), fun _ => ⟨fun z => absurd z (by decide), fun _ => ⟨fun _ => ⟨fun z => absurd z (by decide), fun _ => fin⟩, fun z => absurd (by decide) z⟩⟩⟩⟩⟩
theorem mq_c_ful (hs0 : s ≤ 160) (hM : M ≤ 1000) (h19 : V 105 19 = nI s) (hxy : ∀ j, j < s → y j = (V 116 j).toInt8.toInt32 ∧ zb (V 116 j) 255) (hT : tr_T y s F tk nb pl P) : ∀ (i : Nat) (S : List Nat) (m : List pp_S) (mn : Bool) (c : Nat) (mn' : Bool), (pp_op (tk i) mn c mn') → mq_P G L xs l d M F tk pl P V K 0 i (S, m, 5) mn (.inr (pl i)) := by
  have hF := hT.1
  have nxt : ∀ i, i ≤ F → tk i ≠ 256 → tk i ≠ 257 → i + 1 ≤ F := fun i hi a b => mq_F hT hi a b
  have op := mq_hop (G := G) (L := L) (xs := xs) (l := l) (d := d) (K := K) hs0 hM h19 hxy hT
  intro i S m mn c mn' hop W hi hq hv hx hK
  refine iv_221_14 ⟨fun _ => mq_r hs0 h19 hxy hT hi hq hx (fun W' a b _ _ => ?_), fun z => absurd rfl z⟩
  have fin := op i S m 5 c mn mn' _ W' hi hop a hv b hK (fun z => by omega) (fun _ => rfl) (by omega)
  show (W' 105 26 = 1 → _) ∧ _
  rw [b.1]
  rcases hop with ⟨ek, _, _⟩ | ⟨ek, _, _⟩ | ⟨ek, em, _, _⟩
  · rw [ek]
    exact ⟨fun z => absurd z (by decide), fun _ => ⟨fun z => absurd z (by decide), fun _ => ⟨fun _ => fin, fun z => absurd (by decide) z⟩⟩⟩
  · rw [ek]
    exact ⟨fun z => absurd z (by decide), fun _ => ⟨fun z => absurd z (by decide), fun _ => ⟨fun z => absurd z (by decide), fun _ => ⟨fun _ => fin, fun z => absurd (by decide) z⟩⟩⟩⟩
  · rw [ek, em]
    exact ⟨fun z => absurd z (by decide), fun _ => ⟨fun z => absurd z (by decide), fun _ => ⟨fun z => absurd z (by decide), fun _ => ⟨fun z => absurd z (by decide), fun _ => ⟨fun _ => ⟨fun z => absurd z (by decide), fun _ => fin⟩, fun z => absurd (by decide) z⟩⟩⟩⟩⟩
theorem mq_c_no (hs0 : s ≤ 160) (hM : M ≤ 1000) (h19 : V 105 19 = nI s) (hxy : ∀ j, j < s → y j = (V 116 j).toInt8.toInt32 ∧ zb (V 116 j) 255) (hT : tr_T y s F tk nb pl P) : ∀ (i : Nat) (S : List Nat) (m : List pp_S) (o : Nat) (mn : Bool), (tk i ≠ 258) → (tk i < 300 ∨ 305 < tk i) → (tk i ≠ 40) → (tk i ≠ 45) → (tk i = 310 → mn = false) → mq_P G L xs l d M F tk pl P V K 0 i (S, m, o) mn (.inr (pl i)) := by
  have hF := hT.1
  have nxt : ∀ i, i ≤ F → tk i ≠ 256 → tk i ≠ 257 → i + 1 ≤ F := fun i hi a b => mq_F hT hi a b
  intro i S m o mn n1 n2 n3 n4 n5 W hi hq hv hx hK
  refine iv_221_14 ⟨fun _ => mq_r hs0 h19 hxy hT hi hq hx (fun W' a b _ _ => ?_), fun z => absurd rfl z⟩
  have fin : ab_J G (ac_ST L xs) l (d + 4) 221 157 [none, none, none] [] ac_SK W' ac_SK K := iv_221_157 (hK W' a.1 b.2.1)
  have no : tm_k (tk i) ≠ 1 ∧ tm_k (tk i) ≠ 2 ∧ tm_k (tk i) ≠ 40 ∧ tm_k (tk i) ≠ 45 ∧ (tm_k (tk i) = 5 → tk i = 310) := by
    rcases tm_ks (tk i) with ⟨q, e⟩ | ⟨q, e⟩ | ⟨q, q2, e⟩ | ⟨q, e⟩ | ⟨q, e⟩ | ⟨q, e⟩ | ⟨q, e⟩ | ⟨q, e⟩ | ⟨q, e⟩ | ⟨q, e⟩ | ⟨q, e⟩ | ⟨q, e⟩ | ⟨q, e⟩ | ⟨q, e⟩ | ⟨q, e⟩ | ⟨q, e⟩ | e
    · rw [e]; exact ⟨by decide, by decide, by decide, by decide, fun z => absurd z (by decide)⟩
    · exact absurd q n1
    · rcases n2 with z | z
      · exact absurd z q
      · exact absurd z q2
    · rw [e]; exact ⟨by decide, by decide, by decide, by decide, fun z => absurd z (by decide)⟩
    · rw [e]; exact ⟨by decide, by decide, by decide, by decide, fun z => absurd z (by decide)⟩
    · rw [e]; exact ⟨by decide, by decide, by decide, by decide, fun _ => q⟩
    · rw [e]; exact ⟨by decide, by decide, by decide, by decide, fun z => absurd z (by decide)⟩
    · rw [e]; exact ⟨by decide, by decide, by decide, by decide, fun z => absurd z (by decide)⟩
    · exact absurd q n3
    · rw [e]; exact ⟨by decide, by decide, by decide, by decide, fun z => absurd z (by decide)⟩
    · rw [e]; exact ⟨by decide, by decide, by decide, by decide, fun z => absurd z (by decide)⟩
    · rw [e]; exact ⟨by decide, by decide, by decide, by decide, fun z => absurd z (by decide)⟩
    · exact absurd q n4
    · rw [e]; exact ⟨by decide, by decide, by decide, by decide, fun z => absurd z (by decide)⟩
    · rw [e]; exact ⟨by decide, by decide, by decide, by decide, fun z => absurd z (by decide)⟩
    · rw [e]; exact ⟨by decide, by decide, by decide, by decide, fun z => absurd z (by decide)⟩
    · rw [e]; exact ⟨by decide, by decide, by decide, by decide, fun z => absurd z (by decide)⟩
  show (W' 105 26 = 1 → _) ∧ _
  rw [b.1]
  refine ⟨fun z => absurd z no.1, fun _ => ⟨fun z => absurd z no.2.1, fun _ => ⟨fun z => absurd z no.2.2.1, fun _ => ⟨fun z => absurd z no.2.2.2.1, fun _ => ⟨fun z => ⟨fun _ => fin, fun z2 => ?_⟩, fun _ => fin⟩⟩⟩⟩⟩
  rw [n5 (no.2.2.2.2 z)] at z2
  exact absurd rfl z2
theorem mq_c_a (hs0 : s ≤ 160) (hM : M ≤ 1000) (h19 : V 105 19 = nI s) (hxy : ∀ j, j < s → y j = (V 116 j).toInt8.toInt32 ∧ zb (V 116 j) 255) (hT : tr_T y s F tk nb pl P) : ∀ (i : Nat) (x : pp_X) (mn : Bool) (r : pp_r), (mq_P G L xs l d M F tk pl P V K 2 i (pp_W 10 x) false r) → mq_P G L xs l d M F tk pl P V K 1 i x mn r := by
  have hF := hT.1
  have nxt : ∀ i, i ≤ F → tk i ≠ 256 → tk i ≠ 257 → i + 1 ≤ F := fun i hi a b => mq_F hT hi a b
  intro i x mn r ih W hi hq hv hx hK
  refine tq_220 (k := 10) (i := i) (by omega) (by omega) hM (by omega) x.1 x.2.1 x.2.2 W hq hv (fun W1 a t => ?_)
  refine mq_r hs0 h19 hxy hT hi a (t.1.trans hx) (fun W2 a2 b2 _ _ => ?_)
  exact ih W2 hi a2 (mq_iw (by omega) hv) b2 hK
theorem mq_c_cl (hs0 : s ≤ 160) (hM : M ≤ 1000) (h19 : V 105 19 = nI s) (hxy : ∀ j, j < s → y j = (V 116 j).toInt8.toInt32 ∧ zb (V 116 j) 255) (hT : tr_T y s F tk nb pl P) : ∀ (i : Nat) (x : pp_X) (mn : Bool) (c : Nat) (S : List Nat) (m : List pp_S) (o : Nat) (r : pp_r), (tk i = 41) → (pp_W 2 x = (c :: S, m, o)) → (mq_P G L xs l d M F tk pl P V K 1 (i + 1) (S, m, o - 1) false r) → mq_P G L xs l d M F tk pl P V K 2 i x mn r := by
  have hF := hT.1
  have nxt : ∀ i, i ≤ F → tk i ≠ 256 → tk i ≠ 257 → i + 1 ≤ F := fun i hi a b => mq_F hT hi a b
  have work := mq_hwork (G := G) (L := L) (xs := xs) (l := l) (d := d) hs0 hM h19 hxy hT
  intro i x mn c S m o r hk hw ih W hi hq hv hx hK
  have b1 := hx.1
  rw [hk] at b1
  have hi1 := nxt i hi (by rw [hk]; decide) (by rw [hk]; decide)
  refine iv_221_169 ⟨fun _ => work 2 i x W _ (by omega) (by omega) hi hq hv hx (fun W1 a v1 t => ?_), fun z => absurd (b1.trans (by decide)) z⟩
  rw [hw] at a v1
  have h22 := t.2.2 (by rw [hk]; decide)
  have e24 : W1 105 24 = nI (S.length + 1) := a.2.1
  have e23 : W1 105 23 = nI o := a.2.2.2.2.2
  have hl : (c :: S).length + m.length ≤ i := v1.1
  rw [List.length_cons] at hl
  have o1 : (if c = 1 ∨ c = 4 ∨ c = 10 then 1 else 0) + mq_o S = o := v1.2.1
  have c2 : c < 2 := pp_w_top (l := 2) x.1 x.2.1 x.2.2 (congrArg Prod.fst hw)
  have c1 : c = 1 := by have := (v1.2.2 c (List.mem_cons_self ..)).1; omega
  rw [if_pos (Or.inl c1)] at o1
  obtain ⟨q1, t1⟩ := mq_d a
  obtain ⟨q2, t2⟩ := mq_c (o - 1) q1
  refine ⟨fun z => ?_, fun _ => ?_⟩
  · rw [e24] at z
    exact absurd ((nI_k (m := 0) (by omega) (by omega)).mp z) (by omega)
  · rw [e24, e23, show nI (S.length + 1) - (1 : Int32) = nI S.length from nI_pre (by omega), show nI o - (1 : Int32) = nI (o - 1) from nI_pre (by omega)]
    exact ih _ hi1 q2 ⟨by show S.length + m.length ≤ i + 1; omega, by show mq_o S = o - 1; omega, fun b hb => v1.2.2 b (List.mem_cons_of_mem _ hb)⟩ ((mq_tt t1 t2).1.trans h22) hK
theorem mq_c_cl0 (hs0 : s ≤ 160) (hM : M ≤ 1000) (h19 : V 105 19 = nI s) (hxy : ∀ j, j < s → y j = (V 116 j).toInt8.toInt32 ∧ zb (V 116 j) 255) (hT : tr_T y s F tk nb pl P) : ∀ (i : Nat) (x : pp_X) (mn : Bool) (m : List pp_S) (o : Nat), (tk i = 41) → (pp_W 2 x = ([], m, o)) → mq_P G L xs l d M F tk pl P V K 2 i x mn (.inr (pl i)) := by
  have hF := hT.1
  have nxt : ∀ i, i ≤ F → tk i ≠ 256 → tk i ≠ 257 → i + 1 ≤ F := fun i hi a b => mq_F hT hi a b
  have work := mq_hwork (G := G) (L := L) (xs := xs) (l := l) (d := d) hs0 hM h19 hxy hT
  intro i x mn m o hk hw W hi hq hv hx hK
  have b1 := hx.1
  rw [hk] at b1
  refine iv_221_169 ⟨fun _ => work 2 i x W _ (by omega) (by omega) hi hq hv hx (fun W1 a v1 t => ?_), fun z => absurd (b1.trans (by decide)) z⟩
  rw [hw] at a
  exact ⟨fun _ => hK W1 a.1 t.2.1, fun z => absurd a.2.1 z⟩
theorem mq_c_se (hs0 : s ≤ 160) (hM : M ≤ 1000) (h19 : V 105 19 = nI s) (hxy : ∀ j, j < s → y j = (V 116 j).toInt8.toInt32 ∧ zb (V 116 j) 255) (hT : tr_T y s F tk nb pl P) : ∀ (i : Nat) (x : pp_X) (mn : Bool) (m : List pp_S) (o : Nat), (tk i = 59) → (pp_W 2 x = ([], m, o)) → mq_P G L xs l d M F tk pl P V K 2 i x mn (.inl (i, m)) := by
  have hF := hT.1
  have nxt : ∀ i, i ≤ F → tk i ≠ 256 → tk i ≠ 257 → i + 1 ≤ F := fun i hi a b => mq_F hT hi a b
  have work := mq_hwork (G := G) (L := L) (xs := xs) (l := l) (d := d) hs0 hM h19 hxy hT
  intro i x mn m o hk hw W hi hq hv hx hK
  have b1 := hx.1
  rw [hk] at b1
  refine iv_221_169 ⟨fun z => absurd (b1.symm.trans z) (by decide), fun _ => ⟨fun _ => work 2 i x W _ (by omega) (by omega) hi hq hv hx (fun W1 a v1 t => ?_), fun z => absurd (b1.trans (by decide)) z⟩⟩
  rw [hw] at a v1
  have hl : 0 + m.length ≤ i := v1.1
  exact ⟨fun _ => hK W1 o hi hk a (by show m.length ≤ i; omega) (t.2.2 (by rw [hk]; decide)), fun z => absurd a.2.1 z⟩
theorem mq_c_se0 (hs0 : s ≤ 160) (hM : M ≤ 1000) (h19 : V 105 19 = nI s) (hxy : ∀ j, j < s → y j = (V 116 j).toInt8.toInt32 ∧ zb (V 116 j) 255) (hT : tr_T y s F tk nb pl P) : ∀ (i : Nat) (x : pp_X) (mn : Bool) (c : Nat) (S : List Nat) (m : List pp_S) (o : Nat), (tk i = 59) → (pp_W 2 x = (c :: S, m, o)) → mq_P G L xs l d M F tk pl P V K 2 i x mn (.inr (pl i)) := by
  have hF := hT.1
  have nxt : ∀ i, i ≤ F → tk i ≠ 256 → tk i ≠ 257 → i + 1 ≤ F := fun i hi a b => mq_F hT hi a b
  have work := mq_hwork (G := G) (L := L) (xs := xs) (l := l) (d := d) hs0 hM h19 hxy hT
  intro i x mn c S m o hk hw W hi hq hv hx hK
  have b1 := hx.1
  rw [hk] at b1
  refine iv_221_169 ⟨fun z => absurd (b1.symm.trans z) (by decide), fun _ => ⟨fun _ => work 2 i x W _ (by omega) (by omega) hi hq hv hx (fun W1 a v1 t => ?_), fun z => absurd (b1.trans (by decide)) z⟩⟩
  rw [hw] at a v1
  have e24 : W1 105 24 = nI (S.length + 1) := a.2.1
  have hl : (c :: S).length + m.length ≤ i := v1.1
  rw [List.length_cons] at hl
  refine ⟨fun z => ?_, fun _ => hK W1 a.1 t.2.1⟩
  rw [e24] at z
  exact absurd ((nI_k (m := 0) (by omega) (by omega)).mp z) (by omega)
theorem mq_c_bin (hs0 : s ≤ 160) (hM : M ≤ 1000) (h19 : V 105 19 = nI s) (hxy : ∀ j, j < s → y j = (V 116 j).toInt8.toInt32 ∧ zb (V 116 j) 255) (hT : tr_T y s F tk nb pl P) : ∀ (i : Nat) (x : pp_X) (mn : Bool) (k : Nat) (c : Nat) (mn' : Bool) (S : List Nat) (m : List pp_S) (o : Nat) (r : pp_r), (pp_bn (tk i) k c mn') → (pp_W k x = (S, m, o)) → (mq_P G L xs l d M F tk pl P V K 0 (i + 1) (c :: S, m, o) mn' r) → mq_P G L xs l d M F tk pl P V K 2 i x mn r := by
  have hF := hT.1
  have nxt : ∀ i, i ≤ F → tk i ≠ 256 → tk i ≠ 257 → i + 1 ≤ F := fun i hi a b => mq_F hT hi a b
  have wait := mq_hwait (G := G) (L := L) (xs := xs) (l := l) (d := d) (K := K) hs0 hM h19 hxy hT
  have work := mq_hwork (G := G) (L := L) (xs := xs) (l := l) (d := d) hs0 hM h19 hxy hT
  intro i x mn k c mn' S m o r hb hw ih W hi hq hv hx hK
  rcases hb with ⟨hk, h1, h2, h3⟩ | ⟨hk, h1, h2, h3⟩ | ⟨hk, h1, h2, h3⟩ | ⟨hk, h1, h2, h3⟩ | ⟨hk, h1, h2, h3⟩ <;> subst h1 h2 h3
  all_goals
    have hi1 := nxt i hi (by rw [hk]; decide) (by rw [hk]; decide)
    have b1 := hx.1
    rw [hk] at b1
  · refine mq_315 b1 (Or.inl (by decide)) (iv_221_315 ⟨fun z => absurd (b1.symm.trans z) (by decide), fun _ => ⟨fun z => absurd (b1.symm.trans z) (by decide), fun _ => ⟨fun _ => work 9 i x W _ (by omega) (by omega) hi hq hv hx (fun W1 a v1 t => ?_), fun z => absurd (b1.trans (by decide)) z⟩⟩⟩)
    rw [hw] at a v1
    exact wait i (S, m, o) 9 false r W1 hi1 a v1 (by omega) (by omega) (t.2.2 (by rw [hk]; decide)) hK ih
  · refine mq_315 b1 (Or.inr (Or.inl (by decide))) (iv_221_315 ⟨fun z => absurd (b1.symm.trans z) (by decide), fun _ => ⟨fun z => absurd (b1.symm.trans z) (by decide), fun _ => ⟨fun z => absurd (b1.symm.trans z) (by decide), fun _ => ⟨fun _ => iv_221_379 (work 7 i x W _ (by omega) (by omega) hi hq hv hx (fun W1 a v1 t => ?_)), fun z => absurd (b1.trans (by decide)) z⟩⟩⟩⟩)
    rw [hw] at a v1
    have b2 := t.1
    rw [hk] at b2
    exact ⟨fun _ => wait i (S, m, o) 7 false r W1 hi1 a v1 (by omega) (by omega) (t.2.2 (by rw [hk]; decide)) hK ih, fun z => absurd (b2.trans (by decide)) z⟩
  · refine mq_315 b1 (Or.inr (Or.inr (Or.inl (by decide)))) (iv_221_315 ⟨fun z => absurd (b1.symm.trans z) (by decide), fun _ => ⟨fun z => absurd (b1.symm.trans z) (by decide), fun _ => ⟨fun z => absurd (b1.symm.trans z) (by decide), fun _ => ⟨fun z => absurd (b1.symm.trans z) (by decide), fun _ => ⟨fun _ => iv_221_379 (work 7 i x W _ (by omega) (by omega) hi hq hv hx (fun W1 a v1 t => ?_)), fun z => absurd (b1.trans (by decide)) z⟩⟩⟩⟩⟩)
    rw [hw] at a v1
    have b2 := t.1
    rw [hk] at b2
    exact ⟨fun z => absurd (b2.symm.trans z) (by decide), fun _ => wait i (S, m, o) 8 false r W1 hi1 a v1 (by omega) (by omega) (t.2.2 (by rw [hk]; decide)) hK ih⟩
  · refine mq_315 b1 (Or.inr (Or.inr (Or.inr (Or.inr (Or.inr (Or.inl (by decide))))))) (iv_221_315 ⟨fun _ => iv_221_331 ⟨fun z => absurd (b1.symm.trans z) (by decide), fun _ => ⟨fun z => absurd (b1.symm.trans z) (by decide), fun _ => ⟨fun z => absurd (b1.symm.trans z) (by decide), fun _ => ⟨fun z => absurd (b1.symm.trans z) (by decide), fun _ => ⟨fun z => absurd (b1.symm.trans z) (by decide), fun _ => ⟨fun z => absurd (b1.symm.trans z) (by decide), fun _ => work 2 i x W _ (by omega) (by omega) hi hq hv hx (fun W1 a v1 t => ?_)⟩⟩⟩⟩⟩⟩, fun z => absurd (b1.trans (by decide)) z⟩)
    rw [hw] at a v1
    have b2 := t.1
    rw [hk] at b2
    exact ⟨fun z => absurd (b2.symm.trans z) (by decide), fun _ => wait i (S, m, o) 2 true r W1 hi1 a v1 (by omega) (by omega) (t.2.2 (by rw [hk]; decide)) hK ih⟩
  · refine mq_315 b1 (Or.inr (Or.inr (Or.inr (Or.inr (Or.inr (Or.inr (by decide))))))) (iv_221_315 ⟨fun z => absurd (b1.symm.trans z) (by decide), fun _ => ⟨fun _ => iv_221_331 ⟨fun z => absurd (b1.symm.trans z) (by decide), fun _ => ⟨fun z => absurd (b1.symm.trans z) (by decide), fun _ => ⟨fun z => absurd (b1.symm.trans z) (by decide), fun _ => ⟨fun z => absurd (b1.symm.trans z) (by decide), fun _ => ⟨fun z => absurd (b1.symm.trans z) (by decide), fun _ => ⟨fun _ => work 3 i x W _ (by omega) (by omega) hi hq hv hx (fun W1 a v1 t => ?_), fun z => absurd (b1.trans (by decide)) z⟩⟩⟩⟩⟩⟩, fun z => absurd (b1.trans (by decide)) z⟩⟩)
    rw [hw] at a v1
    have b2 := t.1
    rw [hk] at b2
    exact ⟨fun _ => wait i (S, m, o) 3 true r W1 hi1 a v1 (by omega) (by omega) (t.2.2 (by rw [hk]; decide)) hK ih, fun z => absurd (b2.trans (by decide)) z⟩
theorem mq_c_cmp (hs0 : s ≤ 160) (hM : M ≤ 1000) (h19 : V 105 19 = nI s) (hxy : ∀ j, j < s → y j = (V 116 j).toInt8.toInt32 ∧ zb (V 116 j) 255) (hT : tr_T y s F tk nb pl P) : ∀ (i : Nat) (x : pp_X) (mn : Bool) (c : Nat) (S : List Nat) (m : List pp_S) (o : Nat) (r : pp_r), (pp_cm (tk i) c) → (pp_W 7 x = (S, m, o)) → (¬ pp_56 S) → (mq_P G L xs l d M F tk pl P V K 0 (i + 1) (c :: S, m, o) false r) → mq_P G L xs l d M F tk pl P V K 2 i x mn r := by
  have hF := hT.1
  have nxt : ∀ i, i ≤ F → tk i ≠ 256 → tk i ≠ 257 → i + 1 ≤ F := fun i hi a b => mq_F hT hi a b
  have wait := mq_hwait (G := G) (L := L) (xs := xs) (l := l) (d := d) (K := K) hs0 hM h19 hxy hT
  have work := mq_hwork (G := G) (L := L) (xs := xs) (l := l) (d := d) hs0 hM h19 hxy hT
  intro i x mn c S m o r hb hw h56 ih W hi hq hv hx hK
  have hi1 : i + 1 ≤ F := nxt i hi (by rcases hb with q | q <;> rw [q.1] <;> decide) (by rcases hb with q | q <;> rw [q.1] <;> decide)
  have e315 : ab_J G (ac_ST L xs) l (d + 4) 221 426 [some (.ref 105), some (.int 0), none] [] ac_SK W ac_SK K → ab_J G (ac_ST L xs) l (d + 4) 221 169 [some (.ref 105), none, none] [] ac_SK W ac_SK K := mq_426 hx.1 hb
  refine e315 (iv_221_426 (work 7 i x W _ (by omega) (by omega) hi hq hv hx (fun W1 a v1 t => ?_)))
  rw [hw] at a v1
  have h22 := t.2.2 (by rcases hb with q | q <;> rw [q.1] <;> decide)
  have go : ab_J G (ac_ST L xs) l (d + 4) 221 472 [some (.ref 105), some (.int 0), none] [] ac_SK W1 ac_SK K := by
    have b2 := t.1
    rcases hb with ⟨hk, h2⟩ | ⟨hk, h2⟩ <;> subst h2 <;> rw [hk] at b2
    · exact iv_221_472 ⟨fun _ => wait i (S, m, o) 5 false r W1 hi1 a v1 (by omega) (by omega) h22 hK ih, fun z => absurd (b2.trans (by decide)) z⟩
    · exact iv_221_472 ⟨fun z => absurd (b2.symm.trans z) (by decide), fun _ => wait i (S, m, o) 6 false r W1 hi1 a v1 (by omega) (by omega) h22 hK ih⟩
  have e24 : W1 105 24 = nI S.length := a.2.1
  have hl : S.length + m.length ≤ i := v1.1
  refine ⟨fun z => ?_, fun _ => go⟩
  rw [e24, show (0 : Int32) = nI 0 from rfl, zz_nlt (by omega) (by omega)] at z
  cases S with
  | nil => exact absurd z (by decide)
  | cons b S =>
    rw [e24, List.length_cons, show nI (S.length + 1) - (1 : Int32) = nI S.length from nI_pre (by omega)]
    rw [List.length_cons] at hl
    have e121 : W1 121 S.length = nI b := a.2.2.1.1
    have bb := v1.2.2 b (List.mem_cons_self ..)
    rw [zz_ix (by omega), e121]
    refine ⟨vp_in_nI (by omega) (by omega), fun q => absurd (Or.inl ((nI_k (m := 5) (by omega) (by omega)).mp q)) h56, fun _ => ⟨vp_in_nI (by omega) (by omega), fun q => absurd (Or.inr ((nI_k (m := 6) (by omega) (by omega)).mp q)) h56, fun _ => go⟩⟩
theorem mq_c_cmp0 (hs0 : s ≤ 160) (hM : M ≤ 1000) (h19 : V 105 19 = nI s) (hxy : ∀ j, j < s → y j = (V 116 j).toInt8.toInt32 ∧ zb (V 116 j) 255) (hT : tr_T y s F tk nb pl P) : ∀ (i : Nat) (x : pp_X) (mn : Bool) (c : Nat) (S : List Nat) (m : List pp_S) (o : Nat), (pp_cm (tk i) c) → (pp_W 7 x = (S, m, o)) → (pp_56 S) → mq_P G L xs l d M F tk pl P V K 2 i x mn (.inr (pl i)) := by
  have hF := hT.1
  have nxt : ∀ i, i ≤ F → tk i ≠ 256 → tk i ≠ 257 → i + 1 ≤ F := fun i hi a b => mq_F hT hi a b
  have work := mq_hwork (G := G) (L := L) (xs := xs) (l := l) (d := d) hs0 hM h19 hxy hT
  intro i x mn c S m o hb hw h56 W hi hq hv hx hK
  refine mq_426 hx.1 hb (iv_221_426 (work 7 i x W _ (by omega) (by omega) hi hq hv hx (fun W1 a v1 t => ?_)))
  rw [hw] at a v1
  have go : ab_J G (ac_ST L xs) l (d + 4) 221 470 [none, none, none] [] ac_SK W1 ac_SK K := iv_221_470 (hK W1 a.1 t.2.1)
  have e24 : W1 105 24 = nI S.length := a.2.1
  have hl : S.length + m.length ≤ i := v1.1
  cases S with
  | nil => exact absurd h56 (fun q => q)
  | cons b S =>
    rw [List.length_cons] at hl e24
    refine ⟨fun _ => ?_, fun z => absurd ?_ z⟩
    · rw [e24, show nI (S.length + 1) - (1 : Int32) = nI S.length from nI_pre (by omega)]
      have e121 : W1 121 S.length = nI b := a.2.2.1.1
      rw [zz_ix (by omega), e121]
      have h56 : b = 5 ∨ b = 6 := h56
      refine ⟨vp_in_nI (by omega) (by omega), fun _ => go, fun q => ⟨vp_in_nI (by omega) (by omega), fun _ => go, fun q2 => ?_⟩⟩
      rcases h56 with z | z
      · exact absurd (by rw [z]; rfl) q
      · exact absurd (by rw [z]; rfl) q2
    · rw [e24, show (0 : Int32) = nI 0 from rfl, zz_nlt (by omega) (by omega)]
      omega
theorem mq_c_oth (hs0 : s ≤ 160) (hM : M ≤ 1000) (h19 : V 105 19 = nI s) (hxy : ∀ j, j < s → y j = (V 116 j).toInt8.toInt32 ∧ zb (V 116 j) 255) (hT : tr_T y s F tk nb pl P) : ∀ (i : Nat) (x : pp_X) (mn : Bool), (tk i ≠ 41) → (tk i ≠ 59) → (tk i ≠ 42) → (tk i ≠ 43) → (tk i ≠ 45) → (tk i ≠ 60) → (tk i ≠ 61) → (tk i ≠ 308) → (tk i ≠ 309) → mq_P G L xs l d M F tk pl P V K 2 i x mn (.inr (pl i)) := by
  have hF := hT.1
  have nxt : ∀ i, i ≤ F → tk i ≠ 256 → tk i ≠ 257 → i + 1 ≤ F := fun i hi a b => mq_F hT hi a b
  intro i x mn n1 n2 n3 n4 n5 n6 n7 n8 n9 W hi hq hv hx hK
  have fin : K (some (.int 0)) W := hK W hq.1 hx.2.1
  have b1 := hx.1
  have no : tm_k (tk i) ≠ 41 ∧ tm_k (tk i) ≠ 59 ∧ tm_k (tk i) ≠ 42 ∧ tm_k (tk i) ≠ 43 ∧ tm_k (tk i) ≠ 45 ∧ tm_k (tk i) ≠ 60 ∧ tm_k (tk i) ≠ 61 ∧ tm_k (tk i) ≠ 3 ∧ tm_k (tk i) ≠ 4 := by
    rcases tm_ks (tk i) with ⟨q, e⟩ | ⟨q, e⟩ | ⟨q, q2, e⟩ | ⟨q, e⟩ | ⟨q, e⟩ | ⟨q, e⟩ | ⟨q, e⟩ | ⟨q, e⟩ | ⟨q, e⟩ | ⟨q, e⟩ | ⟨q, e⟩ | ⟨q, e⟩ | ⟨q, e⟩ | ⟨q, e⟩ | ⟨q, e⟩ | ⟨q, e⟩ | e
    · rw [e]; decide
    · rw [e]; decide
    · rw [e]; decide
    · exact absurd q n8
    · exact absurd q n9
    · rw [e]; decide
    · rw [e]; decide
    · rw [e]; decide
    · rw [e]; decide
    · exact absurd q n1
    · exact absurd q n2
    · exact absurd q n4
    · exact absurd q n5
    · exact absurd q n3
    · exact absurd q n6
    · exact absurd q n7
    · rw [e]; decide
  rw [← b1] at no
  obtain ⟨a1, a2, a3, a4, a5, a6, a7, a8, a9⟩ := no
  exact iv_221_169 ⟨fun z => absurd z a1, fun _ => ⟨fun z => absurd z a2, fun _ => ⟨fun z => absurd z a3, fun _ => ⟨fun z => absurd z a4, fun _ => ⟨fun z => absurd z a5, fun _ => ⟨fun z => absurd z a6, fun _ => ⟨fun z => absurd z a7, fun _ => ⟨fun z => absurd z a8, fun _ => ⟨fun z => absurd z a9, fun _ => fin⟩⟩⟩⟩⟩⟩⟩⟩⟩
theorem mq_cl (hs0 : s ≤ 160) (hM : M ≤ 1000) (h19 : V 105 19 = nI s) (hxy : ∀ j, j < s → y j = (V 116 j).toInt8.toInt32 ∧ zb (V 116 j) 255) (hT : tr_T y s F tk nb pl P) : pp_cls tk nb pl (mq_P G L xs l d M F tk pl P V K) :=
  ⟨mq_c_num hs0 hM h19 hxy hT, mq_c_nam hs0 hM h19 hxy hT, mq_c_opn hs0 hM h19 hxy hT, mq_c_ful hs0 hM h19 hxy hT, mq_c_no hs0 hM h19 hxy hT, mq_c_a hs0 hM h19 hxy hT, mq_c_cl hs0 hM h19 hxy hT, mq_c_cl0 hs0 hM h19 hxy hT, mq_c_se hs0 hM h19 hxy hT, mq_c_se0 hs0 hM h19 hxy hT, mq_c_bin hs0 hM h19 hxy hT, mq_c_cmp hs0 hM h19 hxy hT, mq_c_cmp0 hs0 hM h19 hxy hT, mq_c_oth hs0 hM h19 hxy hT⟩
end
