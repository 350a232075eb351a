/-! the reference reads a whole text -/
section
variable {G : ab_G} {L : Nat} {xs : Nat → Int32} {l : Launch} {d M s F : Nat} {tk nb pl y : Nat → Int32} {P : Nat → Nat}
theorem mt_221 {V : aa_V} {K : aa_K} {i : Nat} {m : List pp_S} {r : pp_r} (hs0 : s ≤ 160) (hM : M ≤ 1000) (h19 : V 105 19 = nI s) (hxy : ∀ j, j < s → y j = (V 116 j).toInt8.toInt32 ∧ zb (V 116 j) 255) (hT : tr_T y s F tk nb pl P) (hi : i ≤ F) (h25 : V 105 25 = nI (M + m.length)) (hm : mq_m M (V 117) (V 118) m) (hl : m.length ≤ i) (h22 : V 105 22 = nI (P i)) (hr : pp_mr tk nb pl 0 i ([], m, 0) true r) (hK : mq_K V M F tk P K r) : ab_E G (ac_ST L xs) l (d + 4) ac_SK 221 [.ref 105] V K := by
  refine iv_221_0 (iv_221_12 ?_)
  refine hr _ (mq_cl (G := G) (L := L) (xs := xs) (l := l) (d := d) (K := K) hs0 hM h19 hxy hT) _ hi ⟨mq_vu (mq_vu ⟨fun _ _ _ _ _ => rfl, fun _ _ => rfl, fun _ _ => ⟨rfl, rfl⟩⟩ (by omega)) (by omega), ?_, trivial, ?_, ?_, ?_⟩ ⟨by show 0 + m.length ≤ i; omega, rfl, fun c hc => by cases hc⟩ ?_ hK
  · rw [aa_up_o (by decide), aa_up_s]; rfl
  · rw [aa_up_o (by decide), aa_up_o (by decide)]; exact h25
  · rw [aa_up_c (by decide), aa_up_c (by decide), aa_up_c (by decide), aa_up_c (by decide)]; exact hm
  · rw [aa_up_s]; rfl
  · show aa_up (aa_up V 105 24 0) 105 23 0 105 22 = nI (P i)
    rw [aa_up_o (by decide), aa_up_o (by decide)]; exact h22
/-- off what the reading of a text writes -/
def mt_v (T M : Nat) (V W : aa_V) : Prop := (∀ c, c ≠ 105 → c ≠ 117 → c ≠ 118 → c ≠ 119 → c ≠ 120 → c ≠ 121 → W c = V c) ∧ (∀ a, ¬ (22 ≤ a ∧ a ≤ 28) → W 105 a = V 105 a) ∧ (∀ j, j < M → W 117 j = V 117 j ∧ W 118 j = V 118 j) ∧ ∀ j, j ≠ 2 * T → j ≠ 2 * T + 1 → W 119 j = V 119 j ∧ W 120 j = V 120 j
theorem mt_t {T M : Nat} {U V W : aa_V} (h : mt_v T M U V) (k : mt_v T M V W) : mt_v T M U W := ⟨fun c a1 a2 a3 a4 a5 a6 => (k.1 c a1 a2 a3 a4 a5 a6).trans (h.1 c a1 a2 a3 a4 a5 a6), fun a ha => (k.2.1 a ha).trans (h.2.1 a ha), fun j hj => ⟨(k.2.2.1 j hj).1.trans (h.2.2.1 j hj).1, (k.2.2.1 j hj).2.trans (h.2.2.1 j hj).2⟩, fun j a b => ⟨(k.2.2.2 j a b).1.trans (h.2.2.2 j a b).1, (k.2.2.2 j a b).2.trans (h.2.2.2 j a b).2⟩⟩
theorem mt_e {T M : Nat} {V W : aa_V} (h : tm_e V W) : mt_v T M V W := ⟨fun c a1 _ _ _ _ _ => h.1 c a1, fun a ha => h.2 a (by omega) (by omega) (by omega) (by omega), fun j _ => ⟨by rw [h.1 117 (by decide)], by rw [h.1 118 (by decide)]⟩, fun j _ _ => ⟨by rw [h.1 119 (by decide)], by rw [h.1 120 (by decide)]⟩⟩
theorem mt_q {T M : Nat} {V W : aa_V} (h : mq_v V W M) : mt_v T M V W := ⟨fun c a1 a2 a3 _ _ a6 => h.1 c a1 a2 a3 a6, h.2.1, h.2.2, fun j _ _ => ⟨by rw [h.1 119 (by decide) (by decide) (by decide) (by decide)], by rw [h.1 120 (by decide) (by decide) (by decide) (by decide)]⟩⟩
theorem mt_u {T M c j : Nat} {V : aa_V} {x : Int32} (hc : c = 119 ∨ c = 120) (hj : j = 2 * T ∨ j = 2 * T + 1) : mt_v T M V (aa_up V c j x) := by
  refine ⟨fun b _ _ _ a4 a5 _ => aa_up_c (by omega), fun a _ => by rw [aa_up_c (by omega)], fun k _ => ⟨by rw [aa_up_c (by omega)], by rw [aa_up_c (by omega)]⟩, fun k k1 k2 => ⟨?_, ?_⟩⟩
  · rw [aa_up_at, if_neg (fun q => by omega)]
  · rw [aa_up_at, if_neg (fun q => by omega)]
theorem mt_2 {V : aa_V} {a b : Nat} {x : Int32} (h : aa_up V 105 22 x = V) : V 105 22 = x := by
  rw [← h, aa_up_s]
theorem mt_6 {k : Int32} : tm_k k = 6 ↔ k = 306 := by
  refine ⟨fun z => ?_, fun z => by rw [z]; decide⟩
  rcases tm_ks k with ⟨q, e⟩ | ⟨q, e⟩ | ⟨q, q2, e⟩ | ⟨q, e⟩ | ⟨q, e⟩ | ⟨q, e⟩ | ⟨q, e⟩ | ⟨q, e⟩ | ⟨q, e⟩ | ⟨q, e⟩ | ⟨q, e⟩ | ⟨q, e⟩ | ⟨q, e⟩ | ⟨q, e⟩ | ⟨q, e⟩ | ⟨q, e⟩ | e <;> first | exact q | (rw [e] at z; exact absurd z (by decide))
theorem mt_7 {k : Int32} : tm_k k = 7 ↔ k = 307 := by
  refine ⟨fun z => ?_, fun z => by rw [z]; decide⟩
  rcases tm_ks k with ⟨q, e⟩ | ⟨q, e⟩ | ⟨q, q2, e⟩ | ⟨q, e⟩ | ⟨q, e⟩ | ⟨q, e⟩ | ⟨q, e⟩ | ⟨q, e⟩ | ⟨q, e⟩ | ⟨q, e⟩ | ⟨q, e⟩ | ⟨q, e⟩ | ⟨q, e⟩ | ⟨q, e⟩ | ⟨q, e⟩ | ⟨q, e⟩ | e <;> first | (rw [e] at z; exact absurd z (by decide)) | exact q
theorem mt_0 {k : Int32} : tm_k k = 0 ↔ k = 256 := by
  refine ⟨fun z => ?_, fun z => by rw [z]; decide⟩
  rcases tm_ks k with ⟨q, e⟩ | ⟨q, e⟩ | ⟨q, q2, e⟩ | ⟨q, e⟩ | ⟨q, e⟩ | ⟨q, e⟩ | ⟨q, e⟩ | ⟨q, e⟩ | ⟨q, e⟩ | ⟨q, e⟩ | ⟨q, e⟩ | ⟨q, e⟩ | ⟨q, e⟩ | ⟨q, e⟩ | ⟨q, e⟩ | ⟨q, e⟩ | e <;> first | (rw [e] at z; exact absurd z (by decide)) | exact q
/-- one token, wherever the stack is -/
theorem mt_r {V : aa_V} {K : aa_K} {i T : Nat} (hs0 : s ≤ 160) (h19 : V 105 19 = nI s) (hxy : ∀ j, j < s → y j = (V 116 j).toInt8.toInt32 ∧ zb (V 116 j) 255) (hT : tr_T y s F tk nb pl P) (hi : i ≤ F) (h22 : V 105 22 = nI (P i)) (h : ∀ W, tm_e V W → W 105 26 = tm_k (tk i) → W 105 27 = pl i → (tm_k (tk i) ≠ -1 → W 105 22 = nI (P (i + 1))) → K none W) : ab_E G (ac_ST L xs) l (d + 3) ac_SK 217 [.ref 105] V K := by
  obtain ⟨f, ef, ht⟩ := hT.2.2.2.2 i (by omega)
  exact tm_217 hs0 h22 h19 hxy ht (fun W' a b c e _ _ => h W' a c (by rw [ef]; exact b) e)
theorem mt_222 {V : aa_V} {K : aa_K} {T : Nat} (hs0 : s ≤ 160) (hM : M ≤ 1000) (hT5 : T ≤ 5) (h20 : V 105 20 = nI T) (h25 : V 105 25 = nI M) (h19 : V 105 19 = nI s) (hxy : ∀ j, j < s → y j = (V 116 j).toInt8.toInt32 ∧ zb (V 116 j) 255) (hT : tr_T y s F tk nb pl P)
    (h : (∃ p, tr_B tk nb pl p ∧ ∀ W, mt_v T M V W → W 105 27 = p → K (some (.int 0)) W) ∨ (∃ m m2, tr_G tk nb pl m m2 ∧ ∀ W, mt_v T M V W → mq_m M (W 117) (W 118) m2 → W 105 25 = nI (M + m2.length) → W 119 (2 * T) = nI M → W 120 (2 * T) = nI (M + m.length) → W 119 (2 * T + 1) = nI (M + m.length) → W 120 (2 * T + 1) = nI (M + m2.length) → K (some (.int 1)) W)) : ab_E G (ac_ST L xs) l (d + 5) ac_SK 222 [.ref 105] V K := by
  have nxt : ∀ i, i ≤ F → tk i ≠ 256 → tk i ≠ 257 → i + 1 ≤ F := fun i hi a b => mq_F hT hi a b
  have ixa : (2 : Int32) * nI T + 0 = nI (2 * T) := (show ∀ T, T < 6 → (2 : Int32) * nI T + 0 = nI (2 * T) by decide +kernel) T (by omega)
  have ixb : (2 : Int32) * nI T + 1 = nI (2 * T + 1) := (show ∀ T, T < 6 → (2 : Int32) * nI T + 1 = nI (2 * T + 1) by decide +kernel) T (by omega)
  have mv0 : mt_v T M V (aa_up V 105 22 0) := mt_e (tm_eu ⟨fun _ _ => rfl, fun _ _ _ _ _ => rfl⟩ (by omega))
  have P0 : P 0 = 0 := hT.2.2.2.1
  refine iv_222_0 (iv_222_7 ⟨fun _ => ?_, fun z => absurd (by decide) z⟩)
  refine mt_r (d := d + 1) (i := 0) (T := T) hs0 (by rw [aa_up_o (by decide)]; exact h19) (by rw [aa_up_c (by decide)]; exact hxy) hT (Nat.zero_le _) (by rw [aa_up_s, P0]; rfl) (fun W1 a1 b1 c1 d1 => ?_)
  have v1 : mt_v T M V W1 := mt_t mv0 (mt_e a1)
  show (W1 105 26 = 6 + 0 → _) ∧ _
  refine ⟨fun z => ?_, fun z => ?_⟩
  · have k0 : tk 0 = 306 := mt_6.mp (b1.symm.trans (z.trans (by decide)))
    have f1 : 1 ≤ F := nxt 0 (Nat.zero_le _) (by rw [k0]; decide) (by rw [k0]; decide)
    have e20 : W1 105 20 = nI T := (v1.2.1 20 (by omega)).trans h20
    have e25 : W1 105 25 = nI M := by
      rw [a1.2 25 (by decide) (by decide) (by decide) (by decide), aa_up_o (by decide)]; exact h25
    rw [e20, ixa, e25, zz_ix (by omega)]
    refine ⟨vp_in_nI (by omega) (by omega), ?_⟩
    have v2 : mt_v T M V (aa_up W1 119 (2 * T) (nI M)) := mt_t v1 (mt_u (Or.inl rfl) (Or.inl rfl))
    have g119 : aa_up W1 119 (2 * T) (nI M) 119 (2 * T) = nI M := aa_up_s
    have g25 : aa_up W1 119 (2 * T) (nI M) 105 25 = nI (M + ([] : List pp_S).length) := by rw [aa_up_c (by decide)]; exact e25
    have g22 : aa_up W1 119 (2 * T) (nI M) 105 22 = nI (P 1) := by rw [aa_up_c (by decide)]; exact d1 (by rw [k0]; decide)
    generalize aa_up W1 119 (2 * T) (nI M) = B1 at v2 g119 g25 g22
    have g19 : B1 105 19 = nI s := (v2.2.1 19 (by omega)).trans h19
    have g116 : B1 116 = V 116 := v2.1 116 (by decide) (by decide) (by decide) (by decide) (by decide) (by decide)
    -- behind the price
    have rest : ∀ (i : Nat) (m : List pp_S) (W : aa_V) (o : Nat), i ≤ F → tk i = 59 → mq B1 M ([], m, o) W → m.length ≤ i → W 105 22 = nI (P (i + 1)) → ((tk (i + 1) ≠ 307 ∧ ∀ W, mt_v T M V W → W 105 27 = pl (i + 1) → K (some (.int 0)) W) ∨ (tk (i + 1) = 307 ∧ ((∃ p, pp_mr tk nb pl 0 (i + 2) ([], m, 0) true (.inr p) ∧ ∀ W, mt_v T M V W → W 105 27 = p → K (some (.int 0)) W) ∨ (∃ i2 m2, pp_mr tk nb pl 0 (i + 2) ([], m, 0) true (.inl (i2, m2)) ∧ ((tk (i2 + 1) ≠ 256 ∧ ∀ W, mt_v T M V W → W 105 27 = pl (i2 + 1) → K (some (.int 0)) W) ∨ (tk (i2 + 1) = 256 ∧ ∀ W, mt_v T M V W → mq_m M (W 117) (W 118) m2 → W 105 25 = nI (M + m2.length) → W 119 (2 * T) = nI M → W 120 (2 * T) = nI (M + m.length) → W 119 (2 * T + 1) = nI (M + m.length) → W 120 (2 * T + 1) = nI (M + m2.length) → K (some (.int 1)) W)))))) → m.length ≤ i + 2 → ((1 : Int32) = 0 → K (some (.int 0)) W) ∧ (¬ (1 : Int32) = 0 → vp_in ((2 : Int32) * (W 105 20) + 0) 12 ∧ ab_J G (ac_ST L xs) l (d + 5) 222 7 [some (.ref 105), some (.int 1)] [] ac_SK (aa_up W 120 ((2 : Int32) * (W 105 20) + 0).toNatClampNeg (W 105 25)) ac_SK K) := by
      intro i m W o hi k59 hq hml h22 hR hmi
      refine ⟨fun z => absurd z (by decide), fun _ => ?_⟩
      have w20 : W 105 20 = nI T := (hq.1.2.1 20 (by omega)).trans ((v2.2.1 20 (by omega)).trans h20)
      rw [w20, ixa, hq.2.2.2.1, zz_ix (by omega)]
      refine ⟨vp_in_nI (by omega) (by omega), ?_⟩
      have hi1 := nxt i hi (by rw [k59]; decide) (by rw [k59]; decide)
      have v3 : mt_v T M V (aa_up W 120 (2 * T) (nI (M + m.length))) := mt_t v2 (mt_t (mt_q hq.1) (mt_u (Or.inr rfl) (Or.inl rfl)))
      have q120 : aa_up W 120 (2 * T) (nI (M + m.length)) 120 (2 * T) = nI (M + m.length) := aa_up_s
      have q119 : aa_up W 120 (2 * T) (nI (M + m.length)) 119 (2 * T) = nI M := by
        rw [aa_up_c (by decide), hq.1.1 119 (by decide) (by decide) (by decide) (by decide)]; exact g119
      have q25 : aa_up W 120 (2 * T) (nI (M + m.length)) 105 25 = nI (M + m.length) := by rw [aa_up_c (by decide)]; exact hq.2.2.2.1
      have q22 : aa_up W 120 (2 * T) (nI (M + m.length)) 105 22 = nI (P (i + 1)) := by rw [aa_up_c (by decide)]; exact h22
      have qm : mq_m M (aa_up W 120 (2 * T) (nI (M + m.length)) 117) (aa_up W 120 (2 * T) (nI (M + m.length)) 118) m := by
        rw [aa_up_c (by decide), aa_up_c (by decide)]; exact hq.2.2.2.2.1
      show ab_J G (ac_ST L xs) l (d + 5) 222 7 [some (.ref 105), some (.int 1)] [] ac_SK (aa_up W 120 (2 * T) (nI (M + m.length))) ac_SK K
      generalize aa_up W 120 (2 * T) (nI (M + m.length)) = B2 at v3 q120 q119 q25 q22 qm
      have q19 : B2 105 19 = nI s := (v3.2.1 19 (by omega)).trans h19
      have q116 : B2 116 = V 116 := v3.1 116 (by decide) (by decide) (by decide) (by decide) (by decide) (by decide)
      refine iv_222_7 ⟨fun _ => ?_, fun z => absurd (by decide) z⟩
      refine mt_r (d := d + 1) (i := i + 1) (T := T) hs0 q19 (by rw [q116]; exact hxy) hT hi1 q22 (fun W3 a3 b3 c3 d3 => ?_)
      have v4 : mt_v T M V W3 := mt_t v3 (mt_e a3)
      show (W3 105 26 = 6 + 1 → _) ∧ _
      refine ⟨fun z => ?_, fun z => ?_⟩
      · have k7 : tk (i + 1) = 307 := mt_7.mp (b3.symm.trans (z.trans (by decide)))
        have hi2 : i + 2 ≤ F := nxt (i + 1) hi1 (by rw [k7]; decide) (by rw [k7]; decide)
        have e20 : W3 105 20 = nI T := (v4.2.1 20 (by omega)).trans h20
        have e25 : W3 105 25 = nI (M + m.length) := by
          rw [a3.2 25 (by decide) (by decide) (by decide) (by decide)]; exact q25
        rw [e20, ixb, e25, zz_ix (by omega)]
        refine ⟨vp_in_nI (by omega) (by omega), ?_⟩
        have v5 : mt_v T M V (aa_up W3 119 (2 * T + 1) (nI (M + m.length))) := mt_t v4 (mt_u (Or.inl rfl) (Or.inr rfl))
        have r1 : aa_up W3 119 (2 * T + 1) (nI (M + m.length)) 119 (2 * T + 1) = nI (M + m.length) := aa_up_s
        have r2 : aa_up W3 119 (2 * T + 1) (nI (M + m.length)) 119 (2 * T) = nI M := by
          rw [aa_up_o (by omega), a3.1 119 (by decide)]; exact q119
        have r3 : aa_up W3 119 (2 * T + 1) (nI (M + m.length)) 120 (2 * T) = nI (M + m.length) := by
          rw [aa_up_c (by decide), a3.1 120 (by decide)]; exact q120
        have r25 : aa_up W3 119 (2 * T + 1) (nI (M + m.length)) 105 25 = nI (M + m.length) := by rw [aa_up_c (by decide)]; exact e25
        have r22 : aa_up W3 119 (2 * T + 1) (nI (M + m.length)) 105 22 = nI (P (i + 2)) := by rw [aa_up_c (by decide)]; exact d3 (by rw [k7]; decide)
        have rm : mq_m M (aa_up W3 119 (2 * T + 1) (nI (M + m.length)) 117) (aa_up W3 119 (2 * T + 1) (nI (M + m.length)) 118) m := by
          rw [aa_up_c (by decide), aa_up_c (by decide), a3.1 117 (by decide), a3.1 118 (by decide)]; exact qm
        generalize aa_up W3 119 (2 * T + 1) (nI (M + m.length)) = B3 at v5 r1 r2 r3 r25 r22 rm
        have r19 : B3 105 19 = nI s := (v5.2.1 19 (by omega)).trans h19
        have r116 : B3 116 = V 116 := v5.1 116 (by decide) (by decide) (by decide) (by decide) (by decide) (by decide)
        rcases hR with ⟨hR, _⟩ | ⟨_, hR⟩
        · exact absurd k7 hR
        rcases hR with ⟨p, hm, hK⟩ | ⟨i2, m2, hm, hR⟩
        · exact mt_221 (d := d) hs0 hM r19 (by rw [r116]; exact hxy) hT hi2 r25 rm hmi r22 hm (fun W4 a4 b4 => ⟨fun _ => hK W4 (mt_t v5 (mt_q a4)) b4, fun z => absurd rfl z⟩)
        · refine mt_221 (d := d) hs0 hM r19 (by rw [r116]; exact hxy) hT hi2 r25 rm hmi r22 hm (fun W4 o4 (l4 : i2 ≤ F) k4 a4 b4 (e4 : W4 105 22 = nI (P (i2 + 1))) => ⟨fun z => absurd z (by decide), fun _ => ?_⟩)
          have k4 : tk i2 = 59 := k4
          have w20 : W4 105 20 = nI T := (a4.1.2.1 20 (by omega)).trans ((v5.2.1 20 (by omega)).trans h20)
          have w25 : W4 105 25 = nI (M + m2.length) := a4.2.2.2.1
          rw [w20, ixb, w25, zz_ix (by omega)]
          refine ⟨vp_in_nI (by omega) (by omega), iv_222_7 ⟨fun z => absurd z (by decide), fun _ => ?_⟩⟩
          have v6 : mt_v T M V (aa_up W4 120 (2 * T + 1) (nI (M + m2.length))) := mt_t v5 (mt_t (mt_q a4.1) (mt_u (Or.inr rfl) (Or.inr rfl)))
          have i21 := nxt i2 l4 (by rw [k4]; decide) (by rw [k4]; decide)
          refine mt_r (d := d + 1) (i := i2 + 1) (T := T) hs0 ((v6.2.1 19 (by omega)).trans h19) (by rw [v6.1 116 (by decide) (by decide) (by decide) (by decide) (by decide) (by decide)]; exact hxy) hT i21 (by rw [aa_up_c (by decide)]; exact e4) (fun W5 a5 b5 c5 d5 => ?_)
          have v7 : mt_v T M V W5 := mt_t v6 (mt_e a5)
          show (W5 105 26 = 0 → _) ∧ _
          refine ⟨fun z => ?_, fun z => ?_⟩
          · have k8 : tk (i2 + 1) = 256 := mt_0.mp (b5.symm.trans z)
            rcases hR with ⟨hR, _⟩ | ⟨_, hK⟩
            · exact absurd k8 hR
            · refine hK W5 v7 ?_ ?_ ?_ ?_ ?_ ?_
              · rw [a5.1 117 (by decide), a5.1 118 (by decide), aa_up_c (by decide), aa_up_c (by decide)]; exact a4.2.2.2.2.1
              · rw [a5.2 25 (by decide) (by decide) (by decide) (by decide), aa_up_c (by decide)]; exact w25
              · rw [a5.1 119 (by decide), aa_up_c (by decide), a4.1.1 119 (by decide) (by decide) (by decide) (by decide)]; exact r2
              · rw [a5.1 120 (by decide), aa_up_o (by omega), a4.1.1 120 (by decide) (by decide) (by decide) (by decide)]; exact r3
              · rw [a5.1 119 (by decide), aa_up_c (by decide), a4.1.1 119 (by decide) (by decide) (by decide) (by decide)]; exact r1
              · rw [a5.1 120 (by decide), aa_up_s]
          · have k8 : tk (i2 + 1) ≠ 256 := fun q => z (b5.trans (mt_0.mpr q))
            rcases hR with ⟨_, hK⟩ | ⟨hR, _⟩
            · exact hK W5 v7 c5
            · exact absurd hR k8
      · have k7 : tk (i + 1) ≠ 307 := fun q => z (b3.trans ((mt_7.mpr q).trans (by decide)))
        rcases hR with ⟨_, hK⟩ | ⟨hR, _⟩
        · exact hK W3 v4 c3
        · exact absurd hR k7
    rcases h with ⟨p, hB, hK⟩ | ⟨m, m2, ⟨_, i, i2, hm, h7, hm2, h8⟩, hK⟩
    · rcases hB with ⟨n0, _⟩ | ⟨_, hB⟩
      · exact absurd k0 n0
      rcases hB with hm | ⟨i, m, hm, hB⟩
      · exact mt_221 (d := d) hs0 hM g19 (by rw [g116]; exact hxy) hT f1 g25 trivial (Nat.zero_le _) g22 hm (fun W4 a4 b4 => ⟨fun _ => hK W4 (mt_t v2 (mt_q a4)) b4, fun z => absurd rfl z⟩)
      · refine mt_221 (d := d) hs0 hM g19 (by rw [g116]; exact hxy) hT f1 g25 trivial (Nat.zero_le _) g22 hm (fun W4 o4 (l4 : i ≤ F) k4 a4 b4 e4 => ?_)
        have b4 : m.length ≤ i := b4
        have hmi : m.length ≤ i + 2 := by omega
        refine rest i m W4 o4 l4 k4 a4 b4 e4 ?_ hmi
        rcases hB with ⟨h7, e⟩ | ⟨h7, hB⟩
        · exact Or.inl ⟨h7, by rw [← e]; exact hK⟩
        · refine Or.inr ⟨h7, ?_⟩
          rcases hB with hm2 | ⟨i2, m2, hm2, h8, e⟩
          · exact Or.inl ⟨p, hm2, hK⟩
          · exact Or.inr ⟨i2, m2, hm2, Or.inl ⟨h8, by rw [← e]; exact hK⟩⟩
    · refine mt_221 (d := d) hs0 hM g19 (by rw [g116]; exact hxy) hT f1 g25 trivial (Nat.zero_le _) g22 hm (fun W4 o4 (l4 : i ≤ F) k4 a4 b4 e4 => ?_)
      have b4 : m.length ≤ i := b4
      have hmi : m.length ≤ i + 2 := by omega
      exact rest i m W4 o4 l4 k4 a4 b4 e4 (Or.inr ⟨h7, Or.inr ⟨i2, m2, hm2, Or.inr ⟨h8, hK⟩⟩⟩) hmi
  · have k0 : tk 0 ≠ 306 := fun q => z (b1.trans ((mt_6.mpr q).trans (by decide)))
    rcases h with ⟨p, hB, hK⟩ | ⟨m, m2, hG, hK⟩
    · rcases hB with ⟨_, e⟩ | ⟨e, _⟩
      · exact hK W1 v1 (by rw [e]; exact c1)
      · exact absurd e k0
    · exact absurd hG.1 k0
end
