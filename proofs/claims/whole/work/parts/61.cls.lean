/-! the class reads: each level of a text, beside the reference's stack -/
def tp_v (t : Nat) (V W : aa_V) : Prop := ∀ c p, ¬ (c = 80 ∧ (p = 6 ∨ p = 7)) → ¬ (c = 87 + 3 * t ∧ p = 3) → c ≠ 88 + 3 * t → W c p = V c p
theorem tp_vr {t : Nat} {V : aa_V} : tp_v t V V := fun _ _ _ _ _ => rfl
theorem tp_vt {t : Nat} {U V W : aa_V} (h : tp_v t U V) (k : tp_v t V W) : tp_v t U W := fun c p a b e => (k c p a b e).trans (h c p a b e)
theorem tp_vc {t c : Nat} {V W : aa_V} (h : tp_v t V W) (h0 : c ≠ 80) (h1 : c ≠ 87 + 3 * t) (h2 : c ≠ 88 + 3 * t) : W c = V c := funext fun p => h c p (fun q => h0 q.1) (fun q => h1 q.1) h2
theorem tp_v6 {t : Nat} {V : aa_V} {x : Int32} : tp_v t V (aa_up V 80 6 x) := fun c p a _ _ => by
  rw [aa_up_at, if_neg (fun q => a ⟨q.1, Or.inl q.2⟩)]
theorem tp_v7 {t : Nat} {V : aa_V} {x : Int32} : tp_v t V (aa_up V 80 7 x) := fun c p a _ _ => by
  rw [aa_up_at, if_neg (fun q => a ⟨q.1, Or.inr q.2⟩)]
theorem tp_va {t n : Nat} {V : aa_V} {x y : Int32} : tp_v t V (aa_up (aa_up V (88 + 3 * t) n x) (87 + 3 * t) 3 y) := fun c p _ b e => by
  rw [aa_up_at, if_neg (fun q => b ⟨q.1, q.2⟩), aa_up_c e]
/-- what stands fast while a text is read: the tokens, and where it goes -/
def tp_g (t F : Nat) (tk nb pl : Nat → Int32) (V : aa_V) : Prop := (t < 6 ∧ F ≤ 161 ∧ V 80 5 = nI F ∧ V 80 8 = nI (87 + 3 * t + 1)) ∧ (V 82 = tk ∧ V 84 = nb ∧ V 83 = pl) ∧ (∀ i, i < F → tk i ≠ 256 → tk i ≠ 257 → i + 1 < F) ∧ (∀ i, i < F → tk i = 258 → zb (nb i) 9999) ∧ ∀ i, i < F → zb (pl i) 160
theorem tp_gv {t F : Nat} {tk nb pl : Nat → Int32} {V W : aa_V} (h : tp_v t V W) (g : tp_g t F tk nb pl V) : tp_g t F tk nb pl W := by
  obtain ⟨⟨g1, g2, g3, g4⟩, ⟨g5, g6, g7⟩, g8⟩ := g
  refine ⟨⟨g1, g2, ?_, ?_⟩, ⟨?_, ?_, ?_⟩, g8⟩
  · rw [h 80 5 (fun q => by omega) (fun q => by omega) (by omega)]; exact g3
  · rw [h 80 8 (fun q => by omega) (fun q => by omega) (by omega)]; exact g4
  · rw [tp_vc h (by omega) (by omega) (by omega)]; exact g5
  · rw [tp_vc h (by omega) (by omega) (by omega)]; exact g6
  · rw [tp_vc h (by omega) (by omega) (by omega)]; exact g7
def tp_s (t : Nat) (V : aa_V) (i : Nat) (cs : List pp_S) : Prop := V 80 6 = nI i ∧ V 80 7 = -1 ∧ V (87 + 3 * t) 3 = nI cs.length ∧ pp_p (V (88 + 3 * t)) cs
theorem tp_s6 {t i : Nat} {V : aa_V} {cs : List pp_S} (h : tp_s t V i cs) (j : Nat) : tp_s t (aa_up V 80 6 (nI j)) j cs := by
  obtain ⟨_, h2, h3, h4⟩ := h
  refine ⟨aa_up_s, ?_, ?_, ?_⟩
  · rw [aa_up_o (by decide)]; exact h2
  · rw [aa_up_c (by omega)]; exact h3
  · rw [aa_up_c (by omega)]; exact h4
/-- a fault was found -/
def tp_b (t F : Nat) (tk nb pl : Nat → Int32) (V : aa_V) (i : Nat) (x : pp_X) (mn : Bool) : Prop := (∃ n : Nat, n ≤ 160 ∧ V (87 + 3 * t) 3 = nI n) ∧ ∃ j, j < F ∧ V 80 7 = pl j ∧ pp_mr tk nb pl 0 i x mn (.inr (pl j))
/-- a level was read -/
def tp_k (t F : Nat) (tk nb pl : Nat → Int32) (hk lk lo : Nat) (T : Int32 → List Nat → Prop) (V : aa_V) (i : Nat) (cs : List pp_S) (S : List Nat) (o : Nat) (mn : Bool) : Prop := ∃ (i' : Nat) (cs' : List pp_S) (p : List Nat) (ms : List pp_S), lo < i' ∧ i' < F ∧ tp_s t V i' cs' ∧ cs'.length + i ≤ cs.length + i' ∧ (∀ b h, pp_h b cs h → h ≤ 5 * o + hk → pp_h b cs' (h + 1)) ∧ cs' = pp_wk ms p ∧ (∀ c, c ∈ p → lk ≤ c) ∧ (∀ r, pp_mr tk nb pl 1 i' (p ++ S, ms, o + pp_ct p) false r → pp_mr tk nb pl 0 i (S, cs, o) mn r) ∧ T (tk i') p
def tp_q (t F : Nat) (tk nb pl : Nat → Int32) (hk lk lo : Nat) (T : Int32 → List Nat → Prop) (V : aa_V) (i : Nat) (cs : List pp_S) (S : List Nat) (o : Nat) (mn : Bool) : Prop := tp_b t F tk nb pl V i (S, cs, o) mn ∨ tp_k t F tk nb pl hk lk lo T V i cs S o mn
def tp_S (G : ab_G) (L : Nat) (xs : Nat → Int32) (l : Launch) (t F : Nat) (tk nb pl : Nat → Int32) (k dk hk lk ck : Nat) (fl : Bool) (T : Int32 → List Nat → Prop) (N : Nat) : Prop := ∀ (e i : Nat) (cs : List pp_S) (S : List Nat) (o : Nat) (mn : Bool) (V : aa_V) (K : aa_K), 8 * (5 - o) + dk ≤ e → F ≤ i + N → o ≤ 5 → i < F → tp_g t F tk nb pl V → tp_s t V i cs → cs.length + 1 ≤ i → pp_t ck S → (fl = true → mn = true) → (fl = false → mn = true → tk i ≠ 310) → (∀ V', tp_v t V V' → tp_q t F tk nb pl hk lk i T V' i cs S o mn → K none V') → ab_E G (ac_ST L xs) l e ac_SK k [.ref 80, .int (nI o)] V K
theorem tp_is {t : Nat} (ht : t < 6) : aa_is ac_SK (87 + 3 * t) 6 := ⟨4, _, tx_0 ht⟩
theorem tp_70 {G : ab_G} {L : Nat} {xs : Nat → Int32} {l : Launch} {d t n : Nat} {i1 : Int32} {V : aa_V} {K : aa_K} (ht : t < 6) (hn : n ≤ 160) (h3 : V (87 + 3 * t) 3 = nI n) (h : n < 160 → K none (aa_up (aa_up V (88 + 3 * t) n i1) (87 + 3 * t) 3 (nI (n + 1)))) (h' : n = 160 → K none V) : ab_E G (ac_ST L xs) l (d + 1) ac_SK 70 [.ref (87 + 3 * t), .int i1] V K := by
  have hx : (nI n).toNatClampNeg = n := zz_ix (by omega)
  refine iv_70_0 ⟨tp_is ht, 4, _, 88 + 3 * t, tx_0 ht, rfl, 100, 160, _, tx_1 ht, by omega, fun c => ?_, fun c => ?_⟩
  · rw [h3, zz_nlt (by omega) (by omega)] at c
    refine ⟨4, _, 88 + 3 * t, tx_0 ht, rfl, tp_is ht, 160, _, tx_1 ht, ?_, tp_is ht, tp_is ht, ?_⟩
    · rw [h3]; exact vp_in_nI c (by omega)
    · rw [h3, hx, aa_up_c (by omega), h3, show nI n + (1 : Int32) = nI (n + 1) by rw [nI_succ]]
      exact h c
  · rw [h3, zz_nlt (by omega) (by omega)] at c
    exact h' (by omega)
section
variable {G : ab_G} {L : Nat} {xs : Nat → Int32} {l : Launch} {t F : Nat} {tk nb pl : Nat → Int32}
theorem tp_b70 {d i : Nat} {i1 : Int32} {V : aa_V} {K : aa_K} {x : pp_X} {mn : Bool} (ht : t < 6) (hb : tp_b t F tk nb pl V i x mn) (h : ∀ W, tp_v t V W → tp_b t F tk nb pl W i x mn → K none W) : ab_E G (ac_ST L xs) l (d + 1) ac_SK 70 [.ref (87 + 3 * t), .int i1] V K := by
  obtain ⟨⟨n, hn, e⟩, j, hj, e7, hm⟩ := hb
  refine tp_70 ht hn e (fun c => h _ tp_va ⟨⟨n + 1, by omega, aa_up_s⟩, j, hj, ?_, hm⟩) (fun _ => h _ tp_vr ⟨⟨n, hn, e⟩, j, hj, e7, hm⟩)
  rw [aa_up_c (by omega), aa_up_c (by omega)]; exact e7
theorem tp_s70 {d i : Nat} {i1 : Int32} {V : aa_V} {K : aa_K} {cs : List pp_S} {s : pp_S} (ht : t < 6) (hs : tp_s t V i cs) (hl : cs.length < 160) (hc : nv_c s.1 s.2 i1) (h : ∀ W, tp_v t V W → tp_s t W i (s :: cs) → K none W) : ab_E G (ac_ST L xs) l (d + 1) ac_SK 70 [.ref (87 + 3 * t), .int i1] V K := by
  obtain ⟨h1, h2, h3, h4⟩ := hs
  refine tp_70 ht (by omega) h3 (fun c => h _ tp_va ⟨?_, ?_, aa_up_s, ?_, ?_⟩) (fun q => by omega)
  · rw [aa_up_c (by omega), aa_up_c (by omega)]; exact h1
  · rw [aa_up_c (by omega), aa_up_c (by omega)]; exact h2
  · rw [aa_up_c (by omega), aa_up_s]; exact hc
  · refine pp_p_c (fun j hj => ?_) h4
    rw [aa_up_c (by omega), aa_up_o (by omega)]
theorem tp_bf (g5 : ∀ i, i < F → zb (pl i) 160) {i : Nat} {V : aa_V} {x : pp_X} {mn : Bool} (hb : tp_b t F tk nb pl V i x mn) : ¬ V 80 7 = -1 := by
  obtain ⟨_, j, hj, e7, _⟩ := hb
  rw [e7]
  intro q
  have := zb_r (g5 j hj) (by decide)
  rw [q] at this
  exact absurd this.1 (by decide)
/-- one more of a sign of two: behind it, its sign is set -/
theorem tp_step {d i hk l' hs ls lo c : Nat} {cs : List pp_S} {S : List Nat} {o : Nat} {mn mn' : Bool} {T Ts : Int32 → List Nat → Prop} {st : Int32} {V' V2 : aa_V} {K : aa_K} {i' : Nat} {cs' : List pp_S} {p : List Nat} {ms : List pp_S}
    (ht : t < 6) (hF : F ≤ 161) (ho : o ≤ 5) (hi : cs.length + 1 ≤ i) (hS : pp_t l' S) (hl : l' ≤ 10) (hh : hk ≤ 5) (hhs : hk < hs) (hls : l' ≤ ls) (hcl : l' ≤ c) (hb : pp_bn (tk i') l' c mn') (hc : nv_c (nI c) 0 st) (he : pp_e (nI c, 0) = 2) (hct : pp_ct [c] = 0) (hT : ∀ x p, Ts x p → T x (p ++ [c])) (hlo : lo < i')
    (k1 : cs'.length + i ≤ cs.length + i') (k2 : ∀ b h, pp_h b cs h → h ≤ 5 * o + hk → pp_h b cs' (h + 1)) (k3 : cs' = pp_wk ms p) (k4 : ∀ c, c ∈ p → l' ≤ c) (k5 : ∀ r, pp_mr tk nb pl 1 i' (p ++ S, ms, o + pp_ct p) false r → pp_mr tk nb pl 0 i (S, cs, o) mn r)
    (hv : tp_v t V' V2) (hq : tp_q t F tk nb pl hs ls (i' + 1) Ts V2 (i' + 1) cs' (c :: S) o mn')
    (h : ∀ V3, tp_v t V' V3 → tp_q t F tk nb pl hk l' i' T V3 i cs S o mn → K none V3) : ab_E G (ac_ST L xs) l (d + 1) ac_SK 70 [.ref (87 + 3 * t), .int st] V2 K := by
  have lift : ∀ r, pp_mr tk nb pl 0 (i' + 1) (c :: S, cs', o) mn' r → pp_mr tk nb pl 0 i (S, cs, o) mn r := fun r hr => by
    rw [k3] at hr
    exact k5 r (pp_bin hb hl hS k4 hr)
  rcases hq with hq | hq
  · refine tp_b70 ht hq (fun W hw hbW => h W (tp_vt hv hw) (Or.inl ?_))
    obtain ⟨n, j, hj, e7, hm⟩ := hbW
    exact ⟨n, j, hj, e7, lift _ hm⟩
  · obtain ⟨i2, cs2, p2, ms2, a1, a2, a3, a4, a5, a6, a7, a8, a9⟩ := hq
    refine tp_s70 (s := (nI c, 0)) ht a3 (by omega) hc (fun W hw hsW => h W (tp_vt hv hw) (Or.inr ⟨i2, (nI c, 0) :: cs2, p2 ++ [c], ms2, by omega, a2, hsW, ?_, ?_, ?_, ?_, ?_, hT _ _ a9⟩))
    · rw [List.length_cons]; omega
    · intro b h1 hb1 hh1
      exact pp_h2 (a5 b (h1 + 1) (k2 b h1 hb1 hh1) (by omega)) he (by omega)
    · rw [pp_wk_app, ← a6]; rfl
    · intro a ha
      rcases List.mem_append.mp ha with ha | ha
      · exact Nat.le_trans hls (a7 a ha)
      · rw [List.mem_singleton.mp ha]; exact hcl
    · intro r hr
      rw [List.append_assoc, pp_ct_app, hct, Nat.add_zero] at hr
      exact lift r (a8 r hr)
theorem tp_qw {hk hs lk ls lo i o : Nat} {T Ts : Int32 → List Nat → Prop} {V : aa_V} {cs : List pp_S} {S : List Nat} {mn : Bool} (h1 : hk ≤ hs) (h2 : lk ≤ ls) (hT : ∀ x p, Ts x p → T x p) (h : tp_q t F tk nb pl hs ls lo Ts V i cs S o mn) : tp_q t F tk nb pl hk lk lo T V i cs S o mn := by
  rcases h with h | ⟨i', cs', p, ms, a1, a2, a3, a4, a5, a6, a7, a8, a9⟩
  · exact Or.inl h
  · exact Or.inr ⟨i', cs', p, ms, a1, a2, a3, a4, fun b h q1 q2 => a5 b h q1 (by omega), a6, fun c hc => Nat.le_trans h2 (a7 c hc), a8, hT _ _ a9⟩
theorem tp_tk {i : Nat} {V : aa_V} {cs : List pp_S} (g : tp_g t F tk nb pl V) (hi : i < F) (s : tp_s t V i cs) : V 80 6 = nI i ∧ (V 80 6).toNatClampNeg = i ∧ V 82 (V 80 6).toNatClampNeg = tk i ∧ V 83 (V 80 6).toNatClampNeg = pl i ∧ V 84 (V 80 6).toNatClampNeg = nb i ∧ vp_in (V 80 6) 161 ∧ V 80 6 < V 80 5 := by
  obtain ⟨⟨g1, g2, g3, g4⟩, ⟨g5, g6, g7⟩, g8⟩ := g
  have e : (V 80 6).toNatClampNeg = i := by rw [s.1]; exact zz_ix (by omega)
  refine ⟨s.1, e, by rw [e, g5], by rw [e, g7], by rw [e, g6], by rw [s.1]; exact vp_in_nI (by omega) (by omega), ?_⟩
  rw [s.1, g3, zz_nlt (by omega) (by omega)]
  exact hi
theorem tp_rf {V : aa_V} (g : tp_g t F tk nb pl V) : (V 80 8).toNatClampNeg = 87 + 3 * t + 1 := by
  rw [g.1.2.2.2]
  exact zz_ix (by have := g.1.1; omega)
theorem tp_44l {N : Nat} (h1 : tp_S G L xs l t F tk nb pl 45 3 5 10 99 false pp_T1 N) : ∀ (m e i jj lo : Nat) (cs : List pp_S) (S : List Nat) (o : Nat) (mn : Bool) (V V' : aa_V) (K : aa_K), 8 * (5 - o) + 4 ≤ e → F ≤ i + N → o ≤ 5 → i ≤ lo → jj ≤ lo → F ≤ lo + m → tp_g t F tk nb pl V → cs.length + 1 ≤ i → pp_t 9 S → tp_v t V V' → tp_q t F tk nb pl 4 9 lo pp_T1 V' i cs S o mn → (∀ W, tp_v t V W → tp_q t F tk nb pl 4 9 i pp_Tm W i cs S o mn → K none W) → ab_J G (ac_ST L xs) l e 44 7 [some (.ref 80), some (.int (nI o)), some (.int (nI jj))] [] ac_SK V' ac_SK K := by
  intro m
  induction m with
  | zero =>
    intro e i jj lo cs S o mn V V' K he hN ho hlo hjj hm hg hl hS hv hq hK
    obtain ⟨d, rfl⟩ : ∃ d, e = d + 2 := ⟨e - 2, by omega⟩
    rcases hq with hb | ⟨i', _, _, _, k0, kF, _⟩
    · exact iv_44_7 ⟨fun _ => ⟨fun c => absurd c (tp_bf hg.2.2.2.2 hb), fun _ => hK V' hv (Or.inl hb)⟩, fun _ => hK V' hv (Or.inl hb)⟩
    · omega
  | succ m ih =>
    intro e i jj lo cs S o mn V V' K he hN ho hlo hjj hm hg hl hS hv hq hK
    obtain ⟨d, rfl⟩ : ∃ d, e = d + 2 := ⟨e - 2, by omega⟩
    rcases hq with hb | ⟨i', cs', p, ms, k0, kF, hs, k1, k2, k3, k4, k5, k6⟩
    · exact iv_44_7 ⟨fun _ => ⟨fun c => absurd c (tp_bf hg.2.2.2.2 hb), fun _ => hK V' hv (Or.inl hb)⟩, fun _ => hK V' hv (Or.inl hb)⟩
    · have hg' := tp_gv hv hg
      have hF := hg.1.2.1
      have ht := hg.1.1
      have g3 := hg.2.2.1
      obtain ⟨e6, e6n, e82, e83, e84, evp, elt⟩ := tp_tk hg' kF hs
      refine iv_44_7 ⟨fun _ => ⟨fun _ => ⟨fun _ => ⟨evp, fun ct => ?_, fun ct => ?_⟩, fun c => absurd elt c⟩, fun c => absurd hs.2.1 c⟩, fun c => absurd ((zz_nlt (a := jj) (b := 160) (by omega) (by omega)).mpr (by omega)) c⟩
      · rw [e82] at ct
        have kF1 : i' + 1 < F := g3 i' kF (by rw [ct]; decide) (by rw [ct]; decide)
        rw [e6, show nI i' + (1 : Int32) = nI (i' + 1) by rw [nI_succ]]
        refine h1 (d + 1) (i' + 1) cs' (9 :: S) o false _ _ (by omega) (by omega) ho kF1 (tp_gv tp_v6 hg') (tp_s6 hs _) (by omega) (show 9 < 99 by omega) (fun h => by cases h) (fun _ h => by cases h) (fun V2 hv2 hq2 => ?_)
        refine ⟨87 + 3 * t, tp_rf (tp_gv (tp_vt tp_v6 hv2) hg'), tp_is ht, ?_⟩
        refine tp_step (hk := 4) (l' := 9) (lo := i) (T := pp_T1) (d := d) (c := 9) ht hF ho hl hS (by omega) (by omega) (by omega) (by omega) (by omega) (Or.inl ⟨ct, rfl, rfl, rfl⟩) (Or.inr (Or.inr (Or.inr (Or.inr (Or.inr (Or.inr (Or.inr (Or.inr (Or.inr (Or.inr ⟨rfl, rfl⟩)))))))))) rfl rfl (fun _ _ _ => trivial) (by omega) k1 k2 k3 k4 k5 (tp_vt tp_v6 hv2) hq2 (fun V3 hv3 hq3 => ?_)
        show ab_J G (ac_ST L xs) l (d + 2) 44 7 [some (.ref 80), some (.int (nI o)), some (.int (nI jj + 1))] [] ac_SK V3 ac_SK K
        rw [show nI jj + (1 : Int32) = nI (jj + 1) by rw [nI_succ]]
        exact ih (d + 2) i (jj + 1) i' cs S o mn V V3 K he hN ho (by omega) (by omega) (by omega) hg hl hS (tp_vt hv hv3) hq3 hK
      · rw [e82] at ct
        exact hK V' hv (Or.inr ⟨i', cs', p, ms, by omega, kF, hs, k1, k2, k3, k4, k5, (fun _ => ct) k6⟩)
theorem tp_44 {N : Nat} (h1 : tp_S G L xs l t F tk nb pl 45 3 5 10 99 false pp_T1 N) : tp_S G L xs l t F tk nb pl 44 4 4 9 9 false pp_Tm N := by
  intro e i cs S o mn V K he hN ho hi hg hs hl hS hf hf' hK
  obtain ⟨d, rfl⟩ : ∃ d, e = d + 2 := ⟨e - 2, by omega⟩
  exact iv_44_0 (h1 (d + 1) i cs S o mn V _ (by omega) hN ho hi hg hs hl (pp_t2 (by omega) hS) hf hf' (fun V' hv hq => tp_44l h1 F (d + 2) i 0 i cs S o mn V V' K he hN ho (Nat.le_refl _) (Nat.zero_le _) (by omega) hg hl hS hv (tp_qw (by omega) (by omega) (fun _ _ q => q) hq) hK))
theorem tp_41l {N : Nat} (h1 : tp_S G L xs l t F tk nb pl 42 6 2 4 5 true pp_Tn N) : ∀ (m e i jj lo : Nat) (cs : List pp_S) (S : List Nat) (o : Nat) (mn : Bool) (V V' : aa_V) (K : aa_K), 8 * (5 - o) + 7 ≤ e → F ≤ i + N → o ≤ 5 → i ≤ lo → jj ≤ lo → F ≤ lo + m → tp_g t F tk nb pl V → cs.length + 1 ≤ i → pp_t 3 S → tp_v t V V' → tp_q t F tk nb pl 1 3 lo pp_Tn V' i cs S o mn → (∀ W, tp_v t V W → tp_q t F tk nb pl 1 3 i pp_Ta W i cs S o mn → K none W) → ab_J G (ac_ST L xs) l e 41 7 [some (.ref 80), some (.int (nI o)), some (.int (nI jj))] [] ac_SK V' ac_SK K := by
  intro m
  induction m with
  | zero =>
    intro e i jj lo cs S o mn V V' K he hN ho hlo hjj hm hg hl hS hv hq hK
    obtain ⟨d, rfl⟩ : ∃ d, e = d + 2 := ⟨e - 2, by omega⟩
    rcases hq with hb | ⟨i', _, _, _, k0, kF, _⟩
    · exact iv_41_7 ⟨fun _ => ⟨fun c => absurd c (tp_bf hg.2.2.2.2 hb), fun _ => hK V' hv (Or.inl hb)⟩, fun _ => hK V' hv (Or.inl hb)⟩
    · omega
  | succ m ih =>
    intro e i jj lo cs S o mn V V' K he hN ho hlo hjj hm hg hl hS hv hq hK
    obtain ⟨d, rfl⟩ : ∃ d, e = d + 2 := ⟨e - 2, by omega⟩
    rcases hq with hb | ⟨i', cs', p, ms, k0, kF, hs, k1, k2, k3, k4, k5, k6⟩
    · exact iv_41_7 ⟨fun _ => ⟨fun c => absurd c (tp_bf hg.2.2.2.2 hb), fun _ => hK V' hv (Or.inl hb)⟩, fun _ => hK V' hv (Or.inl hb)⟩
    · have hg' := tp_gv hv hg
      have hF := hg.1.2.1
      have ht := hg.1.1
      have g3 := hg.2.2.1
      obtain ⟨e6, e6n, e82, e83, e84, evp, elt⟩ := tp_tk hg' kF hs
      refine iv_41_7 ⟨fun _ => ⟨fun _ => ⟨fun _ => ⟨evp, fun ct => ?_, fun ct => ?_⟩, fun c => absurd elt c⟩, fun c => absurd hs.2.1 c⟩, fun c => absurd ((zz_nlt (a := jj) (b := 160) (by omega) (by omega)).mpr (by omega)) c⟩
      · rw [e82] at ct
        have kF1 : i' + 1 < F := g3 i' kF (by rw [ct]; decide) (by rw [ct]; decide)
        rw [e6, show nI i' + (1 : Int32) = nI (i' + 1) by rw [nI_succ]]
        refine h1 (d + 1) (i' + 1) cs' (3 :: S) o true _ _ (by omega) (by omega) ho kF1 (tp_gv tp_v6 hg') (tp_s6 hs _) (by omega) (show 3 < 5 by omega) (fun _ => rfl) (fun h => by cases h) (fun V2 hv2 hq2 => ?_)
        refine ⟨87 + 3 * t, tp_rf (tp_gv (tp_vt tp_v6 hv2) hg'), tp_is ht, ?_⟩
        refine tp_step (hk := 1) (l' := 3) (lo := i) (T := pp_Tn) (d := d) (c := 3) ht hF ho hl hS (by omega) (by omega) (by omega) (by omega) (by omega) (Or.inr (Or.inr (Or.inr (Or.inr ⟨ct, rfl, rfl, rfl⟩)))) (Or.inr (Or.inr (Or.inr (Or.inr (Or.inr (Or.inl ⟨rfl, rfl⟩)))))) rfl rfl (fun x p q => ⟨q.1, q.2.1, q.2.2.1, fun z => pp_N_app (q.2.2.2 z) _⟩) (by omega) k1 k2 k3 k4 k5 (tp_vt tp_v6 hv2) hq2 (fun V3 hv3 hq3 => ?_)
        show ab_J G (ac_ST L xs) l (d + 2) 41 7 [some (.ref 80), some (.int (nI o)), some (.int (nI jj + 1))] [] ac_SK V3 ac_SK K
        rw [show nI jj + (1 : Int32) = nI (jj + 1) by rw [nI_succ]]
        exact ih (d + 2) i (jj + 1) i' cs S o mn V V3 K he hN ho (by omega) (by omega) (by omega) hg hl hS (tp_vt hv hv3) hq3 hK
      · rw [e82] at ct
        exact hK V' hv (Or.inr ⟨i', cs', p, ms, by omega, kF, hs, k1, k2, k3, k4, k5, (fun q => ⟨q.1, q.2.1, q.2.2.1, q.2.2.2, ct⟩) k6⟩)
theorem tp_41 {N : Nat} (h1 : tp_S G L xs l t F tk nb pl 42 6 2 4 5 true pp_Tn N) : tp_S G L xs l t F tk nb pl 41 7 1 3 3 true pp_Ta N := by
  intro e i cs S o mn V K he hN ho hi hg hs hl hS hf hf' hK
  obtain ⟨d, rfl⟩ : ∃ d, e = d + 2 := ⟨e - 2, by omega⟩
  exact iv_41_0 (h1 (d + 1) i cs S o mn V _ (by omega) hN ho hi hg hs hl (pp_t2 (by omega) hS) hf hf' (fun V' hv hq => tp_41l h1 F (d + 2) i 0 i cs S o mn V V' K he hN ho (Nat.le_refl _) (Nat.zero_le _) (by omega) hg hl hS hv (tp_qw (by omega) (by omega) (fun _ _ q => q) hq) hK))
theorem tp_40l {N : Nat} (h1 : tp_S G L xs l t F tk nb pl 41 7 1 3 3 true pp_Ta N) : ∀ (m e i jj lo : Nat) (cs : List pp_S) (S : List Nat) (o : Nat) (mn : Bool) (V V' : aa_V) (K : aa_K), 8 * (5 - o) + 8 ≤ e → F ≤ i + N → o ≤ 5 → i ≤ lo → jj ≤ lo → F ≤ lo + m → tp_g t F tk nb pl V → cs.length + 1 ≤ i → pp_t 2 S → tp_v t V V' → tp_q t F tk nb pl 0 2 lo pp_Ta V' i cs S o mn → (∀ W, tp_v t V W → tp_q t F tk nb pl 0 2 i pp_To W i cs S o mn → K none W) → ab_J G (ac_ST L xs) l e 40 7 [some (.ref 80), some (.int (nI o)), some (.int (nI jj))] [] ac_SK V' ac_SK K := by
  intro m
  induction m with
  | zero =>
    intro e i jj lo cs S o mn V V' K he hN ho hlo hjj hm hg hl hS hv hq hK
    obtain ⟨d, rfl⟩ : ∃ d, e = d + 2 := ⟨e - 2, by omega⟩
    rcases hq with hb | ⟨i', _, _, _, k0, kF, _⟩
    · exact iv_40_7 ⟨fun _ => ⟨fun c => absurd c (tp_bf hg.2.2.2.2 hb), fun _ => hK V' hv (Or.inl hb)⟩, fun _ => hK V' hv (Or.inl hb)⟩
    · omega
  | succ m ih =>
    intro e i jj lo cs S o mn V V' K he hN ho hlo hjj hm hg hl hS hv hq hK
    obtain ⟨d, rfl⟩ : ∃ d, e = d + 2 := ⟨e - 2, by omega⟩
    rcases hq with hb | ⟨i', cs', p, ms, k0, kF, hs, k1, k2, k3, k4, k5, k6⟩
    · exact iv_40_7 ⟨fun _ => ⟨fun c => absurd c (tp_bf hg.2.2.2.2 hb), fun _ => hK V' hv (Or.inl hb)⟩, fun _ => hK V' hv (Or.inl hb)⟩
    · have hg' := tp_gv hv hg
      have hF := hg.1.2.1
      have ht := hg.1.1
      have g3 := hg.2.2.1
      obtain ⟨e6, e6n, e82, e83, e84, evp, elt⟩ := tp_tk hg' kF hs
      refine iv_40_7 ⟨fun _ => ⟨fun _ => ⟨fun _ => ⟨evp, fun ct => ?_, fun ct => ?_⟩, fun c => absurd elt c⟩, fun c => absurd hs.2.1 c⟩, fun c => absurd ((zz_nlt (a := jj) (b := 160) (by omega) (by omega)).mpr (by omega)) c⟩
      · rw [e82] at ct
        have kF1 : i' + 1 < F := g3 i' kF (by rw [ct]; decide) (by rw [ct]; decide)
        rw [e6, show nI i' + (1 : Int32) = nI (i' + 1) by rw [nI_succ]]
        refine h1 (d + 1) (i' + 1) cs' (2 :: S) o true _ _ (by omega) (by omega) ho kF1 (tp_gv tp_v6 hg') (tp_s6 hs _) (by omega) (show 2 < 3 by omega) (fun _ => rfl) (fun h => by cases h) (fun V2 hv2 hq2 => ?_)
        refine ⟨87 + 3 * t, tp_rf (tp_gv (tp_vt tp_v6 hv2) hg'), tp_is ht, ?_⟩
        refine tp_step (hk := 0) (l' := 2) (lo := i) (T := pp_Ta) (d := d) (c := 2) ht hF ho hl hS (by omega) (by omega) (by omega) (by omega) (by omega) (Or.inr (Or.inr (Or.inr (Or.inl ⟨ct, rfl, rfl, rfl⟩)))) (Or.inr (Or.inr (Or.inr (Or.inr (Or.inl ⟨rfl, rfl⟩))))) rfl rfl (fun x p q => ⟨q.1, q.2.1, q.2.2.1, fun z => pp_N_app (q.2.2.2.1 z) _, q.2.2.2.2⟩) (by omega) k1 k2 k3 k4 k5 (tp_vt tp_v6 hv2) hq2 (fun V3 hv3 hq3 => ?_)
        show ab_J G (ac_ST L xs) l (d + 2) 40 7 [some (.ref 80), some (.int (nI o)), some (.int (nI jj + 1))] [] ac_SK V3 ac_SK K
        rw [show nI jj + (1 : Int32) = nI (jj + 1) by rw [nI_succ]]
        exact ih (d + 2) i (jj + 1) i' cs S o mn V V3 K he hN ho (by omega) (by omega) (by omega) hg hl hS (tp_vt hv hv3) hq3 hK
      · rw [e82] at ct
        exact hK V' hv (Or.inr ⟨i', cs', p, ms, by omega, kF, hs, k1, k2, k3, k4, k5, (fun q => ⟨q.1, q.2.1, q.2.2.1, q.2.2.2.1, q.2.2.2.2, ct⟩) k6⟩)
theorem tp_40 {N : Nat} (h1 : tp_S G L xs l t F tk nb pl 41 7 1 3 3 true pp_Ta N) : tp_S G L xs l t F tk nb pl 40 8 0 2 2 true pp_To N := by
  intro e i cs S o mn V K he hN ho hi hg hs hl hS hf hf' hK
  obtain ⟨d, rfl⟩ : ∃ d, e = d + 2 := ⟨e - 2, by omega⟩
  exact iv_40_0 (h1 (d + 1) i cs S o mn V _ (by omega) hN ho hi hg hs hl (pp_t2 (by omega) hS) hf hf' (fun V' hv hq => tp_40l h1 F (d + 2) i 0 i cs S o mn V V' K he hN ho (Nat.le_refl _) (Nat.zero_le _) (by omega) hg hl hS hv (tp_qw (by omega) (by omega) (fun _ _ q => q) hq) hK))
end
