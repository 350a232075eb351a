/-! the class reads: sums, comparisons and 'not', operands; all levels by what is left -/
section
variable {G : ab_G} {L : Nat} {xs : Nat → Int32} {l : Launch} {t F : Nat} {tk nb pl : Nat → Int32}
theorem tp_43l {N : Nat} (h1 : tp_S G L xs l t F tk nb pl 44 4 4 9 9 false pp_Tm N) : ∀ (m e i jj lo : Nat) (cs : List pp_S) (S : List Nat) (o : Nat) (mn : Bool) (V V' : aa_V) (K : aa_K), 8 * (5 - o) + 5 ≤ e → F ≤ i + N → o ≤ 5 → i ≤ lo → jj ≤ lo → F ≤ lo + m → tp_g t F tk nb pl V → cs.length + 1 ≤ i → pp_t 7 S → tp_v t V V' → tp_q t F tk nb pl 3 7 lo pp_Tm V' i cs S o mn → (∀ W, tp_v t V W → tp_q t F tk nb pl 3 7 i pp_Ts W i cs S o mn → K none W) → ab_J G (ac_ST L xs) l e 43 7 [some (.ref 80), some (.int (nI o)), some (.int (nI jj)), none] [] ac_SK V' ac_SK K := by
  intro m
  induction m with
  | zero =>
    intro e i jj lo cs S o mn V V' K he hN ho hlo hjj hm hg hl hS hv hq hK
    obtain ⟨d, rfl⟩ : ∃ d, e = d + 2 := ⟨e - 2, by omega⟩
    rcases hq with hb | ⟨i', _, _, _, k0, kF, _⟩
    · exact iv_43_7 ⟨fun _ => ⟨fun c => absurd c (tp_bf hg.2.2.2.2 hb), fun _ => ⟨fun c => absurd c (tp_bf hg.2.2.2.2 hb), fun _ => hK V' hv (Or.inl hb)⟩⟩, fun _ => hK V' hv (Or.inl hb)⟩
    · omega
  | succ m ih =>
    intro e i jj lo cs S o mn V V' K he hN ho hlo hjj hm hg hl hS hv hq hK
    obtain ⟨d, rfl⟩ : ∃ d, e = d + 2 := ⟨e - 2, by omega⟩
    rcases hq with hb | ⟨i', cs', p, ms, k0, kF, hs, k1, k2, k3, k4, k5, k6⟩
    · exact iv_43_7 ⟨fun _ => ⟨fun c => absurd c (tp_bf hg.2.2.2.2 hb), fun _ => ⟨fun c => absurd c (tp_bf hg.2.2.2.2 hb), fun _ => hK V' hv (Or.inl hb)⟩⟩, fun _ => hK V' hv (Or.inl hb)⟩
    · have hg' := tp_gv hv hg
      have hF := hg.1.2.1
      have ht := hg.1.1
      have g3 := hg.2.2.1
      obtain ⟨e6, e6n, e82, e83, e84, evp, elt⟩ := tp_tk hg' kF hs
      refine iv_43_7 ⟨fun _ => ⟨fun _ => ⟨fun _ => ⟨evp, fun ct => ⟨fun _ => ⟨fun _ => ⟨evp, ?_⟩, fun c => absurd elt c⟩, fun c => absurd hs.2.1 c⟩, fun ct => ⟨fun _ => ⟨fun _ => ⟨evp, fun ct2 => ⟨fun _ => ⟨fun _ => ⟨evp, ?_⟩, fun c => absurd elt c⟩, fun c => absurd hs.2.1 c⟩, fun ct2 => ?_⟩, fun c => absurd elt c⟩, fun c => absurd hs.2.1 c⟩⟩, fun c => absurd elt c⟩, fun c => absurd hs.2.1 c⟩, fun c => absurd ((zz_nlt (a := jj) (b := 160) (by omega) (by omega)).mpr (by omega)) c⟩
      · have cq := ct
        rw [e82] at ct
        have kF1 : i' + 1 < F := g3 i' kF (by rw [ct]; decide) (by rw [ct]; decide)
        rw [show aa_up V' 80 6 (V' 80 6 + (1 : Int32)) = aa_up V' 80 6 (nI (i' + 1)) by rw [e6, show nI i' + (1 : Int32) = nI (i' + 1) by rw [nI_succ]]]
        refine h1 (d + 1) (i' + 1) cs' (7 :: S) o false _ _ (by omega) (by omega) ho kF1 (tp_gv tp_v6 hg') (tp_s6 hs _) (by omega) (show 7 < 9 by omega) (fun h => by cases h) (fun _ h => by cases h) (fun V2 hv2 hq2 => ?_)
        refine ⟨87 + 3 * t, tp_rf (tp_gv (tp_vt tp_v6 hv2) hg'), fun _ => ⟨tp_is ht, ?_⟩, fun c => absurd cq c⟩
        refine tp_step (hk := 3) (l' := 7) (lo := i) (T := pp_Tm) (d := d) (c := 7) ht hF ho hl hS (by omega) (by omega) (by omega) (by omega) (by omega) (Or.inr (Or.inl ⟨ct, rfl, rfl, rfl⟩)) (Or.inr (Or.inr (Or.inr (Or.inr (Or.inr (Or.inr (Or.inr (Or.inr (Or.inl ⟨rfl, rfl⟩))))))))) rfl rfl (fun _ _ q => q) (by omega) k1 k2 k3 k4 k5 (tp_vt tp_v6 hv2) hq2 (fun V3 hv3 hq3 => ?_)
        show ab_J G (ac_ST L xs) l (d + 2) 43 7 [some (.ref 80), some (.int (nI o)), some (.int (nI jj + 1)), none] [] ac_SK V3 ac_SK K
        rw [show nI jj + (1 : Int32) = nI (jj + 1) by rw [nI_succ]]
        exact ih (d + 2) i (jj + 1) i' cs S o mn V V3 K he hN ho (by omega) (by omega) (by omega) hg hl hS (tp_vt hv hv3) hq3 hK
      · have cq := ct
        have cq2 := ct2
        rw [e82] at ct2
        have kF1 : i' + 1 < F := g3 i' kF (by rw [ct2]; decide) (by rw [ct2]; decide)
        rw [show aa_up V' 80 6 (V' 80 6 + (1 : Int32)) = aa_up V' 80 6 (nI (i' + 1)) by rw [e6, show nI i' + (1 : Int32) = nI (i' + 1) by rw [nI_succ]]]
        refine h1 (d + 1) (i' + 1) cs' (8 :: S) o false _ _ (by omega) (by omega) ho kF1 (tp_gv tp_v6 hg') (tp_s6 hs _) (by omega) (show 8 < 9 by omega) (fun h => by cases h) (fun _ h => by cases h) (fun V2 hv2 hq2 => ?_)
        refine ⟨87 + 3 * t, tp_rf (tp_gv (tp_vt tp_v6 hv2) hg'), fun c => absurd c cq, fun _ => ⟨tp_is ht, ?_⟩⟩
        refine tp_step (hk := 3) (l' := 7) (lo := i) (T := pp_Tm) (d := d) (c := 8) ht hF ho hl hS (by omega) (by omega) (by omega) (by omega) (by omega) (Or.inr (Or.inr (Or.inl ⟨ct2, rfl, rfl, rfl⟩))) (Or.inr (Or.inr (Or.inr (Or.inr (Or.inr (Or.inr (Or.inr (Or.inr (Or.inr (Or.inl ⟨rfl, rfl⟩)))))))))) rfl rfl (fun _ _ q => q) (by omega) k1 k2 k3 k4 k5 (tp_vt tp_v6 hv2) hq2 (fun V3 hv3 hq3 => ?_)
        show ab_J G (ac_ST L xs) l (d + 2) 43 7 [some (.ref 80), some (.int (nI o)), some (.int (nI jj + 1)), none] [] ac_SK V3 ac_SK K
        rw [show nI jj + (1 : Int32) = nI (jj + 1) by rw [nI_succ]]
        exact ih (d + 2) i (jj + 1) i' cs S o mn V V3 K he hN ho (by omega) (by omega) (by omega) hg hl hS (tp_vt hv hv3) hq3 hK
      · rw [e82] at ct ct2
        exact hK V' hv (Or.inr ⟨i', cs', p, ms, by omega, kF, hs, k1, k2, k3, k4, k5, k6, ct, ct2⟩)
theorem tp_43 {N : Nat} (h1 : tp_S G L xs l t F tk nb pl 44 4 4 9 9 false pp_Tm N) : tp_S G L xs l t F tk nb pl 43 5 3 7 7 false pp_Ts N := by
  intro e i cs S o mn V K he hN ho hi hg hs hl hS hf hf' hK
  obtain ⟨d, rfl⟩ : ∃ d, e = d + 2 := ⟨e - 2, by omega⟩
  exact iv_43_0 (h1 (d + 1) i cs S o mn V _ (by omega) hN ho hi hg hs hl (pp_t2 (by omega) hS) hf hf' (fun V' hv hq => tp_43l h1 F (d + 2) i 0 i cs S o mn V V' K he hN ho (Nat.le_refl _) (Nat.zero_le _) (by omega) hg hl hS hv (tp_qw (by omega) (by omega) (fun _ _ q => q) hq) hK))
theorem tp_f7 {j : Nat} {V : aa_V} {x : pp_X} {i : Nat} {mn : Bool} {cs : List pp_S} {i0 : Nat} (hs : tp_s t V i0 cs) (hc : cs.length ≤ 160) (hj : j < F) (hm : pp_mr tk nb pl 0 i x mn (.inr (pl j))) : tp_b t F tk nb pl (aa_up V 80 7 (pl j)) i x mn := by
  refine ⟨⟨cs.length, hc, ?_⟩, j, hj, aa_up_s, hm⟩
  rw [aa_up_c (by omega)]
  exact hs.2.2.1
/-- what opens: the level behind it, then its sign -/
theorem tp_un {d i hk l' hs ls c : Nat} {cs : List pp_S} {S : List Nat} {o : Nat} {mn mn' : Bool} {T Ts : Int32 → List Nat → Prop} {st : Int32} {V' V2 : aa_V} {K : aa_K}
    (ht : t < 6) (hF : F ≤ 161) (ho : o < 5) (hi : cs.length + 1 ≤ i) (hh : hk ≤ 5) (hhs : hk ≤ hs + 5) (hls : l' ≤ ls) (hcl : l' ≤ c) (hb : pp_op (tk i) mn c mn') (hc : nv_c (nI c) 0 st) (he : pp_e (nI c, 0) = 1) (hct : pp_ct [c] = 1) (hT : ∀ x p, Ts x p → T x (p ++ [c]))
    (hv : tp_v t V' V2) (hq : tp_q t F tk nb pl hs ls (i + 1) Ts V2 (i + 1) cs (c :: S) (o + 1) mn')
    (h : ∀ V3, tp_v t V' V3 → tp_q t F tk nb pl hk l' i T V3 i cs S o mn → K none V3) : ab_E G (ac_ST L xs) l (d + 1) ac_SK 70 [.ref (87 + 3 * t), .int st] V2 K := by
  rcases hq with hq | hq
  · refine tp_b70 ht hq (fun W hw hbW => h W (tp_vt hv hw) (Or.inl ?_))
    obtain ⟨n, j, hj, e7, hm⟩ := hbW
    exact ⟨n, j, hj, e7, pp_c_opn hb ho hm⟩
  · obtain ⟨i2, cs2, p2, ms2, a1, a2, a3, a4, a5, a6, a7, a8, a9⟩ := hq
    refine tp_s70 (s := (nI c, 0)) ht a3 (by omega) hc (fun W hw hsW => h W (tp_vt hv hw) (Or.inr ⟨i2, (nI c, 0) :: cs2, p2 ++ [c], ms2, by omega, a2, hsW, ?_, ?_, ?_, ?_, ?_, hT _ _ a9⟩))
    · rw [List.length_cons]; omega
    · intro b h1 hb1 hh1
      exact pp_h1 (a5 b h1 hb1 (by omega)) he (by omega)
    · rw [pp_wk_app, ← a6]; rfl
    · intro a ha
      rcases List.mem_append.mp ha with ha | ha
      · exact Nat.le_trans hls (a7 a ha)
      · rw [List.mem_singleton.mp ha]; exact hcl
    · intro r hr
      rw [List.append_assoc, pp_ct_app, hct, show o + (pp_ct p2 + 1) = o + 1 + pp_ct p2 by omega] at hr
      exact pp_c_opn hb ho (a8 r hr)
theorem tp_46 {d i o : Nat} {V : aa_V} {K : aa_K} {cs : List pp_S} (hg : tp_g t F tk nb pl V) (hi : i < F) (hs : tp_s t V i cs) (ho : o ≤ 5) (h : o < 5 → K (some (.int 1)) (aa_up V 80 6 (nI (i + 1)))) (h' : o = 5 → K (some (.int 0)) (aa_up V 80 7 (pl i))) : ab_E G (ac_ST L xs) l (d + 2) ac_SK 46 [.ref 80, .int (nI o)] V K := by
  obtain ⟨e6, e6n, e82, e83, e84, evp, elt⟩ := tp_tk hg hi hs
  refine iv_46_0 ⟨fun c => ?_, fun c => ⟨fun _ => ⟨fun _ => ⟨evp, ?_⟩, fun c => absurd elt c⟩, fun c => absurd hs.2.1 c⟩⟩
  · rw [show (5 : Int32) = nI 5 from rfl, zz_nlt (by omega) (by omega)] at c
    rw [e6, show nI i + (1 : Int32) = nI (i + 1) by rw [nI_succ]]
    exact h c
  · rw [show (5 : Int32) = nI 5 from rfl, zz_nlt (by omega) (by omega)] at c
    rw [e83]
    exact h' (by omega)
theorem tp_39 {d i : Nat} {x : Int32} {V : aa_V} {K : aa_K} {cs : List pp_S} (hg : tp_g t F tk nb pl V) (hi : i < F) (hs : tp_s t V i cs) (h : tk i = x → K none (aa_up V 80 6 (nI (i + 1)))) (h' : tk i ≠ x → K none (aa_up V 80 7 (pl i))) : ab_E G (ac_ST L xs) l (d + 2) ac_SK 39 [.ref 80, .int x] V K := by
  obtain ⟨e6, e6n, e82, e83, e84, evp, elt⟩ := tp_tk hg hi hs
  refine iv_39_0 ⟨fun _ => ⟨fun _ => ⟨evp, fun c => ?_, fun c => ⟨fun _ => ⟨fun _ => ⟨evp, ?_⟩, fun c => absurd elt c⟩, fun c => absurd hs.2.1 c⟩⟩, fun c => absurd elt c⟩, fun c => absurd hs.2.1 c⟩
  · rw [e82] at c
    rw [e6, show nI i + (1 : Int32) = nI (i + 1) by rw [nI_succ]]
    exact h c
  · rw [e82] at c
    rw [e83]
    exact h' c
theorem tp_39f {d : Nat} {x : Int32} {V : aa_V} {K : aa_K} (hf : ¬ V 80 7 = -1) (hx : ¬ (257 : Int32) = x) (h : K none V) : ab_E G (ac_ST L xs) l (d + 2) ac_SK 39 [.ref 80, .int x] V K :=
  iv_39_0 ⟨fun c => absurd c hf, fun _ => ⟨fun c => absurd c hx, fun _ => ⟨fun c => absurd c hf, fun _ => h⟩⟩⟩
end
