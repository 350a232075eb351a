/-! the class reads: 'not', comparisons, operands, and all levels by what is left -/
section
variable {G : ab_G} {L : Nat} {xs : Nat → Int32} {l : Launch} {t F : Nat} {tk nb pl : Nat → Int32}
theorem tp_42 {N : Nat} (h1 : tp_S G L xs l t F tk nb pl 43 5 3 7 7 false pp_Ts (N + 1)) (h2 : tp_S G L xs l t F tk nb pl 42 6 2 4 5 true pp_Tn N) : tp_S G L xs l t F tk nb pl 42 6 2 4 5 true pp_Tn (N + 1) := by
  intro e i cs S o mn V K he hN ho hi hg hs hl hS hf hf' hK
  obtain ⟨d, rfl⟩ : ∃ d, e = d + 2 := ⟨e - 2, by omega⟩
  have hF := hg.1.2.1
  have ht := hg.1.1
  have g3 := hg.2.2.1
  have hmn := hf rfl
  obtain ⟨e6, e6n, e82, e83, e84, evp, elt⟩ := tp_tk hg hi hs
  refine iv_42_0 ⟨fun _ => ⟨fun _ => ⟨evp, fun ct => ?_, fun ct => ?_⟩, fun c => absurd elt c⟩, fun c => absurd hs.2.1 c⟩
  · rw [e82] at ct
    have kF1 : i + 1 < F := g3 i hi (by rw [ct]; decide) (by rw [ct]; decide)
    have hop : pp_op (tk i) mn 4 true := Or.inr (Or.inr ⟨ct, hmn, rfl, rfl⟩)
    obtain ⟨d', rfl⟩ : ∃ d', d = d' + 1 := ⟨d - 1, by omega⟩
    refine tp_46 (d := d') hg hi hs ho (fun c => ⟨fun h => absurd h (by decide), fun _ => ?_⟩) (fun c => ⟨fun _ => hK _ tp_v7 (Or.inl (tp_f7 hs (by omega) hi ?_)), fun h => absurd rfl h⟩)
    · rw [show nI o + (1 : Int32) = nI (o + 1) by rw [nI_succ]]
      refine h2 (d' + 1 + 1) (i + 1) cs (4 :: S) (o + 1) true _ _ (by omega) (by omega) (by omega) kF1 (tp_gv tp_v6 hg) (tp_s6 hs _) (by omega) (show 4 < 5 by omega) (fun _ => rfl) (fun h => by cases h) (fun V2 hv2 hq2 => ⟨87 + 3 * t, tp_rf (tp_gv (tp_vt tp_v6 hv2) hg), tp_is ht, ?_⟩)
      exact tp_un (d := d' + 1) (V' := V) (hk := 2) (l' := 4) (T := pp_Tn) ht hF c hl (by omega) (by omega) (by omega) (by omega) hop (Or.inr (Or.inr (Or.inl ⟨rfl, rfl⟩))) rfl rfl (fun x p q => ⟨q.1, q.2.1, q.2.2.1, fun z => pp_N_app (q.2.2.2 z) _⟩) (tp_vt tp_v6 hv2) hq2 (fun V3 hv3 hq3 => hK V3 hv3 hq3)
    · rw [c]
      exact pp_c_ful hop
  · rw [e82] at ct
    refine h1 (d + 1) i cs S o mn V _ (by omega) hN ho hi hg hs hl (pp_t2 (by omega) hS) (fun h => by cases h) (fun _ _ => ct) (fun V1 hv1 hq1 => ?_)
    show (V1 80 7 = -1 → _) ∧ _
    rcases hq1 with hb | ⟨i', cs', p, ms, k0, kF, hs1, k1, k2, k3, k4, k5, k6⟩
    · exact ⟨fun c => absurd c (tp_bf hg.2.2.2.2 hb), fun _ => hK V1 hv1 (Or.inl hb)⟩
    · have hg1 := tp_gv hv1 hg
      obtain ⟨e6, e6n, e82, e83, e84, evp, elt⟩ := tp_tk hg1 kF hs1
      have step : ∀ (c : Nat) (st : Int32) (V2 : aa_V) (K0 : aa_K), pp_cm (tk i') c → c = 5 ∨ c = 6 → pp_ct [c] = 0 → pp_e (nI c, 0) = 2 → nv_c (nI c) 0 st → tp_v t (aa_up V1 80 6 (nI (i' + 1))) V2 → tp_q t F tk nb pl 3 7 (i' + 1) pp_Ts V2 (i' + 1) cs' (c :: S) o false → (∀ V3, tp_v t V V3 → tp_q t F tk nb pl 2 4 i pp_Tn V3 i cs S o mn → K0 none V3) → ab_E G (ac_ST L xs) l (d + 1) ac_SK 70 [.ref (87 + 3 * t), .int st] V2 K0 := by
        intro c st V2 K0 hcm h56 hct he2 hc hv2 hq2 hK0
        have hv : tp_v t V V2 := tp_vt hv1 (tp_vt tp_v6 hv2)
        have lift : ∀ r, pp_mr tk nb pl 0 (i' + 1) (c :: S, cs', o) false r → pp_mr tk nb pl 0 i (S, cs, o) mn r := fun r hr => by
          rw [k3] at hr
          exact k5 r (pp_cmp hcm hS k4 hr)
        rcases hq2 with hq | hq
        · refine tp_b70 ht hq (fun W hw hbW => hK0 W (tp_vt hv hw) (Or.inl ?_))
          obtain ⟨n, j, hj, e7, hm⟩ := hbW
          exact ⟨n, j, hj, e7, lift _ hm⟩
        · obtain ⟨i2, cs2, p2, ms2, a1, a2, a3, a4, a5, a6, a7, a8, a9⟩ := hq
          refine tp_s70 (s := (nI c, 0)) ht a3 (by omega) hc (fun W hw hsW => hK0 W (tp_vt hv hw) (Or.inr ⟨i2, (nI c, 0) :: cs2, p2 ++ [c], ms2, by omega, a2, hsW, ?_, ?_, ?_, ?_, ?_, a9.1, a9.2.1, a9.2.2, fun _ => ⟨p2, c, [], rfl, a7, h56⟩⟩))
          · rw [List.length_cons]; omega
          · intro b h1 hb1 hh1
            exact pp_h2 (a5 b (h1 + 1) (k2 b h1 hb1 (by omega)) (by omega)) he2 (by omega)
          · rw [pp_wk_app, ← a6]; rfl
          · intro a ha
            rcases List.mem_append.mp ha with ha | ha
            · have := a7 a ha; omega
            · rw [List.mem_singleton.mp ha]; omega
          · intro r hr
            rw [List.append_assoc, pp_ct_app, hct, Nat.add_zero] at hr
            exact lift r (a8 r hr)
      refine ⟨fun _ => ⟨fun _ => ⟨evp, fun ct2 => ?_, fun ct2 => ⟨fun ct3 => ?_, fun ct3 => ?_⟩⟩, fun c => absurd elt c⟩, fun c => absurd hs1.2.1 c⟩
      · have cq := ct2
        rw [e82] at ct2
        have kF1 : i' + 1 < F := g3 i' kF (by rw [ct2]; decide) (by rw [ct2]; decide)
        rw [show aa_up V1 80 6 (V1 80 6 + (1 : Int32)) = aa_up V1 80 6 (nI (i' + 1)) by rw [e6, show nI i' + (1 : Int32) = nI (i' + 1) by rw [nI_succ]]]
        refine h1 (d + 1) (i' + 1) cs' (5 :: S) o false _ _ (by omega) (by omega) ho kF1 (tp_gv tp_v6 hg1) (tp_s6 hs1 _) (by omega) (show 5 < 7 by omega) (fun h => by cases h) (fun _ h => by cases h) (fun V2 hv2 hq2 => ⟨87 + 3 * t, tp_rf (tp_gv (tp_vt tp_v6 hv2) hg1), fun _ => ⟨tp_is ht, ?_⟩, fun c => absurd cq c⟩)
        exact step 5 _ V2 _ (Or.inl ⟨ct2, rfl⟩) (Or.inl rfl) rfl rfl (Or.inr (Or.inr (Or.inr (Or.inr (Or.inr (Or.inr (Or.inl ⟨rfl, rfl⟩))))))) hv2 hq2 (fun V3 hv3 hq3 => hK V3 hv3 hq3)
      · have cq := ct2
        have cq3 := ct3
        rw [e82] at ct3
        have kF1 : i' + 1 < F := g3 i' kF (by rw [ct3]; decide) (by rw [ct3]; decide)
        rw [show aa_up V1 80 6 (V1 80 6 + (1 : Int32)) = aa_up V1 80 6 (nI (i' + 1)) by rw [e6, show nI i' + (1 : Int32) = nI (i' + 1) by rw [nI_succ]]]
        refine h1 (d + 1) (i' + 1) cs' (6 :: S) o false _ _ (by omega) (by omega) ho kF1 (tp_gv tp_v6 hg1) (tp_s6 hs1 _) (by omega) (show 6 < 7 by omega) (fun h => by cases h) (fun _ h => by cases h) (fun V2 hv2 hq2 => ⟨87 + 3 * t, tp_rf (tp_gv (tp_vt tp_v6 hv2) hg1), fun c => absurd c cq, fun _ => ⟨tp_is ht, ?_⟩⟩)
        exact step 6 _ V2 _ (Or.inr ⟨ct3, rfl⟩) (Or.inr rfl) rfl rfl (Or.inr (Or.inr (Or.inr (Or.inr (Or.inr (Or.inr (Or.inr (Or.inl ⟨rfl, rfl⟩)))))))) hv2 hq2 (fun V3 hv3 hq3 => hK V3 hv3 hq3)
      · rw [e82] at ct2 ct3
        exact hK V1 hv1 (Or.inr ⟨i', cs', p, ms, k0, kF, hs1, k1, fun b h q1 q2 => k2 b h q1 (by omega), k3, fun c hc => Nat.le_trans (by omega) (k4 c hc), k5, k6.1, k6.2.1, k6.2.2, fun z => by rcases z with z | z; exact absurd z ct2; exact absurd z ct3⟩)
theorem tp_300 {x : Int32} (h1 : ¬ x < 300) (h2 : ¬ 305 < x) : zb (x - 300) 5 := by
  have a : (300 : Int32).toInt = 300 := by decide
  have b : (305 : Int32).toInt = 305 := by decide
  rw [zz_lt, a] at h1
  rw [zz_lt, b] at h2
  have : x = 300 ∨ x = 301 ∨ x = 302 ∨ x = 303 ∨ x = 304 ∨ x = 305 := by
    have e : x.toInt = 300 ∨ x.toInt = 301 ∨ x.toInt = 302 ∨ x.toInt = 303 ∨ x.toInt = 304 ∨ x.toInt = 305 := by omega
    rcases e with e | e | e | e | e | e
    · exact Or.inl (zz_eq.mpr (e.trans (by decide)))
    · exact Or.inr (Or.inl (zz_eq.mpr (e.trans (by decide))))
    · exact Or.inr (Or.inr (Or.inl (zz_eq.mpr (e.trans (by decide)))))
    · exact Or.inr (Or.inr (Or.inr (Or.inl (zz_eq.mpr (e.trans (by decide))))))
    · exact Or.inr (Or.inr (Or.inr (Or.inr (Or.inl (zz_eq.mpr (e.trans (by decide)))))))
    · exact Or.inr (Or.inr (Or.inr (Or.inr (Or.inr (zz_eq.mpr (e.trans (by decide)))))))
  rcases this with q | q | q | q | q | q <;> rw [q] <;> exact ⟨by decide, by decide⟩
theorem tp_45 {N : Nat} (h1 : tp_S G L xs l t F tk nb pl 45 3 5 10 99 false pp_T1 N) (h2 : tp_S G L xs l t F tk nb pl 40 8 0 2 2 true pp_To N) : tp_S G L xs l t F tk nb pl 45 3 5 10 99 false pp_T1 (N + 1) := by
  intro e i cs S o mn V K he hN ho hi hg hs hl hS hf hf' hK
  obtain ⟨d, rfl⟩ : ∃ d, e = d + 3 := ⟨e - 3, by omega⟩
  have hF := hg.1.2.1
  have ht := hg.1.1
  have g3 := hg.2.2.1
  have g4 := hg.2.2.2.1
  obtain ⟨e6, e6n, e82, e83, e84, evp, elt⟩ := tp_tk hg hi hs
  have one : ∀ (s : pp_S) (st : Int32) (K0 : aa_K), tk i ≠ 256 → tk i ≠ 257 → pp_e s = 0 → nv_c s.1 s.2 st → (∀ r, pp_mr tk nb pl 1 (i + 1) (S, s :: cs, o) false r → pp_mr tk nb pl 0 i (S, cs, o) mn r) → (∀ W, K none (aa_up W 80 6 (W 80 6 + 1)) → K0 none W) → ∀ d, ab_E G (ac_ST L xs) l (d + 1) ac_SK 70 [.ref (87 + 3 * t), .int st] V K0 := by
    intro s st K0 n1 n2 he hc hm hK0 d
    refine tp_s70 (s := s) ht hs (by omega) hc (fun W hw hsW => hK0 W ?_)
    rw [hsW.1, show nI i + (1 : Int32) = nI (i + 1) by rw [nI_succ]]
    refine hK _ (tp_vt hw tp_v6) (Or.inr ⟨i + 1, s :: cs, [], s :: cs, by omega, g3 i hi n1 n2, tp_s6 hsW _, ?_, fun b h q1 q2 => pp_h0 q1 he (by omega), rfl, fun c hc => (by cases hc), fun r hr => hm r hr, trivial⟩)
    rw [List.length_cons]; omega
  have neg : tk i = 45 → ∀ K0 : aa_K, (∀ W, K none W → K0 none W) → ab_E G (ac_ST L xs) l (d + 2) ac_SK 46 [.ref 80, .int (nI o)] V (aa_rI fun x1 V1 => (x1 = 0 → K0 none V1) ∧ (¬ x1 = 0 → ab_E G (ac_ST L xs) l (d + 2) ac_SK 45 [.ref 80, .int (nI o + 1)] V1 (aa_rV fun V2 => ∃ q3 : Nat, (V2 80 8).toNatClampNeg = q3 + 1 ∧ aa_is ac_SK q3 6 ∧ ab_E G (ac_ST L xs) l (d + 2) ac_SK 70 [.ref q3, .int 20001] V2 (aa_rV fun V4 => K0 none V4)))) := by
    intro ct K0 hK0
    have kF1 : i + 1 < F := g3 i hi (by rw [ct]; decide) (by rw [ct]; decide)
    have hop : pp_op (tk i) mn 10 false := Or.inr (Or.inl ⟨ct, rfl, rfl⟩)
    refine tp_46 hg hi hs ho (fun c => ⟨fun h => absurd h (by decide), fun _ => ?_⟩) (fun c => ⟨fun _ => hK0 _ (hK _ tp_v7 (Or.inl (tp_f7 hs (by omega) hi ?_))), fun h => absurd rfl h⟩)
    · rw [show nI o + (1 : Int32) = nI (o + 1) by rw [nI_succ]]
      refine h1 (d + 2) (i + 1) cs (10 :: S) (o + 1) false _ _ (by omega) (by omega) (by omega) kF1 (tp_gv tp_v6 hg) (tp_s6 hs _) (by omega) (show 10 < 99 by omega) (fun h => by cases h) (fun _ h => by cases h) (fun V2 hv2 hq2 => ⟨87 + 3 * t, tp_rf (tp_gv (tp_vt tp_v6 hv2) hg), tp_is ht, ?_⟩)
      exact tp_un (V' := V) (hk := 5) (l' := 10) (T := pp_T1) ht hF c hl (by omega) (by omega) (by omega) (by omega) hop (Or.inr (Or.inr (Or.inr (Or.inl ⟨rfl, rfl⟩)))) rfl rfl (fun _ _ _ => trivial) (tp_vt tp_v6 hv2) hq2 (fun V3 hv3 hq3 => hK0 _ (hK V3 hv3 hq3))
    · rw [c]
      exact pp_c_ful hop
  have par : tk i = 40 → ∀ K0 : aa_K, (∀ W, K none W → K0 none W) → ab_E G (ac_ST L xs) l (d + 2) ac_SK 46 [.ref 80, .int (nI o)] V (aa_rI fun x1 V1 => (x1 = 0 → K0 none V1) ∧ (¬ x1 = 0 → ab_E G (ac_ST L xs) l (d + 2) ac_SK 40 [.ref 80, .int (nI o + 1)] V1 (aa_rV fun V2 => ab_E G (ac_ST L xs) l (d + 2) ac_SK 39 [.ref 80, .int 41] V2 (aa_rV fun V3 => K0 none V3)))) := by
    intro ct K0 hK0
    have kF1 : i + 1 < F := g3 i hi (by rw [ct]; decide) (by rw [ct]; decide)
    have hop : pp_op (tk i) mn 1 true := Or.inl ⟨ct, rfl, rfl⟩
    refine tp_46 hg hi hs ho (fun c => ⟨fun h => absurd h (by decide), fun _ => ?_⟩) (fun c => ⟨fun _ => hK0 _ (hK _ tp_v7 (Or.inl (tp_f7 hs (by omega) hi ?_))), fun h => absurd rfl h⟩)
    · rw [show nI o + (1 : Int32) = nI (o + 1) by rw [nI_succ]]
      refine h2 (d + 2) (i + 1) cs (1 :: S) (o + 1) true _ _ (by omega) (by omega) (by omega) kF1 (tp_gv tp_v6 hg) (tp_s6 hs _) (by omega) (show 1 < 2 by omega) (fun _ => rfl) (fun h => by cases h) (fun V2 hv2 hq2 => ?_)
      show ab_E G (ac_ST L xs) l (d + 2) ac_SK 39 [.ref 80, .int 41] V2 (aa_rV fun V3 => K0 none V3)
      have hv : tp_v t V V2 := tp_vt tp_v6 hv2
      rcases hq2 with hb | ⟨i2, cs2, p2, ms2, a1, a2, a3, a4, a5, a6, a7, a8, a9⟩
      · refine tp_39f (tp_bf hg.2.2.2.2 hb) (by decide) (hK0 _ (hK V2 hv (Or.inl ?_)))
        obtain ⟨n, j, hj, e7, hm⟩ := hb
        exact ⟨n, j, hj, e7, pp_c_opn hop c hm⟩
      · refine tp_39 (tp_gv hv hg) a2 a3 (fun ct2 => hK0 _ (hK _ (tp_vt hv tp_v6) (Or.inr ⟨i2 + 1, cs2, [], cs2, by omega, g3 i2 a2 (by rw [ct2]; decide) (by rw [ct2]; decide), tp_s6 a3 _, by omega, fun b h q1 q2 => a5 b h q1 (by omega), rfl, fun c hc => (by cases hc), fun r hr => ?_, trivial⟩))) (fun ct2 => hK0 _ (hK _ (tp_vt hv tp_v7) (Or.inl (tp_f7 a3 (by omega) a2 ?_))))
        · refine pp_c_opn hop c (a8 r (pp_cl a7 ct2 ?_))
          rw [← a6]
          exact hr
        · refine pp_c_opn hop c (a8 _ ?_)
          by_cases q : tk i2 = 59
          · exact pp_clb a7 q
          · exact pp_end a9 ct2 q
    · rw [c]
      exact pp_c_ful hop
  have bad : tk i ≠ 258 → (tk i < 300 ∨ 305 < tk i) → tk i ≠ 40 → tk i ≠ 45 → K none (aa_up V 80 7 (V 83 (V 80 6).toNatClampNeg)) := by
    intro a1 a2 a3 a4
    rw [e83]
    refine hK _ tp_v7 (Or.inl (tp_f7 hs (by omega) hi (pp_c_no a1 a2 a3 a4 (fun q => ?_))))
    cases hm : mn
    · rfl
    · exact absurd q (hf' rfl hm)
  refine iv_45_0 ⟨fun _ => ⟨fun _ => ⟨evp, fun ct => ?_, fun c1 => ⟨fun c2 => ⟨fun ct => ?_, fun c3 => ⟨fun ct => ?_, fun c4 => ⟨fun _ => ⟨fun _ => ⟨evp, ?_⟩, fun c => absurd elt c⟩, fun c => absurd hs.2.1 c⟩⟩⟩, fun c2 => ⟨fun c5 => ⟨fun ct => ?_, fun c3 => ⟨fun ct => ?_, fun c4 => ⟨fun _ => ⟨fun _ => ⟨evp, ?_⟩, fun c => absurd elt c⟩, fun c => absurd hs.2.1 c⟩⟩⟩, fun c5 => ?_⟩⟩⟩, fun c => absurd elt c⟩, fun c => absurd hs.2.1 c⟩
  · rw [e82] at ct
    refine ⟨87 + 3 * t, tp_rf hg, evp, tp_is ht, ?_⟩
    rw [e84]
    exact one (0, nb i) (nb i) _ (by rw [ct]; decide) (by rw [ct]; decide) rfl (Or.inl ⟨rfl, g4 i hi ct, rfl⟩) (fun r hr => pp_c_num ct hr) (fun W h => h) _
  · rw [e82] at ct
    exact neg ct _ (fun W h => h)
  · rw [e82] at ct
    exact par ct _ (fun W h => h)
  · rw [e82] at c1 c2 c3 c4
    exact bad c1 (Or.inl c2) c4 c3
  · rw [e82] at ct c2
    exact absurd (by rw [ct]; decide) c2
  · rw [e82] at ct c2
    exact absurd (by rw [ct]; decide) c2
  · rw [e82] at c1 c5 c3 c4
    exact bad c1 (Or.inr c5) c4 c3
  · rw [e82] at c1 c2 c5
    refine ⟨87 + 3 * t, tp_rf hg, tp_is ht, ?_⟩
    rw [e82]
    refine vc_71_0 ⟨tp_is ht, ?_⟩
    exact one (1, tk i - 300) (10000 + (tk i - 300)) _ (fun q => c2 (by rw [q]; decide)) (fun q => c2 (by rw [q]; decide)) rfl (Or.inr (Or.inl ⟨rfl, tp_300 c2 c5, rfl⟩)) (fun r hr => pp_c_nam c2 c5 hr) (fun W h => h) _
theorem tp_all : ∀ N : Nat, tp_S G L xs l t F tk nb pl 45 3 5 10 99 false pp_T1 N ∧ tp_S G L xs l t F tk nb pl 42 6 2 4 5 true pp_Tn N ∧ tp_S G L xs l t F tk nb pl 40 8 0 2 2 true pp_To N
  | 0 => ⟨fun e i cs S o mn V K he hN ho hi => by omega, fun e i cs S o mn V K he hN ho hi => by omega, fun e i cs S o mn V K he hN ho hi => by omega⟩
  | N + 1 => by
    obtain ⟨a, b, c⟩ := tp_all N
    have h45 := tp_45 a c
    have h42 := tp_42 (tp_43 (tp_44 h45)) b
    exact ⟨h45, h42, tp_40 (tp_41 h42)⟩
theorem tp_or : tp_S G L xs l t F tk nb pl 40 8 0 2 2 true pp_To F := (tp_all F).2.2
theorem tp_40f {d : Nat} {o : Int32} {V : aa_V} {K : aa_K} (hf : ¬ V 80 7 = -1) (h : K none V) : ab_E G (ac_ST L xs) l (d + 8) ac_SK 40 [.ref 80, .int o] V K := by
  refine iv_40_0 (iv_41_0 (iv_42_0 ⟨fun c => absurd c hf, fun _ => iv_43_0 (iv_44_0 (iv_45_0 ⟨fun c => absurd c hf, fun _ => ⟨fun c => absurd c hf, fun _ => ?_⟩⟩))⟩))
  refine iv_44_7 ⟨fun _ => ⟨fun c => absurd c hf, fun _ => ?_⟩, fun _ => ?_⟩ <;>
  refine iv_43_7 ⟨fun _ => ⟨fun c => absurd c hf, fun _ => ⟨fun c => absurd c hf, fun _ => ?_⟩⟩, fun _ => ?_⟩ <;>
  refine ⟨fun c => absurd c hf, fun _ => ?_⟩ <;>
  refine iv_41_7 ⟨fun _ => ⟨fun c => absurd c hf, fun _ => ?_⟩, fun _ => ?_⟩ <;>
  exact iv_40_7 ⟨fun _ => ⟨fun c => absurd c hf, fun _ => h⟩, fun _ => h⟩
end
