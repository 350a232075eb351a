/-! text: the one and the other -/
theorem te_e {how num st : Int32} (h : nv_c how num st) : nv_e st = pp_e (how, num) := by
  rcases h with ⟨a, b, c⟩ | ⟨a, b, c⟩ | ⟨a, c⟩ | ⟨a, c⟩ | ⟨a, c⟩ | ⟨a, c⟩ | ⟨a, c⟩ | ⟨a, c⟩ | ⟨a, c⟩ | ⟨a, c⟩ | ⟨a, c⟩
  · subst a c
    obtain ⟨n, e, hn⟩ := zb_i b
    rw [nv_e_0 (by rw [e, show (20000 : Int32) = nI 20000 from rfl, zz_nlt (by omega) (by omega)]; omega)]
    rfl
  · subst a c
    obtain ⟨n, e, hn⟩ := zb_i b
    rw [nv_e_0 (by rw [e, show (20000 : Int32) = nI 20000 from rfl, show (10000 : Int32) = nI 10000 from rfl, nI_plus, zz_nlt (by omega) (by omega)]; omega)]
    rfl
  all_goals subst a c; rfl
theorem te_h {b m : List pp_S} {h : Nat} (q : pp_h b m h) {r : Nat → Int32} : pp_p r m → pp_p r b ∧ ∃ n, m.length = b.length + n ∧ (∀ k, k < n → nv_e (r (b.length + k)) ≤ nv_h (fun j => r (b.length + j)) k ∧ nv_h (fun j => r (b.length + j)) k - nv_e (r (b.length + k)) < 64) ∧ nv_h (fun j => r (b.length + j)) n = h := by
  refine q (fun m h => pp_p r m → pp_p r b ∧ ∃ n, m.length = b.length + n ∧ (∀ k, k < n → nv_e (r (b.length + k)) ≤ nv_h (fun j => r (b.length + j)) k ∧ nv_h (fun j => r (b.length + j)) k - nv_e (r (b.length + k)) < 64) ∧ nv_h (fun j => r (b.length + j)) n = h) (fun z => ⟨z, 0, rfl, fun k hk => by omega, rfl⟩) (fun m h s ih h1 h2 z => ?_)
  obtain ⟨ib, n, i1, i2, i3⟩ := ih z.2
  have e : nv_e (r (b.length + n)) = pp_e s := by
    rw [← i1]
    exact te_e z.1
  refine ⟨ib, n + 1, by rw [List.length_cons, i1]; rfl, fun k hk => ?_, ?_⟩
  · by_cases kn : k = n
    · rw [kn, e, i3]; exact ⟨h1, h2⟩
    · exact i2 k (by omega)
  · rw [nv_h_s, i3, e]
theorem te_m {M : Nat} {a b r : Nat → Int32} : ∀ {m : List pp_S}, mq_m M a b m → pp_p r m → ∀ j, j < m.length → nv_c (a (M + j)) (b (M + j)) (r j)
  | [], _, _, j, hj => by cases hj
  | s :: m, h, q, j, hj => by
    by_cases e : j = m.length
    · rw [e, h.1.1, h.1.2]; exact q.1
    · exact te_m h.2 q.2 j (by rw [List.length_cons] at hj; omega)
def te (T M : Nat) (V X : aa_V) : Prop := (∀ c, c ≠ 0 → c ≠ 80 → c ≠ 82 → c ≠ 83 → c ≠ 84 → c ≠ 87 + 3 * T → c ≠ 88 + 3 * T → c ≠ 105 → c ≠ 117 → c ≠ 118 → c ≠ 119 → c ≠ 120 → c ≠ 121 → X c = V c) ∧ (∀ a, a ≠ 11 → X 0 a = V 0 a) ∧ (∀ a, ¬ (22 ≤ a ∧ a ≤ 28) → a ≠ 19 → a ≠ 20 → X 105 a = V 105 a) ∧ (∀ j, j < M → X 117 j = V 117 j ∧ X 118 j = V 118 j) ∧ (∀ j, j ≠ 2 * T → j ≠ 2 * T + 1 → X 119 j = V 119 j ∧ X 120 j = V 120 j) ∧ X 80 1 = 0 ∧ X 105 19 = 0
theorem te_nv {T M : Nat} {V X : aa_V} (hT : T < 6) (h : te T M V X) (hV : nv V) (ht : nv_t X) : nv X := by
  obtain ⟨n, r, w, a, p, o, b, k, s, f, t⟩ := hV
  obtain ⟨h1, h2, h3, h4, h5, h6, h7⟩ := h
  have hc : ∀ c, 0 < c → c < 80 ∨ 121 < c ∨ (105 < c ∧ c < 117) → X c = V c := fun c c0 c1 => h1 c (by omega) (by omega) (by omega) (by omega) (by omega) (by omega) (by omega) (by omega) (by omega) (by omega) (by omega) (by omega) (by omega)
  refine ⟨?_, nv_rc (fun c _ _ => hc c (by omega) (by omega)) (hc 106 (by omega) (by omega)) r, nv_wG (fun c _ => hc c (by omega) (by omega)) (h3 11 (by omega) (by omega) (by omega)) (h3 12 (by omega) (by omega) (by omega)) w, nv_aG (fun c _ => hc c (by omega) (by omega)) (h3 34 (by omega) (by omega) (by omega)) a, nv_pG (fun c _ => hc c (by omega) (by omega)) (h3 46 (by omega) (by omega) (by omega)) (h3 47 (by omega) (by omega) (by omega)) (h3 48 (by omega) (by omega) (by omega)) p, nv_oG (fun c _ => hc c (by omega) (by omega)) (h3 54 (by omega) (by omega) (by omega)) o, nv_bG (fun c _ => hc c (by omega) (by omega)) (h3 58 (by omega) (by omega) (by omega)) b, nv_kc (fun c _ _ => hc c (by omega) (by omega)) (hc 146 (by omega) (by omega)) (by rw [hc 64 (by omega) (by omega)]) (h3 60 (by omega) (by omega) (by omega)) k, nv_sc (fun c _ _ => hc c (by omega) (by omega)) (hc 147 (by omega) (by omega)) (hc 148 (by omega) (by omega)) (hc 149 (by omega) (by omega)) (hc 73 (by omega) (by omega)) (hc 74 (by omega) (by omega)) s, ?_, ht⟩
  · refine ⟨?_, ?_⟩
    · rw [h3 2 (by omega) (by omega) (by omega), h2 13 (by omega)]; exact n.1
    · rw [h2 13 (by omega)]; exact n.2
  · refine ⟨⟨by rw [h6, h7], ?_⟩, fun i hi => ?_⟩
    · rw [h6]; exact ⟨by decide, by decide⟩
    · rw [h6] at hi
      exact absurd hi (by show ¬ i < (0 : Int32).toNatClampNeg; exact fun z => by have : i < 0 := z; omega)
theorem te_u {T M M' t : Nat} {V X : aa_V} (hT : T < 6) (ht : t < T) (h : te T M V X) (hM : V 105 25 = nI M) (hM0 : M ≤ 1200) (hM' : X 105 25 = nI M') (hMM : M ≤ M') (hM2 : M' ≤ 1200) (q : nv_u V t) : nv_u X t := by
  obtain ⟨h1, h2, h3, h4, h5, h6, h7⟩ := h
  obtain ⟨m1, m2, b1, b2, M0, q1, q2, q3, q4, q5, q6, q7, ⟨q8, q9⟩, q10, q11, q12, q13, q14, q15⟩ := q
  have eM : M0 = M := (nI_k (by omega) (by omega)).mp (q8.symm.trans hM)
  have e87 : X (87 + 3 * t) = V (87 + 3 * t) := h1 _ (by omega) (by omega) (by omega) (by omega) (by omega) (by omega) (by omega) (by omega) (by omega) (by omega) (by omega) (by omega) (by omega)
  have e88 : X (88 + 3 * t) = V (88 + 3 * t) := h1 _ (by omega) (by omega) (by omega) (by omega) (by omega) (by omega) (by omega) (by omega) (by omega) (by omega) (by omega) (by omega) (by omega)
  refine ⟨m1, m2, b1, b2, M', by rw [e87]; exact q1, by rw [e87]; exact q2, by rw [(h5 _ (by omega) (by omega)).1]; exact q3, by rw [(h5 _ (by omega) (by omega)).2]; exact q4, by rw [(h5 _ (by omega) (by omega)).1]; exact q5, by rw [(h5 _ (by omega) (by omega)).2]; exact q6, q7, ⟨hM', hM2⟩, by omega, by omega, fun j hj => ?_, fun j hj => ?_, by rw [e88]; exact q14, by rw [e88]; exact q15⟩
  · rw [(h4 (b1 + j) (by omega)).1, (h4 (b1 + j) (by omega)).2, e88]; exact q12 j hj
  · rw [(h4 (b2 + j) (by omega)).1, (h4 (b2 + j) (by omega)).2, e88]; exact q13 j hj
/-- the memory behind both readings -/
theorem te_of {T M a : Nat} {V W B X : aa_V} {n n2 : Int32} (hT : T < 6) (h : tr_v T V W) (h0 : W 80 1 = 0) (hB : B = W ∨ B = aa_up W 0 11 n) (k : mt_v T M B X) (ha : a = 20 ∨ a = 25) : te T M V (aa_up (aa_up X 105 19 0) 105 a n2) := by
  have b1 : ∀ c, c ≠ 0 → B c = W c := fun c hc => by
    rcases hB with q | q <;> rw [q]
    exact aa_up_c hc
  have b2 : ∀ j, j ≠ 11 → B 0 j = W 0 j := fun j hj => by
    rcases hB with q | q <;> rw [q]
    exact aa_up_o hj
  have w1 : ∀ c, c ≠ 80 → c < 82 ∨ 104 < c → W c = V c := fun c c0 c1 => h.1 c c0 (by omega) (by omega) (by omega) (by omega) (by omega)
  refine ⟨fun c a1 a2 a3 a4 a5 a6 a7 a8 a9 a10 a11 a12 a13 => ?_, fun j hj => ?_, fun j j1 j2 j3 => ?_, fun j hj => ⟨?_, ?_⟩, fun j j1 j2 => ⟨?_, ?_⟩, ?_, ?_⟩
  · rw [aa_up_c a8, aa_up_c a8, k.1 c a8 a9 a10 a11 a12 a13, b1 c a1]; exact h.1 c a2 a3 a4 a5 a6 a7
  · rw [aa_up_c (by decide), aa_up_c (by decide), k.1 0 (by decide) (by decide) (by decide) (by decide) (by decide) (by decide), b2 j hj, w1 0 (by decide) (by omega)]
  · rw [aa_up_o (by omega), aa_up_o j2, k.2.1 j j1, b1 105 (by decide), w1 105 (by decide) (by omega)]
  · rw [aa_up_c (by decide), aa_up_c (by decide), (k.2.2.1 j hj).1, b1 117 (by decide), w1 117 (by decide) (by omega)]
  · rw [aa_up_c (by decide), aa_up_c (by decide), (k.2.2.1 j hj).2, b1 118 (by decide), w1 118 (by decide) (by omega)]
  · rw [aa_up_c (by decide), aa_up_c (by decide), (k.2.2.2 j j1 j2).1, b1 119 (by decide), w1 119 (by decide) (by omega)]
  · rw [aa_up_c (by decide), aa_up_c (by decide), (k.2.2.2 j j1 j2).2, b1 120 (by decide), w1 120 (by decide) (by omega)]
  · rw [aa_up_c (by decide), aa_up_c (by decide), k.1 80 (by decide) (by decide) (by decide) (by decide) (by decide) (by decide), b1 80 (by decide)]; exact h0
  · rw [aa_up_o (by omega), aa_up_s]
theorem te_new {T M n : Nat} {X : aa_V} {m m2 : List pp_S} (h2 : X (87 + 3 * T) 2 = nI m.length) (h3 : X (87 + 3 * T) 3 = nI m2.length) (hp : pp_p (X (88 + 3 * T)) m2) (hm : mq_m M (X 117) (X 118) m2) (hh1 : pp_h [] m 1) (hh2 : pp_h m m2 1) (l2 : m2.length ≤ 160) (e25 : X 105 25 = nI (M + m2.length)) (hM : M + m2.length ≤ 1200) (a1 : X 119 (2 * T) = nI M) (a2 : X 120 (2 * T) = nI (M + m.length)) (a3 : X 119 (2 * T + 1) = nI (M + m.length)) (a4 : X 120 (2 * T + 1) = nI (M + m2.length)) : nv_u X T := by
  obtain ⟨pm, n2, e2, q2, q3⟩ := te_h hh2 hp
  obtain ⟨_, n1, e1, q0, q1⟩ := te_h hh1 pm
  have el : ∀ j, j < m2.length → nv_c (X 117 (M + j)) (X 118 (M + j)) (X (88 + 3 * T) j) := te_m hm hp
  have e1' : m.length = n1 := by rw [e1]; exact Nat.zero_add _
  have ez : (fun j => X (88 + 3 * T) (([] : List pp_S).length + j)) = X (88 + 3 * T) := funext fun j => by
    show X (88 + 3 * T) (0 + j) = _
    rw [Nat.zero_add]
  rw [ez] at q0 q1
  refine ⟨m.length, n2, M, M + m.length, M + m2.length, h2, by rw [h3, e2], a1, a2, a3, by rw [a4, e2, Nat.add_assoc], by omega, ⟨e25, hM⟩, by omega, by omega, fun j hj => el j (by omega), fun j hj => ?_, ?_, ⟨q2, q3⟩⟩
  · rw [Nat.add_assoc]
    exact el (m.length + j) (by omega)
  · rw [e1']
    refine ⟨fun k hk => ?_, q1⟩
    have := q0 k hk
    rw [show ([] : List pp_S).length + k = k from Nat.zero_add k] at this
    exact this
section
variable {G : ab_G} {L : Nat} {xs : Nat → Int32} {l : Launch}
theorem cs_149 {d : Nat} {V : aa_V} {Q : Int32 → Int32 → aa_V → Prop} (hV : nv V) (hQ : ∀ x W, nv W → Q x x W) : ab_E G (ac_ST L xs) l (d + 60) ac_SK 149 [.ref 0] V (aa_rI fun x V1 => ab_E G (ac_ST L xs) l (d + 60) ac_SK 223 [.ref 105] V1 (aa_rI fun y W => Q x y W)) := by
  obtain ⟨⟨e20, e21⟩, T, M, li, t1, t2, t3, t4, t5, t6, t7, t8⟩ := hV.2.2.2.2.2.2.2.2.2.2
  obtain ⟨⟨f1, f2⟩, f3⟩ := hV.2.2.2.2.2.2.2.2.2.1
  obtain ⟨s, es, hs0⟩ := zb_i f2
  have fx : (V 80 1).toNatClampNeg = s := by rw [es]; exact zz_ix (by omega)
  rw [fx] at f3
  refine iv_149_0 ⟨fun c => ?_, fun c => ?_⟩
  · rw [t1, show (6 : Int32) = nI 6 from rfl, zz_nlt (by omega) (by omega)] at c
    refine ⟨6, [88, 91, 94, 97, 100, 103], 87 + 3 * T, rfl, by rw [t1]; exact vp_in_nI c (by omega), by rw [t1, zz_ix (by omega)]; exact tx_n c, ?_⟩
    have rd : ∀ (F : Nat) (tk nb pl : Nat → Int32) (P : Nat → Nat) (W : aa_V), tr_v T V W → tr_T (V 81) s F tk nb pl P → (∀ n, (aa_up W 0 11 n 105 = W 105 ∧ aa_up W 0 11 n 116 = W 116)) ∧ W 105 20 = nI T ∧ W 105 25 = nI M ∧ W 105 19 = nI s ∧ (∀ j, j < s → V 81 j = (W 116 j).toInt8.toInt32 ∧ zb (W 116 j) 255) ∧ W 0 = V 0 := fun F tk nb pl P W hv hT => by
      have e105 : W 105 = V 105 := hv.1 105 (by decide) (by decide) (by decide) (by decide) (by omega) (by omega)
      have e116 : W 116 = V 116 := hv.1 116 (by decide) (by decide) (by decide) (by decide) (by omega) (by omega)
      refine ⟨fun n => ⟨aa_up_c (by decide), aa_up_c (by decide)⟩, ?_, ?_, ?_, ?_, hv.1 0 (by decide) (by decide) (by decide) (by decide) (by omega) (by omega)⟩
      · rw [e105, e20]; exact t1
      · rw [e105]; exact t4
      · rw [e105, f1]; exact es
      · rw [e116]; exact f3
    refine tp_28 (d := d + 2) (t := T) c es hs0 (fun j hj => ?_) (fun F tk nb pl P j W hv h1 hT hj hB => ?_) (fun F tk nb pl P m m2 W hv h1 hT hG hh1 hh2 l1 l2 x2 x3 hp => ?_)
    · obtain ⟨n, en, hn⟩ := zb_i (f3 j hj).2
      rw [(f3 j hj).1, en]
      exact (tm_y n (by omega)).2.2.2.2
    · obtain ⟨f, ef, hz⟩ := hT.2.2.2.2 j (by omega)
      have hf := hz.2.1
      obtain ⟨_, w20, w25, w19, wxy, w0⟩ := rd F tk nb pl P W hv hT
      refine ⟨fun z => ?_, fun _ => ?_⟩
      · rw [ef] at z
        exact absurd z (nI_n0 (by omega))
      · refine iv_223_0 ⟨fun z => ?_, fun _ => ?_⟩
        · rw [w20] at z
          exact absurd ((nI_k (m := 6) (by omega) (by omega)).mp z) (by omega)
        · refine mt_222 (d := d + 54) (T := T) (M := M) hs0 (by omega) (by omega) w20 w25 w19 wxy hT (Or.inl ⟨pl j, hB, fun X hX e27 => ⟨fun _ => ?_, fun z => absurd rfl z⟩⟩)
          show Q _ ((-100 : Int32) - X 105 27) _
          rw [e27, w25]
          have hte : te T M V (aa_up (aa_up X 105 19 0) 105 25 (nI M)) := te_of (n := 0) c hv h1 (Or.inl rfl) hX (Or.inr rfl)
          have z25 : aa_up (aa_up X 105 19 0) 105 25 (nI M) 105 25 = nI M := aa_up_s
          have z20 : aa_up (aa_up X 105 19 0) 105 25 (nI M) 105 20 = V 105 20 := by
            rw [aa_up_o (by decide), aa_up_o (by decide), hX.2.1 20 (by omega), w20, e20, t1]
          refine hQ _ _ (te_nv c hte hV ⟨⟨?_, ?_⟩, T, M, li, ?_, t2, t3, z25, t5, ?_, t7, fun t ht => te_u c ht hte t4 (by omega) z25 (Nat.le_refl _) (by omega) (t8 t ht)⟩)
          · rw [z20, e20]
            exact (congrFun (show aa_up (aa_up X 105 19 0) 105 25 (nI M) 0 = V 0 by
              rw [aa_up_c (by decide), aa_up_c (by decide), hX.1 0 (by decide) (by decide) (by decide) (by decide) (by decide) (by decide), w0]) 11).symm
          · rw [hte.2.2.1 21 (by omega) (by omega) (by omega), hte.2.1 12 (by omega)]; exact e21
          · rw [show aa_up (aa_up X 105 19 0) 105 25 (nI M) 0 = V 0 by
              rw [aa_up_c (by decide), aa_up_c (by decide), hX.1 0 (by decide) (by decide) (by decide) (by decide) (by decide) (by decide), w0]]
            exact t1
          · rw [hte.2.1 12 (by omega)]; exact t6
    · obtain ⟨_, w20, w25, w19, wxy, w0⟩ := rd F tk nb pl P W hv hT
      refine ⟨fun _ => ?_, fun z => absurd (by decide) z⟩
      rw [show W 0 11 = nI T by rw [w0]; exact t1, show nI T + (1 : Int32) = nI (T + 1) by rw [nI_succ]]
      have u105 : aa_up W 0 11 (nI (T + 1)) 105 = W 105 := aa_up_c (by decide)
      have u116 : aa_up W 0 11 (nI (T + 1)) 116 = W 116 := aa_up_c (by decide)
      have u0 : aa_up W 0 11 (nI (T + 1)) 0 11 = nI (T + 1) := aa_up_s
      have ut : ∀ c, c ≠ 0 → aa_up W 0 11 (nI (T + 1)) c = W c := fun c hc => aa_up_c hc
      generalize hB : aa_up W 0 11 (nI (T + 1)) = B at u105 u116 u0 ut
      show ab_E G (ac_ST L xs) l (d + 60) ac_SK 223 [.ref 105] B _
      refine iv_223_0 ⟨fun z => ?_, fun _ => ?_⟩
      · rw [u105, w20] at z
        exact absurd ((nI_k (m := 6) (by omega) (by omega)).mp z) (by omega)
      · refine mt_222 (d := d + 54) (T := T) (M := M) hs0 (by omega) (by omega) (by rw [u105]; exact w20) (by rw [u105]; exact w25) (by rw [u105]; exact w19) (by rw [u116]; exact wxy) hT (Or.inr ⟨m, m2, hG, fun X hX hm e25 a1 a2 a3 a4 => ⟨fun z => absurd z (by decide), fun _ => ?_⟩⟩)
        show Q _ ((X 105 20 + 1) - 1) _
        rw [show X 105 20 = nI T by rw [hX.2.1 20 (by omega), u105]; exact w20, show nI T + (1 : Int32) = nI (T + 1) by rw [nI_succ]]
        have hte : te T M V (aa_up (aa_up X 105 19 0) 105 20 (nI (T + 1))) := te_of (n := nI (T + 1)) c hv h1 (Or.inr hB.symm) hX (Or.inl rfl)
        have z25 : aa_up (aa_up X 105 19 0) 105 20 (nI (T + 1)) 105 25 = nI (M + m2.length) := by
          rw [aa_up_o (by decide), aa_up_o (by decide)]; exact e25
        have z20 : aa_up (aa_up X 105 19 0) 105 20 (nI (T + 1)) 105 20 = nI (T + 1) := aa_up_s
        have zc : ∀ q, q ≠ 105 → aa_up (aa_up X 105 19 0) 105 20 (nI (T + 1)) q = X q := fun q hq => by rw [aa_up_c hq, aa_up_c hq]
        have zx : ∀ q, q < 105 → q ≠ 0 → aa_up (aa_up X 105 19 0) 105 20 (nI (T + 1)) q = W q := fun q hq q0 => by
          rw [zc q (by omega), hX.1 q (by omega) (by omega) (by omega) (by omega) (by omega) (by omega), ut q q0]
        have z0 : aa_up (aa_up X 105 19 0) 105 20 (nI (T + 1)) 0 11 = nI (T + 1) := by
          rw [zc 0 (by decide), hX.1 0 (by decide) (by decide) (by decide) (by decide) (by decide) (by decide)]; exact u0
        refine hQ _ _ (te_nv c hte hV ⟨⟨by rw [z20, z0], ?_⟩, T + 1, M + m2.length, li, z0, by omega, by omega, z25, by omega, ?_, by omega, fun t ht => ?_⟩)
        · rw [hte.2.2.1 21 (by omega) (by omega) (by omega), hte.2.1 12 (by omega)]; exact e21
        · rw [hte.2.1 12 (by omega)]; exact t6
        · by_cases tT : t = T
          · rw [tT]
            refine te_new (n := 0) (m := m) (m2 := m2) ?_ ?_ ?_ ?_ hh1 hh2 l2 z25 (by omega) ?_ ?_ ?_ ?_
            · rw [zx _ (by omega) (by omega)]; exact x2
            · rw [zx _ (by omega) (by omega)]; exact x3
            · rw [zx _ (by omega) (by omega)]; exact hp
            · rw [zc 117 (by decide), zc 118 (by decide)]; exact hm
            · rw [zc 119 (by decide)]; exact a1
            · rw [zc 120 (by decide)]; exact a2
            · rw [zc 119 (by decide)]; exact a3
            · rw [zc 120 (by decide)]; exact a4
          · exact te_u c (by omega) hte t4 (by omega) z25 (by omega) (by omega) (t8 t (by omega))
  · rw [t1, show (6 : Int32) = nI 6 from rfl, zz_nlt (by omega) (by omega)] at c
    refine iv_223_0 ⟨fun _ => hQ _ _ hV, fun z => absurd ?_ z⟩
    rw [e20, t1, show T = 6 by omega]
    rfl
end
