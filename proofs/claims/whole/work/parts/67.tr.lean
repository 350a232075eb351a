/-! the class reads a text: all of it -/
def tr_v (t : Nat) (V W : aa_V) : Prop := (∀ c, c ≠ 80 → c ≠ 82 → c ≠ 83 → c ≠ 84 → c ≠ 87 + 3 * t → c ≠ 88 + 3 * t → W c = V c) ∧ (∀ p, p ≠ 1 → p ≠ 5 → p ≠ 6 → p ≠ 7 → p ≠ 8 → W 80 p = V 80 p) ∧ ∀ p, p ≠ 2 → p ≠ 3 → W (87 + 3 * t) p = V (87 + 3 * t) p
theorem tr_tv {t : Nat} {V V1 W : aa_V} (h : tr_v t V V1) (k : tp_v t V1 W) : tr_v t V W := by
  refine ⟨fun c a1 a2 a3 a4 a5 a6 => ?_, fun p a1 a2 a3 a4 a5 => ?_, fun p a1 a2 => ?_⟩
  · rw [tp_vc k a1 a5 a6]; exact h.1 c a1 a2 a3 a4 a5 a6
  · rw [k 80 p (fun q => by omega) (fun q => by omega) (by omega)]; exact h.2.1 p a1 a2 a3 a4 a5
  · rw [k _ p (fun q => by omega) (fun q => by omega) (by omega)]; exact h.2.2 p a1 a2
theorem tr_2 {t : Nat} {V V1 : aa_V} (h : tr_v t V V1) (x : Int32) : tr_v t V (aa_up V1 (87 + 3 * t) 2 x) := by
  refine ⟨fun c a1 a2 a3 a4 a5 a6 => ?_, fun p a1 a2 a3 a4 a5 => ?_, fun p a1 a2 => ?_⟩
  · rw [aa_up_c a5]; exact h.1 c a1 a2 a3 a4 a5 a6
  · rw [aa_up_c (by omega)]; exact h.2.1 p a1 a2 a3 a4 a5
  · rw [aa_up_o a1]; exact h.2.2 p a1 a2
theorem tr_1 {t : Nat} {V V1 : aa_V} (h : tr_v t V V1) (x : Int32) : tr_v t V (aa_up V1 80 1 x) := by
  refine ⟨fun c a1 a2 a3 a4 a5 a6 => ?_, fun p a1 a2 a3 a4 a5 => ?_, fun p a1 a2 => ?_⟩
  · rw [aa_up_c a1]; exact h.1 c a1 a2 a3 a4 a5 a6
  · rw [aa_up_o a1]; exact h.2.1 p a1 a2 a3 a4 a5
  · rw [aa_up_c (by omega)]; exact h.2.2 p a1 a2
/-- the tokens, as far as they go -/
def tr_T (y : Nat → Int32) (s F : Nat) (tk nb pl : Nat → Int32) (P : Nat → Nat) : Prop := F ≤ 160 ∧ (∀ i, i < F → tk i ≠ 256 ∧ tk i ≠ 257) ∧ (tk F = 256 ∨ tk F = 257) ∧ tz_C y s (F + 1) tk nb pl P
/-- a fault is at p -/
def tr_B (tk nb pl : Nat → Int32) (p : Int32) : Prop := (tk 0 ≠ 306 ∧ p = pl 0) ∨ (tk 0 = 306 ∧ (pp_mr tk nb pl 0 1 ([], [], 0) true (.inr p) ∨ ∃ i m, pp_mr tk nb pl 0 1 ([], [], 0) true (.inl (i, m)) ∧ ((tk (i + 1) ≠ 307 ∧ p = pl (i + 1)) ∨ (tk (i + 1) = 307 ∧ (pp_mr tk nb pl 0 (i + 2) ([], m, 0) true (.inr p) ∨ ∃ i2 m2, pp_mr tk nb pl 0 (i + 2) ([], m, 0) true (.inl (i2, m2)) ∧ tk (i2 + 1) ≠ 256 ∧ p = pl (i2 + 1))))))
/-- no fault: the steps of the price, and of both -/
def tr_G (tk nb pl : Nat → Int32) (m m2 : List pp_S) : Prop := tk 0 = 306 ∧ ∃ i i2, pp_mr tk nb pl 0 1 ([], [], 0) true (.inl (i, m)) ∧ tk (i + 1) = 307 ∧ pp_mr tk nb pl 0 (i + 2) ([], m, 0) true (.inl (i2, m2)) ∧ tk (i2 + 1) = 256
theorem tr_num {y : Nat → Int32} {s p f e : Nat} {k num : Int32} (h : tz y s p f e k num) (hk : k = 258) : zb num 9999 := by
  obtain ⟨_, _, _, h | h | h | h⟩ := h
  · rw [hk] at h; exact absurd h.2.2.1 (by decide)
  · obtain ⟨_, _, _, _, _, _, h | h, _⟩ := h
    · obtain ⟨w, hw, _, e⟩ := h
      rw [hk] at e
      exact absurd ((nI_k (n := 258) (by omega) (by omega)).mp e) (by omega)
    · rw [hk] at h; exact absurd h.2 (by decide)
  · obtain ⟨_, _, h1, _, h3, _, h | h⟩ := h
    · rw [h.2.2]
      refine zb_le (tz_v4 _ (by omega) (fun j a b => h3 j a (by omega))) ?_
      have : e - f = 0 ∨ e - f = 1 ∨ e - f = 2 ∨ e - f = 3 ∨ e - f = 4 := by omega
      rcases this with q | q | q | q | q <;> rw [q] <;> decide
    · rw [hk] at h; exact absurd h.2.1 (by decide)
  · have := h.2.2.2.2.2.2.2
    rw [hk] at this
    exact absurd this (by decide)
theorem tr_g {y : Nat → Int32} {s F t : Nat} {tk nb pl : Nat → Int32} {P : Nat → Nat} {V : aa_V} (hs : s ≤ 160) (ht : t < 6) (h : tr_T y s F tk nb pl P) (e5 : V 80 5 = nI (F + 1)) (e8 : V 80 8 = nI (87 + 3 * t + 1)) (e2 : V 82 = tk) (e4 : V 84 = nb) (e3 : V 83 = pl) : tp_g t (F + 1) tk nb pl V := by
  obtain ⟨h1, h2, h3, h4⟩ := h
  refine ⟨⟨ht, by omega, e5, e8⟩, ⟨e2, e4, e3⟩, fun i hi a b => ?_, fun i hi a => ?_, fun i hi => ?_⟩
  · by_cases q : i = F
    · rw [q] at a b
      rcases h3 with z | z
      · exact absurd z a
      · exact absurd z b
    · omega
  · obtain ⟨f, _, hz⟩ := h4.2 i hi
    exact tr_num hz a
  · obtain ⟨f, e, hz⟩ := h4.2 i hi
    rw [e]
    exact zb_of (by have := hz.2.1; omega) (by decide)
section
variable {G : ab_G} {L : Nat} {xs : Nat → Int32} {l : Launch}
theorem tp_28 {d t s : Nat} {V : aa_V} {K : aa_K} (ht : t < 6) (hs : V 80 1 = nI s) (hs0 : s ≤ 160) (hy : ∀ j, j < s → (V 81 j).toInt < 128)
    (hB : ∀ F tk nb pl P j W, tr_v t V W → W 80 1 = 0 → tr_T (V 81) s F tk nb pl P → j ≤ F → tr_B tk nb pl (pl j) → K (some (.int (pl j))) W)
    (hG : ∀ F tk nb pl P m m2 W, tr_v t V W → W 80 1 = 0 → tr_T (V 81) s F tk nb pl P → tr_G tk nb pl m m2 → pp_h [] m 1 → pp_h m m2 1 → m.length ≤ 160 → m2.length ≤ 160 → W (87 + 3 * t) 2 = nI m.length → W (87 + 3 * t) 3 = nI m2.length → pp_p (W (88 + 3 * t)) m2 → K (some (.int (-1))) W) :
    ab_E G (ac_ST L xs) l (d + 57) ac_SK 28 [.ref 80, .ref (87 + 3 * t)] V K := by
  refine iv_28_0 (tc_29 (d := d + 48) hs hs0 hy (fun F P W hv hF e5 hn hx hC => ⟨by omega, 87 + 3 * t, zz_ix (by omega), tp_is ht, vc_68_0 ⟨tp_is ht, tp_is ht, ?_⟩⟩))
  have hT : tr_T (V 81) s F (W 82) (W 84) (W 83) P := ⟨hF, hn, hx, hC⟩
  show ab_E G (ac_ST L xs) l (d + 56) ac_SK 39 [.ref 80, .int 306] (aa_up (aa_up (aa_up (aa_up (aa_up W 80 6 0) 80 7 (-1)) 80 8 (nI (87 + 3 * t + 1))) (87 + 3 * t) 2 0) (87 + 3 * t) 3 0) _
  generalize hX : aa_up (aa_up (aa_up (aa_up (aa_up W 80 6 0) 80 7 (-1)) 80 8 (nI (87 + 3 * t + 1))) (87 + 3 * t) 2 0) (87 + 3 * t) 3 0 = X
  have xo : ∀ c, c ≠ 80 → c ≠ 87 + 3 * t → X c = W c := fun c a b => by
    rw [← hX, aa_up_c b, aa_up_c b, aa_up_c a, aa_up_c a, aa_up_c a]
  have x8 : ∀ p, p ≠ 6 → p ≠ 7 → p ≠ 8 → X 80 p = W 80 p := fun p a b c => by
    rw [← hX, aa_up_c (by omega), aa_up_c (by omega), aa_up_o c, aa_up_o b, aa_up_o a]
  have xt : ∀ p, p ≠ 2 → p ≠ 3 → X (87 + 3 * t) p = W (87 + 3 * t) p := fun p a b => by
    rw [← hX, aa_up_o b, aa_up_o a, aa_up_c (by omega), aa_up_c (by omega), aa_up_c (by omega)]
  have hr : tr_v t V X := by
    refine ⟨fun c a1 a2 a3 a4 a5 a6 => ?_, fun p a1 a2 a3 a4 a5 => ?_, fun p a1 a2 => ?_⟩
    · rw [xo c a1 a5]; exact hv.1 c a1 a2 a3 a4
    · rw [x8 p a3 a4 a5]; exact hv.2 p a2
    · rw [xt p a1 a2, hv.1 _ (by omega) (by omega) (by omega) (by omega)]
  have hg : tp_g t (F + 1) (W 82) (W 84) (W 83) X := by
    refine tr_g hs0 ht hT ?_ ?_ ?_ ?_ ?_
    · rw [x8 5 (by decide) (by decide) (by decide)]; exact e5
    · rw [← hX, aa_up_c (by omega), aa_up_c (by omega), aa_up_s]
    · exact xo 82 (by decide) (by omega)
    · exact xo 84 (by decide) (by omega)
    · exact xo 83 (by decide) (by omega)
  have hS : tp_s t X 0 [] := by
    refine ⟨?_, ?_, ?_, trivial⟩
    · rw [← hX, aa_up_c (by omega), aa_up_c (by omega), aa_up_o (by decide), aa_up_o (by decide), aa_up_s]; rfl
    · rw [← hX, aa_up_c (by omega), aa_up_c (by omega), aa_up_o (by decide), aa_up_s]
    · rw [← hX, aa_up_s]; rfl
  clear hX
  generalize htk : W 82 = tk at hT hg
  generalize hnb : W 84 = nb at hT hg
  generalize hpl : W 83 = pl at hT hg
  -- the rest, where a fault was found before
  have fin : ∀ (Y : aa_V) (j : Nat), tr_v t V Y → j ≤ F → Y 80 7 = pl j → tr_B tk nb pl (pl j) → K (some (.int (Y 80 7))) (aa_up Y 80 1 0) := fun Y j h1 h2 h3 h4 => by
    rw [h3]
    exact hB F tk nb pl P j _ (tr_1 h1 0) aa_up_s hT h2 h4
  have ff : ∀ (Y : aa_V) (j : Nat), j ≤ F → Y 80 7 = pl j → ¬ Y 80 7 = -1 := fun Y j hj e q => by
    have := zb_r (hg.2.2.2.2 j (by omega)) (by decide)
    rw [← e, q] at this
    exact absurd this.1 (by decide)
  have f2 : ∀ (Y : aa_V) (x : Int32), aa_up Y (87 + 3 * t) 2 x 80 7 = Y 80 7 := fun Y x => by rw [aa_up_c (by omega)]
  have n2 : ∀ (Y : aa_V) (x : Int32), ¬ Y 80 7 = -1 → ¬ aa_up Y (87 + 3 * t) 2 x 80 7 = -1 := fun Y x h => by rw [f2]; exact h
  have c7 : ∀ (Y : aa_V) (x : Int32), aa_up Y 80 7 x 80 7 = x := fun Y x => aa_up_s
  have g3 := hg.2.2.1
  refine tp_39 (d := d + 54) hg (by omega) hS (fun c0 => ?_) (fun c0 => ?_)
  · have k1 : 0 + 1 < F + 1 := g3 0 (by omega) (by rw [c0]; decide) (by rw [c0]; decide)
    refine tp_or (F := F + 1) (d + 56) 1 [] [] 0 true _ _ (by omega) (by omega) (by omega) k1 (tp_gv tp_v6 hg) (tp_s6 hS 1) (Nat.le_refl _) trivial (fun _ => rfl) (fun h => by cases h) (fun V5 hv5 hq5 => ?_)
    have hv5' : tp_v t X V5 := tp_vt tp_v6 hv5
    have hg5 := tp_gv hv5' hg
    have hr5 := tr_tv hr hv5'
    rcases hq5 with ⟨_, j, hj, e7, hm⟩ | ⟨i', cs', p, ms, a1, a2, a3, a4, a5, a6, a7, a8, a9⟩
    · have hf := ff V5 j (by omega) e7
      exact tp_39f (d := d + 54) hf (by decide) (⟨87 + 3 * t, tp_rf hg5, tp_is ht, vc_69_0 ⟨tp_is ht, tp_is ht, tp_39f (d := d + 54) (n2 V5 _ hf) (by decide) (tp_40f (d := d + 48) (n2 V5 _ hf) (tp_39f (d := d + 54) (n2 V5 _ hf) (by decide) ⟨fun c => absurd c (n2 V5 _ hf), fun _ => ⟨fun c => absurd c (n2 V5 _ hf), fun _ => fin _ j (tr_2 hr5 _) (by omega) ((f2 _ _).trans e7) (Or.inr ⟨c0, Or.inl hm⟩)⟩⟩))⟩⟩)
    · have m1 : tk i' = 59 → pp_mr tk nb pl 0 1 ([], [], 0) true (.inl (i', cs')) := fun q => by
        rw [a6]
        exact a8 _ (pp_se a7 q)
      have l1 : cs'.length + 1 ≤ i' := by rw [List.length_nil, Nat.zero_add] at a4; exact a4
      have h1 : pp_h [] cs' 1 := a5 [] 0 pp_h_z (Nat.zero_le _)
      refine tp_39 (d := d + 54) hg5 a2 a3 (fun c1 => ?_) (fun c1 => ?_)
      · have k2 : i' + 1 < F + 1 := g3 i' a2 (by rw [c1]; decide) (by rw [c1]; decide)
        have hg6 : tp_g t (F + 1) tk nb pl (aa_up V5 80 6 (nI (i' + 1))) := tp_gv tp_v6 hg5
        have hs6 := tp_s6 a3 (i' + 1)
        have hr6 := tr_tv hr5 (tp_v6 (t := t) (x := nI (i' + 1)))
        refine ⟨87 + 3 * t, tp_rf hg6, tp_is ht, vc_69_0 ⟨tp_is ht, tp_is ht, ?_⟩⟩
        rw [hs6.2.2.1]
        generalize aa_up V5 80 6 (nI (i' + 1)) = V6 at hg6 hs6 hr6
        have hg8 : tp_g t (F + 1) tk nb pl (aa_up V6 (87 + 3 * t) 2 (nI cs'.length)) := by
          obtain ⟨⟨b1, b2, b3, b4⟩, ⟨b5, b6, b7⟩, b8⟩ := hg6
          refine ⟨⟨b1, b2, ?_, ?_⟩, ⟨?_, ?_, ?_⟩, b8⟩
          · rw [aa_up_c (by omega)]; exact b3
          · rw [aa_up_c (by omega)]; exact b4
          · rw [aa_up_c (by omega)]; exact b5
          · rw [aa_up_c (by omega)]; exact b6
          · rw [aa_up_c (by omega)]; exact b7
        have hs8 : tp_s t (aa_up V6 (87 + 3 * t) 2 (nI cs'.length)) (i' + 1) cs' := by
          obtain ⟨b1, b2, b3, b4⟩ := hs6
          refine ⟨?_, ?_, ?_, ?_⟩
          · rw [aa_up_c (by omega)]; exact b1
          · rw [aa_up_c (by omega)]; exact b2
          · rw [aa_up_o (by decide)]; exact b3
          · rw [aa_up_c (by omega)]; exact b4
        have hr8 := tr_2 hr6 (nI cs'.length)
        have e2 : aa_up V6 (87 + 3 * t) 2 (nI cs'.length) (87 + 3 * t) 2 = nI cs'.length := aa_up_s
        show ab_E G (ac_ST L xs) l (d + 56) ac_SK 39 [.ref 80, .int 307] (aa_up V6 (87 + 3 * t) 2 (nI cs'.length)) _
        generalize aa_up V6 (87 + 3 * t) 2 (nI cs'.length) = V8 at hg8 hs8 hr8 e2
        refine tp_39 (d := d + 54) hg8 k2 hs8 (fun c2 => ?_) (fun c2 => ?_)
        · have k3 : i' + 2 < F + 1 := g3 (i' + 1) k2 (by rw [c2]; decide) (by rw [c2]; decide)
          refine tp_or (F := F + 1) (d + 56) (i' + 2) cs' [] 0 true _ _ (by omega) (by omega) (by omega) k3 (tp_gv tp_v6 hg8) (tp_s6 hs8 (i' + 2)) (by omega) trivial (fun _ => rfl) (fun h => by cases h) (fun V10 hv10 hq10 => ?_)
          have hv10' : tp_v t V8 V10 := tp_vt tp_v6 hv10
          have hg10 := tp_gv hv10' hg8
          have hr10 := tr_tv hr8 hv10'
          have e102 : V10 (87 + 3 * t) 2 = nI cs'.length := by
            rw [hv10' _ 2 (fun q => by omega) (fun q => by omega) (by omega)]; exact e2
          rcases hq10 with ⟨_, j, hj, e7, hm⟩ | ⟨i2, cs2, p2, ms2, b1, b2, b3, b4, b5, b6, b7, b8, b9⟩
          · have hf := ff V10 j (by omega) e7
            exact tp_39f (d := d + 54) hf (by decide) ⟨fun c => absurd c hf, fun _ => ⟨fun c => absurd c hf, fun _ => fin _ j hr10 (by omega) e7 (Or.inr ⟨c0, Or.inr ⟨i', cs', m1 c1, Or.inr ⟨c2, Or.inl hm⟩⟩⟩)⟩⟩
          · have m2 : tk i2 = 59 → pp_mr tk nb pl 0 (i' + 2) ([], cs', 0) true (.inl (i2, cs2)) := fun q => by
              rw [b6]
              exact b8 _ (pp_se b7 q)
            have h2 : pp_h cs' cs2 1 := b5 cs' 0 pp_h_z (Nat.zero_le _)
            refine tp_39 (d := d + 54) hg10 b2 b3 (fun c3 => ?_) (fun c3 => ?_)
            · have k4 : i2 + 1 < F + 1 := g3 i2 b2 (by rw [c3]; decide) (by rw [c3]; decide)
              have hg11 : tp_g t (F + 1) tk nb pl (aa_up V10 80 6 (nI (i2 + 1))) := tp_gv tp_v6 hg10
              have hs11 := tp_s6 b3 (i2 + 1)
              have hr11 := tr_tv hr10 (tp_v6 (t := t) (x := nI (i2 + 1)))
              have e112 : aa_up V10 80 6 (nI (i2 + 1)) (87 + 3 * t) 2 = nI cs'.length := by
                rw [aa_up_c (by omega)]; exact e102
              show (aa_up V10 80 6 (nI (i2 + 1)) 80 7 = -1 → _) ∧ _
              generalize aa_up V10 80 6 (nI (i2 + 1)) = V11 at hg11 hs11 hr11 e112
              obtain ⟨e6, e6n, e82, e83, e84, evp, elt⟩ := tp_tk hg11 k4 hs11
              refine ⟨fun _ => ⟨fun _ => ⟨evp, fun c4 => ?_, fun c4 => ⟨fun _ => ⟨fun _ => ⟨evp, ?_⟩, fun c => absurd elt c⟩, fun c => absurd hs11.2.1 c⟩⟩, fun c => absurd elt c⟩, fun c => absurd hs11.2.1 c⟩
              · rw [e82] at c4
                rw [hs11.2.1]
                refine hG F tk nb pl P cs' cs2 _ (tr_1 hr11 0) aa_up_s hT ⟨c0, i', i2, m1 c1, c2, m2 c3, c4⟩ h1 h2 (by omega) (by omega) ?_ ?_ ?_
                · rw [aa_up_c (by omega)]; exact e112
                · rw [aa_up_c (by omega)]; exact hs11.2.2.1
                · rw [aa_up_c (by omega)]; exact hs11.2.2.2
              · rw [e82] at c4
                rw [e83]
                exact hB F tk nb pl P (i2 + 1) _ (tr_1 (tr_tv hr11 tp_v7) 0) aa_up_s hT (by omega) (Or.inr ⟨c0, Or.inr ⟨i', cs', m1 c1, Or.inr ⟨c2, Or.inr ⟨i2, cs2, m2 c3, c4, rfl⟩⟩⟩⟩)
            · have hf := ff (aa_up V10 80 7 (pl i2)) i2 (by omega) aa_up_s
              have hm : pp_mr tk nb pl 0 (i' + 2) ([], cs', 0) true (.inr (pl i2)) := by
                refine b8 _ ?_
                by_cases q : tk i2 = 41
                · exact pp_seb b7 q
                · exact pp_end b9 q c3
              exact ⟨fun c => absurd c hf, fun _ => ⟨fun c => absurd c hf, fun _ => fin _ i2 (tr_tv hr10 tp_v7) (by omega) aa_up_s (Or.inr ⟨c0, Or.inr ⟨i', cs', m1 c1, Or.inr ⟨c2, Or.inl hm⟩⟩⟩)⟩⟩
        · have hf := ff (aa_up V8 80 7 (pl (i' + 1))) (i' + 1) (by omega) aa_up_s
          exact tp_40f (d := d + 48) hf (tp_39f (d := d + 54) hf (by decide) ⟨fun c => absurd c hf, fun _ => ⟨fun c => absurd c hf, fun _ => fin _ (i' + 1) (tr_tv hr8 tp_v7) (by omega) aa_up_s (Or.inr ⟨c0, Or.inr ⟨i', cs', m1 c1, Or.inl ⟨c2, rfl⟩⟩⟩)⟩⟩)
      · have hf := ff (aa_up V5 80 7 (pl i')) i' (by omega) aa_up_s
        have hm : pp_mr tk nb pl 0 1 ([], [], 0) true (.inr (pl i')) := by
          refine a8 _ ?_
          by_cases q : tk i' = 41
          · exact pp_seb a7 q
          · exact pp_end a9 q c1
        have hgY : tp_g t (F + 1) tk nb pl (aa_up V5 80 7 (pl i')) := tp_gv tp_v7 hg5
        exact ⟨87 + 3 * t, tp_rf hgY, tp_is ht, vc_69_0 ⟨tp_is ht, tp_is ht, tp_39f (d := d + 54) (n2 _ _ hf) (by decide) (tp_40f (d := d + 48) (n2 _ _ hf) (tp_39f (d := d + 54) (n2 _ _ hf) (by decide) ⟨fun c => absurd c (n2 _ _ hf), fun _ => ⟨fun c => absurd c (n2 _ _ hf), fun _ => fin _ i' (tr_2 (tr_tv hr5 tp_v7) _) (by omega) ((f2 _ _).trans aa_up_s) (Or.inr ⟨c0, Or.inl hm⟩)⟩⟩))⟩⟩
  · have hf := ff (aa_up X 80 7 (pl 0)) 0 (by omega) aa_up_s
    have hgY : tp_g t (F + 1) tk nb pl (aa_up X 80 7 (pl 0)) := tp_gv tp_v7 hg
    exact tp_40f (d := d + 48) hf (tp_39f (d := d + 54) hf (by decide) (⟨87 + 3 * t, tp_rf hgY, tp_is ht, vc_69_0 ⟨tp_is ht, tp_is ht, tp_39f (d := d + 54) (n2 _ _ hf) (by decide) (tp_40f (d := d + 48) (n2 _ _ hf) (tp_39f (d := d + 54) (n2 _ _ hf) (by decide) ⟨fun c => absurd c (n2 _ _ hf), fun _ => ⟨fun c => absurd c (n2 _ _ hf), fun _ => fin _ 0 (tr_2 (tr_tv hr tp_v7) _) (by omega) ((f2 _ _).trans aa_up_s) (Or.inl ⟨c0, rfl⟩)⟩⟩))⟩⟩))
end
