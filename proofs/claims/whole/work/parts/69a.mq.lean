/-! the reference's stack and steps in memory; working off -/
def mq_s (r : Nat → Int32) : List Nat → Prop
  | [] => True
  | c :: S => r S.length = nI c ∧ mq_s r S
def mq_m (M : Nat) (a b : Nat → Int32) : List pp_S → Prop
  | [] => True
  | s :: m => (a (M + m.length) = s.1 ∧ b (M + m.length) = s.2) ∧ mq_m M a b m
def mq_o : List Nat → Nat
  | [] => 0
  | c :: S => (if c = 1 ∨ c = 4 ∨ c = 10 then 1 else 0) + mq_o S
theorem mq_sc {r r' : Nat → Int32} : ∀ {S : List Nat}, (∀ j, j < S.length → r' j = r j) → mq_s r S → mq_s r' S
  | [], _, _ => trivial
  | c :: S, h, q => ⟨by rw [h S.length (by rw [List.length_cons]; omega)]; exact q.1, mq_sc (fun j hj => h j (by rw [List.length_cons]; omega)) q.2⟩
theorem mq_mc {M : Nat} {a b a' b' : Nat → Int32} : ∀ {m : List pp_S}, (∀ j, j < M + m.length → a' j = a j ∧ b' j = b j) → mq_m M a b m → mq_m M a' b' m
  | [], _, _ => trivial
  | s :: m, h, q => ⟨by rw [(h (M + m.length) (by rw [List.length_cons]; omega)).1, (h (M + m.length) (by rw [List.length_cons]; omega)).2]; exact q.1, mq_mc (fun j hj => h j (by rw [List.length_cons]; omega)) q.2⟩
theorem pp_w_len (l : Nat) : ∀ (S : List Nat) (m : List pp_S) (o : Nat), (pp_w l S m o).1.length + (pp_w l S m o).2.1.length = S.length + m.length
  | [], _, _ => rfl
  | c :: S, m, o => by
    unfold pp_w
    by_cases q : l ≤ c
    · rw [if_pos q, pp_w_len l S, List.length_cons, List.length_cons]; omega
    · rw [if_neg q]
theorem pp_w_mem (l : Nat) : ∀ (S : List Nat) (m : List pp_S) (o : Nat) (a : Nat), a ∈ (pp_w l S m o).1 → a ∈ S
  | [], _, _, _, h => h
  | c :: S, m, o, a, h => by
    unfold pp_w at h
    by_cases q : l ≤ c
    · rw [if_pos q] at h
      exact List.mem_cons_of_mem _ (pp_w_mem l S _ _ a h)
    · rw [if_neg q] at h
      exact h
theorem pp_w_o {l : Nat} (hl : 2 ≤ l) : ∀ (S : List Nat) (m : List pp_S) (o : Nat), mq_o S = o → mq_o (pp_w l S m o).1 = (pp_w l S m o).2.2
  | [], _, _, h => h
  | c :: S, m, o, h => by
    unfold pp_w
    have h : (if c = 1 ∨ c = 4 ∨ c = 10 then 1 else 0) + mq_o S = o := h
    by_cases q : l ≤ c
    · rw [if_pos q]
      refine pp_w_o hl S _ _ ?_
      by_cases z : c = 4 ∨ c = 10
      · rw [if_pos z]
        rw [if_pos (by omega)] at h
        omega
      · rw [if_neg z]
        rw [if_neg (by omega)] at h
        omega
    · rw [if_neg q]
      exact h
theorem pp_w_top {l c : Nat} {S' : List Nat} : ∀ (S : List Nat) (m : List pp_S) (o : Nat), (pp_w l S m o).1 = c :: S' → c < l
  | [], _, _, h => by cases h
  | a :: S, m, o, h => by
    unfold pp_w at h
    by_cases q : l ≤ a
    · rw [if_pos q] at h
      exact pp_w_top S _ _ h
    · rw [if_neg q] at h
      have : a = c := (List.cons.inj h).1
      omega
def mq_v (V W : aa_V) (M : Nat) : Prop := (∀ c, c ≠ 105 → c ≠ 117 → c ≠ 118 → c ≠ 121 → W c = V c) ∧ (∀ a, ¬ (22 ≤ a ∧ a ≤ 28) → W 105 a = V 105 a) ∧ ∀ j, j < M → W 117 j = V 117 j ∧ W 118 j = V 118 j
def mq (V : aa_V) (M : Nat) (x : pp_X) (W : aa_V) : Prop := mq_v V W M ∧ W 105 24 = nI x.1.length ∧ mq_s (W 121) x.1 ∧ W 105 25 = nI (M + x.2.1.length) ∧ mq_m M (W 117) (W 118) x.2.1 ∧ W 105 23 = nI x.2.2
def mq_i (x : pp_X) (i : Nat) : Prop := x.1.length + x.2.1.length ≤ i ∧ mq_o x.1 = x.2.2 ∧ ∀ c, c ∈ x.1 → 1 ≤ c ∧ c ≤ 10
theorem mq_iw {x : pp_X} {i l : Nat} (hl : 2 ≤ l) (h : mq_i x i) : mq_i (pp_W l x) i := by
  refine ⟨?_, pp_w_o hl _ _ _ h.2.1, fun c hc => h.2.2 c (pp_w_mem _ _ _ _ c hc)⟩
  have := pp_w_len l x.1 x.2.1 x.2.2
  have := h.1
  show (pp_w l x.1 x.2.1 x.2.2).1.length + (pp_w l x.1 x.2.1 x.2.2).2.1.length ≤ i
  omega
theorem mq_e {V W W' : aa_V} {M : Nat} {x : pp_X} (h : mq V M x W) (k : tm_e W W') : mq V M x W' := by
  obtain ⟨⟨h1, h2, h3⟩, h4, h5, h6, h7, h8⟩ := h
  refine ⟨⟨fun c a1 a2 a3 a4 => (k.1 c a1).trans (h1 c a1 a2 a3 a4), fun a ha => (k.2 a (by omega) (by omega) (by omega) (by omega)).trans (h2 a ha), fun j hj => ?_⟩, ?_, ?_, ?_, ?_, ?_⟩
  · rw [k.1 117 (by decide), k.1 118 (by decide)]; exact h3 j hj
  · rw [k.2 24 (by decide) (by decide) (by decide) (by decide)]; exact h4
  · rw [k.1 121 (by decide)]; exact h5
  · rw [k.2 25 (by decide) (by decide) (by decide) (by decide)]; exact h6
  · rw [k.1 117 (by decide), k.1 118 (by decide)]; exact h7
  · rw [k.2 23 (by decide) (by decide) (by decide) (by decide)]; exact h8
/-- what the reading of the last token left -/
def mq_t (W W' : aa_V) : Prop := W' 105 22 = W 105 22 ∧ W' 105 26 = W 105 26 ∧ W' 105 27 = W 105 27 ∧ W' 105 28 = W 105 28
theorem mq_tt {U V W : aa_V} (h : mq_t U V) (k : mq_t V W) : mq_t U W := ⟨k.1.trans h.1, k.2.1.trans h.2.1, k.2.2.1.trans h.2.2.1, k.2.2.2.trans h.2.2.2⟩
theorem mq_vu {V W : aa_V} {M a : Nat} {x : Int32} (h : mq_v V W M) (ha : 22 ≤ a ∧ a ≤ 28) : mq_v V (aa_up W 105 a x) M := by
  refine ⟨fun c a1 a2 a3 a4 => ?_, fun b hb => ?_, fun j hj => ?_⟩
  · rw [aa_up_c a1]; exact h.1 c a1 a2 a3 a4
  · rw [aa_up_o (fun q => hb (by omega))]; exact h.2.1 b hb
  · rw [aa_up_c (by decide), aa_up_c (by decide)]; exact h.2.2 j hj
/-- one step more -/
theorem mq_p {V W : aa_V} {M : Nat} {S : List Nat} {m : List pp_S} {o : Nat} (a b : Int32) (h : mq V M (S, m, o) W) : mq V M (S, (a, b) :: m, o) (aa_up (aa_up (aa_up W 117 (M + m.length) a) 118 (M + m.length) b) 105 25 (nI (M + (m.length + 1)))) ∧ mq_t W (aa_up (aa_up (aa_up W 117 (M + m.length) a) 118 (M + m.length) b) 105 25 (nI (M + (m.length + 1)))) := by
  obtain ⟨⟨h1, h2, h3⟩, h4, h5, h6, h7, h8⟩ := h
  refine ⟨⟨⟨fun c a1 a2 a3 a4 => ?_, fun d hd => ?_, fun j hj => ⟨?_, ?_⟩⟩, ?_, ?_, aa_up_s, ⟨⟨?_, ?_⟩, ?_⟩, ?_⟩, ?_, ?_, ?_, ?_⟩
  · rw [aa_up_c a1, aa_up_c a3, aa_up_c a2]; exact h1 c a1 a2 a3 a4
  · rw [aa_up_o (fun q => hd (by omega)), aa_up_c (by decide), aa_up_c (by decide)]; exact h2 d hd
  · rw [aa_up_c (by decide), aa_up_c (by decide), aa_up_o (by omega)]; exact (h3 j hj).1
  · rw [aa_up_c (by decide), aa_up_o (by omega), aa_up_c (by decide)]; exact (h3 j hj).2
  · rw [aa_up_o (by decide), aa_up_c (by decide), aa_up_c (by decide)]; exact h4
  · rw [aa_up_c (by decide), aa_up_c (by decide), aa_up_c (by decide)]; exact h5
  · rw [aa_up_c (by decide), aa_up_c (by decide), aa_up_s]
  · rw [aa_up_c (by decide), aa_up_s]
  · refine mq_mc (fun j hj => ⟨?_, ?_⟩) h7
    · rw [aa_up_c (by decide), aa_up_c (by decide), aa_up_o (by omega)]
    · rw [aa_up_c (by decide), aa_up_o (by omega), aa_up_c (by decide)]
  · rw [aa_up_o (by decide), aa_up_c (by decide), aa_up_c (by decide)]; exact h8
  · rw [aa_up_o (by decide), aa_up_c (by decide), aa_up_c (by decide)]
  · rw [aa_up_o (by decide), aa_up_c (by decide), aa_up_c (by decide)]
  · rw [aa_up_o (by decide), aa_up_c (by decide), aa_up_c (by decide)]
  · rw [aa_up_o (by decide), aa_up_c (by decide), aa_up_c (by decide)]
/-- one more that waits -/
theorem mq_a {V W : aa_V} {M : Nat} {S : List Nat} {m : List pp_S} {o : Nat} (c : Nat) (h : mq V M (S, m, o) W) : mq V M (c :: S, m, o) (aa_up (aa_up W 121 S.length (nI c)) 105 24 (nI (S.length + 1))) ∧ mq_t W (aa_up (aa_up W 121 S.length (nI c)) 105 24 (nI (S.length + 1))) := by
  obtain ⟨⟨h1, h2, h3⟩, h4, h5, h6, h7, h8⟩ := h
  refine ⟨⟨⟨fun c a1 a2 a3 a4 => ?_, fun d hd => ?_, fun j hj => ?_⟩, aa_up_s, ⟨?_, ?_⟩, ?_, ?_, ?_⟩, ?_, ?_, ?_, ?_⟩
  · rw [aa_up_c a1, aa_up_c a4]; exact h1 c a1 a2 a3 a4
  · rw [aa_up_o (fun q => hd (by omega)), aa_up_c (by decide)]; exact h2 d hd
  · rw [aa_up_c (by decide), aa_up_c (by decide), aa_up_c (by decide), aa_up_c (by decide)]; exact h3 j hj
  · rw [aa_up_c (by decide), aa_up_s]
  · refine mq_sc (fun j hj => ?_) h5
    rw [aa_up_c (by decide), aa_up_o (by omega)]
  · rw [aa_up_o (by decide), aa_up_c (by decide)]; exact h6
  · rw [aa_up_c (by decide), aa_up_c (by decide), aa_up_c (by decide), aa_up_c (by decide)]; exact h7
  · rw [aa_up_o (by decide), aa_up_c (by decide)]; exact h8
  · rw [aa_up_o (by decide), aa_up_c (by decide)]
  · rw [aa_up_o (by decide), aa_up_c (by decide)]
  · rw [aa_up_o (by decide), aa_up_c (by decide)]
  · rw [aa_up_o (by decide), aa_up_c (by decide)]
/-- another count of what is open -/
theorem mq_c {V W : aa_V} {M : Nat} {S : List Nat} {m : List pp_S} {o : Nat} (o' : Nat) (h : mq V M (S, m, o) W) : mq V M (S, m, o') (aa_up W 105 23 (nI o')) ∧ mq_t W (aa_up W 105 23 (nI o')) := by
  obtain ⟨h1, h4, h5, h6, h7, h8⟩ := h
  refine ⟨⟨mq_vu h1 (by omega), ?_, ?_, ?_, ?_, aa_up_s⟩, ?_, ?_, ?_, ?_⟩
  · rw [aa_up_o (by decide)]; exact h4
  · rw [aa_up_c (by decide)]; exact h5
  · rw [aa_up_o (by decide)]; exact h6
  · rw [aa_up_c (by decide), aa_up_c (by decide)]; exact h7
  · rw [aa_up_o (by decide)]
  · rw [aa_up_o (by decide)]
  · rw [aa_up_o (by decide)]
  · rw [aa_up_o (by decide)]
/-- the top goes -/
theorem mq_d {V W : aa_V} {M : Nat} {c : Nat} {S : List Nat} {m : List pp_S} {o : Nat} (h : mq V M (c :: S, m, o) W) : mq V M (S, m, o) (aa_up W 105 24 (nI S.length)) ∧ mq_t W (aa_up W 105 24 (nI S.length)) := by
  obtain ⟨h1, h4, h5, h6, h7, h8⟩ := h
  refine ⟨⟨mq_vu h1 (by omega), aa_up_s, ?_, ?_, ?_, ?_⟩, ?_, ?_, ?_, ?_⟩
  · rw [aa_up_c (by decide)]; exact h5.2
  · rw [aa_up_o (by decide)]; exact h6
  · rw [aa_up_c (by decide), aa_up_c (by decide)]; exact h7
  · rw [aa_up_o (by decide)]; exact h8
  · rw [aa_up_o (by decide)]
  · rw [aa_up_o (by decide)]
  · rw [aa_up_o (by decide)]
  · rw [aa_up_o (by decide)]
theorem tq_220 {G : ab_G} {L : Nat} {xs : Nat → Int32} {l : Launch} {d M k i : Nat} {V : aa_V} {K : aa_K} (hk : 2 ≤ k) (hk2 : k ≤ 10) (hM : M ≤ 1000) (hi : i ≤ 161) : ∀ (S : List Nat) (m : List pp_S) (o : Nat) (W : aa_V), mq V M (S, m, o) W → mq_i (S, m, o) i → (∀ W', mq V M (pp_w k S m o) W' → mq_t W W' → K none W') → ab_E G (ac_ST L xs) l (d + 2) ac_SK 220 [.ref 105, .int (nI k)] W K
  | [], m, o, W, hq, hi, h => by
    refine iv_220_0 ⟨fun c => ?_, fun _ => h W hq ⟨rfl, rfl, rfl, rfl⟩⟩
    rw [hq.2.1] at c
    exact absurd c (by show ¬ (0 : Int32) < nI 0; decide)
  | c :: S, m, o, W, hq, hv, h => by
    have e24 : W 105 24 = nI (S.length + 1) := hq.2.1
    have e25 : W 105 25 = nI (M + m.length) := hq.2.2.2.1
    have e23 : W 105 23 = nI o := hq.2.2.2.2.2
    have e121 : W 121 S.length = nI c := hq.2.2.1.1
    have hl : (c :: S).length + m.length ≤ i := hv.1
    rw [List.length_cons] at hl
    have hc10 : c ≤ 10 := (hv.2.2 c (List.mem_cons_self ..)).2
    have ho : (if c = 1 ∨ c = 4 ∨ c = 10 then 1 else 0) + mq_o S = o := hv.2.1
    have e1 : nI (S.length + 1) - (1 : Int32) = nI S.length := nI_pre (by omega)
    have e2 : nI (M + m.length) + (1 : Int32) = nI (M + (m.length + 1)) := by rw [← Nat.add_assoc, nI_succ]
    refine iv_220_0 ⟨fun _ => ?_, fun z => absurd ?_ z⟩
    · rw [e24, e1, zz_ix (by omega), e121, e25, zz_ix (by omega), e2, zz_nlt (by omega) (by omega)]
      refine ⟨vp_in_nI (by omega) (by omega), fun q => h W ?_ ⟨rfl, rfl, rfl, rfl⟩, fun q => ⟨vp_in_nI (by omega) (by omega), vp_in_nI (by omega) (by omega), vp_in_nI (by omega) (by omega), vp_in_nI (by omega) (by omega), fun q4 => ?_, fun q4 => ⟨vp_in_nI (by omega) (by omega), fun q10 => ?_, fun q10 => ?_⟩⟩⟩
      · rw [show pp_w k (c :: S) m o = (c :: S, m, o) from if_neg (by omega)]
        exact hq
      all_goals
        obtain ⟨d1, t1⟩ := mq_d hq
        obtain ⟨d2, t2⟩ := mq_p (nI c) 0 d1
      · have c4 : c = 4 := (nI_k (m := 4) (by omega) (by omega)).mp q4
        have epw : pp_w k (c :: S) m o = pp_w k S ((nI c, 0) :: m) (o - 1) := by
          show (if k ≤ c then pp_w k S ((nI c, 0) :: m) (if c = 4 ∨ c = 10 then o - 1 else o) else _) = _
          rw [if_pos (by omega), if_pos (Or.inl c4)]
        rw [epw] at h
        rw [if_pos (by omega)] at ho
        obtain ⟨d3, t3⟩ := mq_c (o - 1) d2
        rw [e23, nI_pre (by omega)]
        exact tq_220 hk hk2 hM hi S _ _ _ d3 ⟨by show S.length + (m.length + 1) ≤ i; omega, by show mq_o S = o - 1; omega, fun a ha => hv.2.2 a (List.mem_cons_of_mem _ ha)⟩ (fun W' a b => h W' a (mq_tt t1 (mq_tt t2 (mq_tt t3 b))))
      · have c4 : c = 10 := (nI_k (m := 10) (by omega) (by omega)).mp q10
        have epw : pp_w k (c :: S) m o = pp_w k S ((nI c, 0) :: m) (o - 1) := by
          show (if k ≤ c then pp_w k S ((nI c, 0) :: m) (if c = 4 ∨ c = 10 then o - 1 else o) else _) = _
          rw [if_pos (by omega), if_pos (Or.inr c4)]
        rw [epw] at h
        rw [if_pos (by omega)] at ho
        obtain ⟨d3, t3⟩ := mq_c (o - 1) d2
        rw [e23, nI_pre (by omega)]
        exact tq_220 hk hk2 hM hi S _ _ _ d3 ⟨by show S.length + (m.length + 1) ≤ i; omega, by show mq_o S = o - 1; omega, fun a ha => hv.2.2 a (List.mem_cons_of_mem _ ha)⟩ (fun W' a b => h W' a (mq_tt t1 (mq_tt t2 (mq_tt t3 b))))
      · have n4 : ¬ (c = 4 ∨ c = 10) := fun z => by
          rcases z with z | z
          · exact q4 (by rw [z]; rfl)
          · exact q10 (by rw [z]; rfl)
        have epw : pp_w k (c :: S) m o = pp_w k S ((nI c, 0) :: m) o := by
          show (if k ≤ c then pp_w k S ((nI c, 0) :: m) (if c = 4 ∨ c = 10 then o - 1 else o) else _) = _
          rw [if_pos (by omega), if_neg n4]
        rw [epw] at h
        rw [if_neg (by omega)] at ho
        exact tq_220 hk hk2 hM hi S _ _ _ d2 ⟨by show S.length + (m.length + 1) ≤ i; omega, by show mq_o S = o; omega, fun a ha => hv.2.2 a (List.mem_cons_of_mem _ ha)⟩ (fun W' a b => h W' a (mq_tt t1 (mq_tt t2 b)))
    · rw [e24, show (0 : Int32) = nI 0 from rfl, zz_nlt (by omega) (by omega)]
      omega
