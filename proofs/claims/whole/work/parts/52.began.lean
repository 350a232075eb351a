/-! began -/
theorem sb_l0 {z : Int32} (h : ¬ sb z 0 = true) : z &&& (1 : Int32) = 0 := by
  apply sb_ext
  intro k hk
  rw [sb_and, sb_0]
  by_cases c : k = 0
  · subst c
    cases e : sb z 0 with
    | false => rfl
    | true => exact absurd e h
  · rw [show sb (1 : Int32) k = false from (show ∀ k, k < 32 → k ≠ 0 → sb (1 : Int32) k = false by decide +kernel) k hk c, Bool.and_false]
theorem q261 (x : Int32) (V : aa_V) : va_261 x V = nI (pz_c (sb x) 31) := by
  have key : ∀ n, n ≤ 31 → fo (fun (i_261 : Nat) (a_261 : Int32) => ((a_261 + ((x >>> ((nI i_261) &&& 31)) &&& (1 : Int32))) : Int32)) n 0 = nI (pz_c (sb x) n) := by
    intro n
    induction n with
    | zero => intro _; rfl
    | succ n ih =>
      intro hn
      rw [fo_s, ih (by omega)]
      show nI (pz_c (sb x) n) + ((x >>> ((nI n) &&& 31)) &&& (1 : Int32)) = nI (pz_c (sb x) n + (if sb x n = true then 1 else 0))
      by_cases c : sb x n = true
      · rw [if_pos c, (sb_t (by omega)).mpr c, nI_succ]
      · rw [if_neg c, sb_l0 (by rw [sb_sh (by omega)]; exact c), Int32.add_zero, Nat.add_zero]
  unfold va_261 vl_261_4
  exact key 31 (Nat.le_refl _)
theorem q_bits {x : Int32} (V V' : aa_V) (hx : pz_n x < 2 ^ 24) : va_285 x V = va_261 x V' := by
  rw [pz_bits V hx, q261, show (31 : Nat) = 24 + 7 from rfl, pz_c_a, pz_c_0 (n := 7) (fun i hi => ?_)]
  · rfl
  · show (pz_n x).testBit (24 + i) = false
    exact Nat.testBit_lt_two_pow (Nat.lt_of_lt_of_le hx (Nat.pow_le_pow_right (by decide) (by omega)))
theorem pz_nI {n : Nat} (h : n < 2 ^ 31) : pz_n (nI n) = n := by
  have h1 : (nI n).toBitVec.toInt = n := nI_toInt h
  rw [BitVec.toInt_eq_toNat_cond] at h1
  unfold pz_n
  have := (nI n).toBitVec.isLt
  split at h1 <;> omega
def cnt (s : Nat) : Nat := pz_c (sb (nI s)) 31
theorem cnt_le (s : Nat) : cnt s ≤ 31 := pz_c_le _ _
theorem cnt_1 (s : Nat) (V : aa_V) : va_261 (nI s) V = nI (cnt s) := q261 _ _
theorem cnt_5 {s : Nat} (V : aa_V) (h : s < 16777216) : va_285 (nI s) V = nI (cnt s) := by
  rw [q_bits V V (by rw [pz_nI (by omega)]; omega), cnt_1]
theorem fe_all {β : Type} {F : Nat → Unit → Unit ⊕ β} {P : Nat → Prop} {b : β} : ∀ {n : Nat}, (∀ i, i < n → (P i → F i () = .inl ()) ∧ (¬ P i → F i () = .inr b)) → (fe F n () = .inl () ∧ ∀ i, i < n → P i) ∨ (fe F n () = .inr b ∧ ∃ i, i < n ∧ ¬ P i)
  | 0, _ => Or.inl ⟨rfl, fun i hi => absurd hi (Nat.not_lt_zero _)⟩
  | n + 1, h => by
    rcases fe_all (F := F) (P := P) (b := b) (n := n) (fun i hi => h i (by omega)) with ⟨h1, h2⟩ | ⟨h1, i, h2, h3⟩
    · rw [fe_s, h1]
      dsimp only
      by_cases c : P n
      · refine Or.inl ⟨(h n (by omega)).1 c, fun i hi => ?_⟩
        rcases Nat.lt_or_ge i n with q | q
        · exact h2 i q
        · rw [show i = n by omega]
          exact c
      · exact Or.inr ⟨(h n (by omega)).2 c, n, by omega, c⟩
    · rw [fe_s, h1]
      exact Or.inr ⟨rfl, i, by omega, h3⟩
theorem fo_orr {F : Nat → Int32 → Int32} {P : Nat → Nat → Prop} : ∀ {n : Nat}, (∀ i a q, i < n → q < 32 → (sb (F i a) q = true ↔ (sb a q = true ∨ P i q))) → ∀ q, q < 32 → (sb (fo F n 0) q = true ↔ ∃ i, i < n ∧ P i q)
  | 0, _, q, _ => ⟨fun h => absurd (show sb 0 q = true from h) (by rw [sb_0]; decide), fun ⟨i, hi, _⟩ => absurd hi (Nat.not_lt_zero _)⟩
  | n + 1, h, q, hq => by
    rw [fo_s, h n _ q (by omega) hq, fo_orr (P := P) (n := n) (fun i a q hi => h i a q (by omega)) q hq]
    constructor
    · rintro (⟨i, h1, h2⟩ | h1)
      · exact ⟨i, by omega, h2⟩
      · exact ⟨n, by omega, h1⟩
    · rintro ⟨i, h1, h2⟩
      rcases Nat.lt_or_ge i n with r | r
      · exact Or.inl ⟨i, r, h2⟩
      · rw [show i = n by omega] at h2
        exact Or.inr h2
theorem sb_sub {x t : Int32} : (x &&& t) = t ↔ ∀ q, q < 32 → sb t q = true → sb x q = true := by
  rw [sb_e]
  constructor
  · intro h q hq ht
    have := h q hq
    rw [sb_and, ht, Bool.and_true] at this
    exact this
  · intro h q hq
    rw [sb_and]
    cases e : sb t q with
    | false => rw [Bool.and_false]
    | true => rw [h q hq e]; rfl
/-- all that are told to be are sworn from a set on -/
def swk (V : aa_V) (s : Int32) : Prop := ∀ p, p < (V 42 2).toNatClampNeg → ¬ V 58 p = -1 → sb (va_13 s (V 58 p) V) p = true
theorem q262 {V : aa_V} (hI : nv V) (s : Int32) : (va_262 s V = 1 ∧ swk V s) ∨ (va_262 s V = 0 ∧ ¬ swk V s) := by
  have ho := hI.2.2.2.2.2.1
  obtain ⟨⟨o1, o2, o3, o4⟩, o5, o6, o7, o8, o9⟩ := id ho
  obtain ⟨⟨p1, p2, p3, p4, p5, p6⟩, _⟩ := hI.2.2.2.2.1
  have h12 : (V 42 2).toNatClampNeg ≤ 12 := p2.2
  unfold va_262 vl_262_2
  rw [p1, o3]
  have key := fe_all (β := Int32) (F := fun (i_262 : Nat) (a_262 : Unit) => ((if (V 58 i_262) < 0 then .inl () else (if (((va_259 s (V 58 i_262) V) >>> ((nI i_262) &&& 31)) &&& (1 : Int32)) = 0 then .inr (0 : Int32) else .inl ())) : Unit ⊕ Int32)) (P := fun p => ¬ V 58 p = -1 → sb (va_13 s (V 58 p) V) p = true) (b := (0 : Int32)) (n := (V 42 2).toNatClampNeg) (fun i hi => by
    have h0 : V 58 i < 0 ↔ V 58 i = -1 := by
      rcases o4 i (by omega) with q | q
      · rw [q]
        exact ⟨fun _ => rfl, fun _ => by decide⟩
      · have := zb_r q (by decide)
        simp only [zz_lt, zz_eq, zl_0, zl_m1]
        omega
    by_cases c1 : V 58 i = -1
    · rw [if_pos (h0.mpr c1)]
      exact ⟨fun _ => rfl, fun z => absurd (fun y => absurd c1 y) z⟩
    · rw [if_neg (fun z => c1 (h0.mp z)), q259 ho, ← q13 ho]
      by_cases c2 : sb (va_13 s (V 58 i) V) i = true
      · rw [if_neg (by rw [(sb_t (by omega)).mpr c2]; decide)]
        exact ⟨fun _ => rfl, fun z => absurd (fun _ => c2) z⟩
      · rw [if_pos (sb_l0 (by rw [sb_sh (by omega)]; exact c2))]
        exact ⟨fun z => absurd (z c1) c2, fun _ => rfl⟩)
  rcases key with ⟨h1, h2⟩ | ⟨h1, i, h2, h3⟩
  · rw [h1]
    exact Or.inl ⟨rfl, h2⟩
  · rw [h1]
    exact Or.inr ⟨rfl, fun z => h3 (z i h2)⟩
def lx (a b : Nat) : Prop := cnt a < cnt b ∨ (cnt a = cnt b ∧ a ≤ b)
theorem lx_t {a b c : Nat} (h : lx a b) (g : lx b c) : lx a c := by
  unfold lx at *
  omega
theorem lx_r (a : Nat) : lx a a := Or.inr ⟨rfl, Nat.le_refl _⟩
theorem lx_e {a b : Nat} (h : lx a b) (g : lx b a) : a = b := by
  unfold lx at *
  omega
theorem lx_d {a b : Nat} (h : ¬ lx a b) : lx b a := by
  unfold lx at *
  omega
theorem nI_2n {n : Nat} (h : n ≤ 12) : ((1 : Int32) <<< ((nI n) &&& 31)) = nI (2 ^ n) := (show ∀ n, n < 13 → ((1 : Int32) <<< ((nI n) &&& 31)) = nI (2 ^ n) by decide +kernel) n (by omega)
theorem two12 {n : Nat} (h : n ≤ 12) : 2 ^ n ≤ 4096 := Nat.le_trans (Nat.pow_le_pow_right (by decide) h) (by decide : 2 ^ 12 ≤ 4096)
/-- the reference's -/
theorem q263 {V : aa_V} (hI : nv V) {n : Nat} (hn : V 42 2 = nI n) (hn2 : n ≤ 12) {t : Nat} (ht : t < 2 ^ n) (ht2 : swk V (nI t)) (ht3 : ∀ s, s < 2 ^ n → swk V (nI s) → lx t s) : va_263 V = nI t := by
  obtain ⟨⟨p1, p2, p3, p4, p5, p6⟩, _⟩ := hI.2.2.2.2.1
  have h4 := two12 hn2
  have key : ∀ i, i ≤ 2 ^ n → ((fo (fun (i_263 : Nat) (a_263 : Int32) => ((if a_263 < 0 then (if (va_262 (nI i_263) V) = 0 then a_263 else (nI i_263)) else (if (va_261 (nI i_263) V) < (va_261 a_263 V) then (if (va_262 (nI i_263) V) = 0 then a_263 else (nI i_263)) else a_263)) : Int32)) i (-1 : Int32) = -1 ∧ ∀ s, s < i → ¬ swk V (nI s)) ∨ ∃ u, u < i ∧ fo (fun (i_263 : Nat) (a_263 : Int32) => ((if a_263 < 0 then (if (va_262 (nI i_263) V) = 0 then a_263 else (nI i_263)) else (if (va_261 (nI i_263) V) < (va_261 a_263 V) then (if (va_262 (nI i_263) V) = 0 then a_263 else (nI i_263)) else a_263)) : Int32)) i (-1 : Int32) = nI u ∧ swk V (nI u) ∧ ∀ s, s < i → swk V (nI s) → lx u s) := by
    intro i
    induction i with
    | zero => exact fun _ => Or.inl ⟨rfl, fun s hs => absurd hs (Nat.not_lt_zero _)⟩
    | succ i ih =>
      intro hi
      rw [fo_s]
      rcases ih (by omega) with ⟨h1, h2⟩ | ⟨u, h0, h1, h2, h3⟩
      · rw [h1, if_pos (by decide)]
        rcases q262 hI (nI i) with ⟨g1, g2⟩ | ⟨g1, g2⟩
        · rw [if_neg (by rw [g1]; decide)]
          refine Or.inr ⟨i, by omega, rfl, g2, fun s hs hs2 => ?_⟩
          rcases Nat.lt_or_ge s i with r | r
          · exact absurd hs2 (h2 s r)
          · rw [show s = i by omega]
            exact lx_r i
        · rw [if_pos g1]
          refine Or.inl ⟨rfl, fun s hs hs2 => ?_⟩
          rcases Nat.lt_or_ge s i with r | r
          · exact h2 s r hs2
          · rw [show s = i by omega] at hs2
            exact g2 hs2
      · rw [h1]
        have ci := cnt_le i
        have cu := cnt_le u
        rw [if_neg (nI_n0 (by omega)), cnt_1, cnt_1]
        by_cases c : cnt i < cnt u
        · rw [if_pos ((zz_nlt (by omega) (by omega)).mpr c)]
          rcases q262 hI (nI i) with ⟨g1, g2⟩ | ⟨g1, g2⟩
          · rw [if_neg (by rw [g1]; decide)]
            refine Or.inr ⟨i, by omega, rfl, g2, fun s hs hs2 => ?_⟩
            rcases Nat.lt_or_ge s i with r | r
            · exact lx_t (Or.inl c) (h3 s r hs2)
            · rw [show s = i by omega]
              exact lx_r i
          · rw [if_pos g1]
            refine Or.inr ⟨u, by omega, rfl, h2, fun s hs hs2 => ?_⟩
            rcases Nat.lt_or_ge s i with r | r
            · exact h3 s r hs2
            · rw [show s = i by omega] at hs2
              exact absurd hs2 g2
        · rw [if_neg (fun z => c ((zz_nlt (by omega) (by omega)).mp z))]
          refine Or.inr ⟨u, by omega, rfl, h2, fun s hs hs2 => ?_⟩
          rcases Nat.lt_or_ge s i with r | r
          · exact h3 s r hs2
          · rw [show s = i by omega]
            unfold lx
            omega
  unfold va_263 vl_263_4
  rw [p1, hn, nI_2n hn2, zz_ix (by omega)]
  rcases key (2 ^ n) (Nat.le_refl _) with ⟨h1, h2⟩ | ⟨u, h0, h1, h2, h3⟩
  · exact absurd ht2 (h2 t ht)
  · show fo _ _ _ = _
    rw [h1, lx_e (h3 t ht ht2) (ht3 u h0 h2)]
theorem q13z {V W : aa_V} (h : ∀ c, c ≠ 59 → W c = V c) (a b : Int32) : va_13 a b W = va_13 a b V := by
  unfold va_13 vl_13_5
  rw [h 54 (by decide), h 55 (by decide), h 56 (by decide), h 57 (by decide)]
theorem q15z {V W : aa_V} (h : ∀ c, c ≠ 59 → W c = V c) (a b : Int32) : va_15 a b W = va_15 a b V := by
  unfold va_15 vl_15_5
  rw [h 58 (by decide)]
  simp only [q13z h]
theorem swk_z {V W : aa_V} (h : ∀ c, c ≠ 59 → W c = V c) (s : Int32) : swk W s ↔ swk V s := by
  unfold swk
  rw [h 42 (by decide), h 58 (by decide)]
  simp only [q13z h]
/-- what the class asks of a set -/
theorem q16 {V X : aa_V} (hI : nv V) {n : Nat} (hn : V 42 2 = nI n) (hn2 : n ≤ 12) (hX : ∀ p, p < n → X 59 p = va_15 (nI p) (nI n) V) {s : Nat} (hs : s < 2 ^ n) : ((va_16 (nI s) (nI n) X &&& bs n (fun p => decide (¬ V 58 p = -1))) = bs n (fun p => decide (¬ V 58 p = -1))) ↔ swk V (nI s) := by
  have ho := hI.2.2.2.2.2.1
  have h4 := two12 hn2
  have hN : (nI n).toNatClampNeg = n := zz_ix (by omega)
  have b15 : ∀ p q, p < 12 → q < 32 → (sb (va_15 (nI p) (nI n) V) q = true ↔ (q < n ∧ ¬ V 58 q = -1 ∧ sb (va_13 ((1 : Int32) <<< ((nI p) &&& 31)) (V 58 q) V) q = true)) := by
    intro p q hp hq
    unfold va_15 vl_15_5
    rw [hN]
    dsimp only
    rw [fo_orr (P := fun i q => q = i ∧ ¬ V 58 i = -1 ∧ sb (va_13 ((1 : Int32) <<< ((nI p) &&& 31)) (V 58 i) V) q = true) (fun i a q hi hq => ?_) q hq]
    · exact ⟨fun ⟨i, h1, h2, h3, h5⟩ => by subst h2; exact ⟨h1, h3, h5⟩, fun ⟨h1, h3, h5⟩ => ⟨q, h1, rfl, h3, h5⟩⟩
    · by_cases c : V 58 i = -1
      · rw [if_pos c]
        exact ⟨fun z => Or.inl z, fun z => z.elim id (fun y => absurd c y.2.1)⟩
      · rw [if_neg c, sb_or, sb_and, sb_shl (by omega) hq, Bool.or_eq_true, Bool.and_eq_true, decide_eq_true_eq]
        exact ⟨fun z => z.elim Or.inl (fun y => Or.inr ⟨y.2, c, y.1⟩), fun z => z.elim Or.inl (fun y => Or.inr ⟨y.2.2, y.1⟩)⟩
  have b16 : ∀ q, q < 32 → (sb (va_16 (nI s) (nI n) X) q = true ↔ ∃ p, p < n ∧ sb (nI s) p = true ∧ sb (va_15 (nI p) (nI n) V) q = true) := by
    intro q hq
    unfold va_16 vl_16_5
    rw [hN]
    dsimp only
    refine fo_orr (P := fun p q => sb (nI s) p = true ∧ sb (va_15 (nI p) (nI n) V) q = true) (fun i a q hi hq => ?_) q hq
    rw [hX i hi]
    by_cases c : sb (nI s) i = true
    · rw [if_pos ((sb_t (by omega)).mpr c), sb_or, Bool.or_eq_true]
      exact ⟨fun z => z.elim Or.inl (fun y => Or.inr ⟨c, y⟩), fun z => z.elim Or.inl (fun y => Or.inr y.2)⟩
    · rw [if_neg (fun z => c ((sb_t (by omega)).mp z))]
      exact ⟨fun z => Or.inl z, fun z => z.elim id (fun y => absurd y.1 c)⟩
  rw [sb_sub]
  unfold swk
  rw [hn, hN]
  constructor
  · intro h q hq hq2
    have h5 := h q (by omega) (by rw [bs_b (by omega) (by omega), decide_eq_true hq, decide_eq_true hq2]; rfl)
    obtain ⟨p, g1, g2, g3⟩ := (b16 q (by omega)).mp h5
    have g4 := ((b15 p q (by omega) (by omega)).mp g3).2.2
    rw [q13 ho] at g4 ⊢
    exact (sw_lin ho (V 58 q) (nI s) _ q (by omega)).mpr ⟨p, by omega, g2, g4⟩
  · intro h q hq hq2
    rw [bs_b (by omega) (by omega), Bool.and_eq_true, decide_eq_true_eq, decide_eq_true_eq] at hq2
    have h5 := h q hq2.1 hq2.2
    rw [q13 ho] at h5
    obtain ⟨p, g1, g2, g3⟩ := (sw_lin ho (V 58 q) (nI s) _ q (by omega)).mp h5
    rw [b16 q hq]
    have hp : p < n := by
      refine Nat.lt_of_not_ge fun r => ?_
      have : (pz_n (nI s)).testBit p = false := by
        rw [pz_nI (by omega)]
        exact Nat.testBit_lt_two_pow (Nat.lt_of_lt_of_le hs (Nat.pow_le_pow_right (by decide) r))
      have g2' : (pz_n (nI s)).testBit p = true := g2
      rw [this] at g2'
      cases g2'
    exact ⟨p, hp, g2, (b15 p q (by omega) hq).mpr ⟨hq2.1, hq2.2, by rw [q13 ho]; exact g3⟩⟩
set_option maxRecDepth 20000 in
theorem cs_169 {G : ab_G} {L : Nat} {xs : Nat → Int32} {l : Launch} {d : Nat} {V : aa_V} {Q : Int32 → Int32 → aa_V → Prop} (hI : nv V) (hQ : ∀ x W, nv W → Q x x W) :
    ab_E G (ac_ST L xs) l (d + 4) ac_SK 169 [.ref 0] V (aa_rI fun x V1 => ab_E G (ac_ST L xs) l (d + 3) ac_SK 263 [.ref 105] V1 (aa_rI fun y W => Q x y W)) := by
  have ho := hI.2.2.2.2.2.1
  obtain ⟨⟨o1, o2, o3, o4⟩, o5, o6, o7, o8, o9⟩ := id ho
  obtain ⟨⟨p1, p2, p3, p4, p5, p6⟩, _⟩ := hI.2.2.2.2.1
  obtain ⟨n, hn, hm⟩ := zb_i p2
  have h4 := two12 hm
  obtain ⟨T, hT⟩ : ∃ T, T = bs n (fun p => decide (¬ V 58 p = -1)) := ⟨_, rfl⟩
  have hTn : pz_n T < 2 ^ n := by
    rw [hT]
    exact Nat.lt_pow_two_of_testBit _ (fun i hi => by rw [pz_bs (by omega), decide_eq_false (by omega), Bool.false_and])
  have hTe : T = nI (pz_n T) := pz_of rfl (by omega)
  have hTk : swk V T := by
    intro p hp hp2
    rw [q13 ho]
    rw [hn, zz_ix (by omega)] at hp
    refine sw_mono ho _ _ (by omega) ?_ _
    rw [hT, bs_b (by omega) (by omega), decide_eq_true hp, decide_eq_true hp2]
    rfl
  refine vc_169_0 ?_
  refine vc_81_0 ?_
  dsimp only [aa_rI]
  rw [hn]
  refine iv_14_0 ?_
  refine zz_up (σ := aa_V) (fun i X => ab_J G (ac_ST L xs) l (d + 3) 14 4 [some (.ref 54), some (.int (nI n)), some (.int (bs i (fun p => decide (¬ V 58 p = -1)))), some (.int (nI i)), none, none] [] ac_SK X ac_SK (aa_rI (fun x2 V2 => ab_E G (ac_ST L xs) l (d + 3) ac_SK 263 [.ref 105] V2 (aa_rI fun y W => Q x2 y W)))) (fun i X => (∀ c, c ≠ 59 → X c = V c) ∧ ∀ p, p < i → X 59 p = va_15 (nI p) (nI n) V) n ?_ ?_ 0 V (Nat.zero_le _) ⟨fun _ _ => rfl, fun p hp => absurd hp (Nat.not_lt_zero _)⟩
  · intro X hX
    obtain ⟨h1, h2⟩ := hX
    have hSX : sc V X := sc_on sc_r (a := 59) rfl h1
    have hIX := nv_z hSX hI
    refine iv_14_4 ⟨fun q => absurd q (nI_nl (Nat.le_refl _) (by omega)), fun _ => ?_⟩
    rw [← hT]
    refine zz_up (σ := Int32) (fun i b => ab_J G (ac_ST L xs) l (d + 3) 14 52 [some (.ref 54), some (.int (nI n)), some (.int T), some (.int b), some (.int (nI i)), none] [] ac_SK X ac_SK (aa_rI (fun x2 V2 => ab_E G (ac_ST L xs) l (d + 3) ac_SK 263 [.ref 105] V2 (aa_rI fun y W => Q x2 y W)))) (fun i b => ∃ t, b = nI t ∧ t < 2 ^ n ∧ swk V (nI t) ∧ (∀ s, s < i → swk V (nI s) → lx t s) ∧ lx t (pz_n T)) (2 ^ n) ?_ ?_ 0 T (Nat.zero_le _) ⟨pz_n T, hTe, hTn, by rw [← hTe]; exact hTk, fun s hs => absurd hs (Nat.not_lt_zero _), lx_r _⟩
    · rintro b ⟨t, e1, e2, e3, e4, e5⟩
      refine iv_14_52 ⟨fun q => absurd q (by rw [nI_2n hm]; exact nI_nl (Nat.le_refl _) (by omega)), fun _ => ?_⟩
      show ab_E _ _ _ _ _ _ _ _ _
      have hn' : X 42 2 = nI n := by rw [h1 42 (by decide), hn]
      have hoX := hIX.2.2.2.2.2.1
      refine sp_263 ?_ ?_ ?_ (q141 hoX) ?_
      · rw [h1 105 (by decide), p1, hn, nI_2n hm]
        exact zb_n (by omega) (by decide)
      · rw [h1 105 (by decide), p1]
        exact p2
      · rw [h1 105 (by decide), o1]
        exact o2
      · show Q b _ X
        rw [q263 hIX hn' hm e2 ((swk_z h1 _).mpr e3) (fun s hs hs2 => e4 s hs ((swk_z h1 _).mp hs2)), ← e1]
        exact hQ _ _ hIX
    · intro i b hi hb ih
      obtain ⟨t, e1, e2, e3, e4, e5⟩ := hb
      subst e1
      have ci := cnt_le i
      have ct := cnt_le t
      have ih' : ∀ b, (∃ t, b = nI t ∧ t < 2 ^ n ∧ swk V (nI t) ∧ (∀ s, s < i + 1 → swk V (nI s) → lx t s) ∧ lx t (pz_n T)) → ab_J G (ac_ST L xs) l (d + 3) 14 52 [some (.ref 54), some (.int (nI n)), some (.int T), some (.int b), some (.int (nI i + 1)), none] [] ac_SK X ac_SK (aa_rI (fun x2 V2 => ab_E G (ac_ST L xs) l (d + 3) ac_SK 263 [.ref 105] V2 (aa_rI fun y W => Q x2 y W))) := fun b hb => by
        have := ih b hb
        rw [nI_succ] at this
        exact this
      have keep : (swk V (nI i) → lx t i) → ab_J G (ac_ST L xs) l (d + 3) 14 52 [some (.ref 54), some (.int (nI n)), some (.int T), some (.int (nI t)), some (.int (nI i + 1)), none] [] ac_SK X ac_SK (aa_rI (fun x2 V2 => ab_E G (ac_ST L xs) l (d + 3) ac_SK 263 [.ref 105] V2 (aa_rI fun y W => Q x2 y W))) := fun hk => ih' _ ⟨t, rfl, e2, e3, fun s hs hs2 => by
        rcases Nat.lt_or_ge s i with r | r
        · exact e4 s r hs2
        · rw [show s = i by omega] at hs2 ⊢
          exact hk hs2, e5⟩
      have take : lx i t → swk V (nI i) → ab_J G (ac_ST L xs) l (d + 3) 14 52 [some (.ref 54), some (.int (nI n)), some (.int T), some (.int (nI i)), some (.int (nI i + 1)), none] [] ac_SK X ac_SK (aa_rI (fun x2 V2 => ab_E G (ac_ST L xs) l (d + 3) ac_SK 263 [.ref 105] V2 (aa_rI fun y W => Q x2 y W))) := fun hl hk => ih' _ ⟨i, rfl, hi, hk, fun s hs hs2 => by
        rcases Nat.lt_or_ge s i with r | r
        · exact lx_t hl (e4 s r hs2)
        · rw [show s = i by omega]
          exact lx_r i, lx_t hl e5⟩
      have try16 : lx i t → ab_E G (ac_ST L xs) l (d + 2) ac_SK 16 [.ref 54, .int (nI i), .int (nI n)] X (aa_rI (fun x3 V3 =>
              ((x3 &&& T) = T →
                ab_J G (ac_ST L xs) l (d + 3) 14 52 [some (.ref 54), some (.int (nI n)), some (.int T), some (.int (nI i)), some (.int (nI i + 1)), none] [] ac_SK V3 ac_SK (aa_rI (fun x2 V2 => ab_E G (ac_ST L xs) l (d + 3) ac_SK 263 [.ref 105] V2 (aa_rI fun y W => Q x2 y W)))) ∧
              (¬ (x3 &&& T) = T →
                ab_J G (ac_ST L xs) l (d + 3) 14 52 [some (.ref 54), some (.int (nI n)), some (.int T), some (.int (nI t)), some (.int (nI i + 1)), none] [] ac_SK V3 ac_SK (aa_rI (fun x2 V2 => ab_E G (ac_ST L xs) l (d + 3) ac_SK 263 [.ref 105] V2 (aa_rI fun y W => Q x2 y W)))))) := fun hl => by
        refine sp_16 (zb_n hm (by decide)) ?_
        dsimp only [aa_rI]
        have hk := q16 hI hn hm h2 hi
        rw [← hT] at hk
        exact ⟨fun c => take hl (hk.mp c), fun c => keep (fun z => absurd (hk.mpr z) c)⟩
      refine iv_14_52 ⟨fun _ => ?_, fun q => absurd (by rw [nI_2n hm]; exact (zz_nlt (by omega) (by omega)).mpr hi) q⟩
      refine sp_285 ?_
      dsimp only [aa_rI]
      refine sp_285 ?_
      dsimp only [aa_rI]
      rw [cnt_5 X (by omega), cnt_5 X (by omega)]
      have hd : (nI (cnt t) - nI (cnt i)).toInt = (cnt t : Int) - cnt i := by
        rw [Int32.toInt_sub, nI_toInt (by omega), nI_toInt (by omega)]
        apply Int.bmod_eq_of_le <;> omega
      refine ⟨fun c => try16 ?_, fun c => ⟨fun c2 => ⟨fun c3 => try16 ?_, fun c3 => keep (fun _ => ?_)⟩, fun c2 => keep (fun _ => ?_)⟩⟩
      · simp only [zz_lt, zl_0, hd] at c
        exact Or.inl (by omega)
      · simp only [zz_eq, zl_0, hd] at c2
        have := (zz_nlt (by omega) (by omega)).mp c3
        exact Or.inr ⟨by omega, by omega⟩
      · simp only [zz_eq, zl_0, hd] at c2
        have : ¬ i < t := fun z => c3 ((zz_nlt (a := i) (b := t) (by omega) (by omega)).mpr z)
        exact Or.inr ⟨by omega, by omega⟩
      · simp only [zz_lt, zz_eq, zl_0, hd] at c c2
        exact Or.inl (by omega)
  · intro i X hi hX ih
    obtain ⟨h1, h2⟩ := hX
    have e : (nI i).toNatClampNeg = i := zz_ix (by omega)
    have vi : vp_in (nI i) 12 := vp_in_nI (by omega) (by decide)
    have go : ∀ b, b = bs (i + 1) (fun p => decide (¬ V 58 p = -1)) → ab_E G (ac_ST L xs) l (d + 2) ac_SK 15 [.ref 54, .int (nI i), .int (nI n)] X (aa_rI (fun x1 V1 =>
          vp_in (nI i) 12 ∧
          ab_J G (ac_ST L xs) l (d + 3) 14 4 [some (.ref 54), some (.int (nI n)), some (.int b), some (.int (nI i + 1)), none, none] [] ac_SK (aa_up V1 59 ((nI i)).toNatClampNeg x1) ac_SK (aa_rI (fun x2 V2 => ab_E G (ac_ST L xs) l (d + 3) ac_SK 263 [.ref 105] V2 (aa_rI fun y W => Q x2 y W))))) := fun b hb => by
      refine sp_15 (zb_n hm (by decide)) (by rw [h1 54 (by decide)]; exact o2) ?_
      dsimp only [aa_rI]
      refine ⟨vi, ?_⟩
      have := ih (aa_up X 59 i (va_15 (nI i) (nI n) X)) ⟨fun c hc => (aa_up_c hc).trans (h1 c hc), fun p hp => by
        rw [aa_up_at]
        by_cases q : p = i
        · rw [if_pos ⟨rfl, q⟩, q, q15z h1]
        · rw [if_neg (fun z => q z.2)]
          exact h2 p (by omega)⟩
      rw [nI_succ, ← hb] at this
      rw [e]
      exact this
    refine iv_14_4 ⟨fun _ => ⟨vi, fun c => go _ ?_, fun c => go _ ?_⟩, fun q => absurd ((zz_nlt (by omega) (by omega)).mpr hi) q⟩
    · rw [e, h1 58 (by decide)] at c
      show _ = (if _ then _ else _)
      rw [if_neg (fun z => absurd (of_decide_eq_true z) (fun y => y c)), Int32.or_zero]
      rfl
    · rw [e, h1 58 (by decide)] at c
      show _ = (if _ then _ else _)
      rw [if_pos (decide_eq_true c)]
      rfl
