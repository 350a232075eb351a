/-! how far villages lie apart: the same row for both -/
theorem aa_up_at {V : aa_V} {a k b j : Nat} {x : Int32} : aa_up V a k x b j = if b = a ∧ j = k then x else V b j := by
  unfold aa_up upd
  by_cases h1 : b = a
  · subst h1
    rw [if_pos rfl]
    by_cases h2 : j = k
    · rw [if_pos h2, if_pos ⟨rfl, h2⟩]
    · rw [if_neg h2, if_neg (fun q => h2 q.2)]
  · rw [if_neg h1, if_neg (fun q => h1 q.1)]
theorem aa_up_c {V : aa_V} {a k b : Nat} {x : Int32} (h : b ≠ a) : aa_up V a k x b = V b := if_neg h
theorem aa_up_s {V : aa_V} {a k : Nat} {x : Int32} : aa_up V a k x a k = x := by rw [aa_up_at, if_pos ⟨rfl, rfl⟩]
theorem aa_up_o {V : aa_V} {a k j : Nat} {x : Int32} (h : j ≠ k) : aa_up V a k x a j = V a j := by rw [aa_up_at, if_neg (fun q => h q.2)]
/-- 0 in bright nights, 1 in dark ones -/
def qf_m (n : Int32) : Int32 := if (n - n / 30 * 30) < 8 then 1 else if 22 < (n - n / 30 * 30) then 1 else 0
def qf_0 (more : Int32) (r : Nat → Int32) (k : Nat) : Int32 := if k % 9 = 0 then 0 else if r k = 99 then 99 else r k + more
def qf_s (m a b : Nat) (g : Nat → Int32) : Nat → Int32 := fun k => if k = 8 * a + b then (if g (8 * a + m) + g (8 * m + b) < g (8 * a + b) then g (8 * a + m) + g (8 * m + b) else g (8 * a + b)) else g k
def qf_l (m a : Nat) (g : Nat → Int32) : Nat → Int32 := fo (qf_s m a) 8 g
def qf_k (m : Nat) (g : Nat → Int32) : Nat → Int32 := fo (qf_l m) 8 g
def qf (more : Int32) (r : Nat → Int32) : Nat → Int32 := fo qf_k 8 (qf_0 more r)
theorem nI_k {n : Nat} (h : n < 2 ^ 31) {m : Nat} (hm : m < 2 ^ 31) : nI n = nI m ↔ n = m := by
  constructor
  · intro q
    have := congrArg Int32.toNatClampNeg q
    rwa [zz_ix h, zz_ix hm] at this
  · intro q
    rw [q]
set_option maxRecDepth 20000 in
theorem sp_54 {G : ab_G} {L : Nat} {xs : Nat → Int32} {l : Launch} {d : Nat} {r1 : Nat} {i2 : Int32} {V : aa_V} {K : aa_K} (hr : r1 = 11 ∨ r1 = 20)
    (h : ∀ W : aa_V, (∀ c, ¬ (r1 < c ∧ c < r1 + 9) → W c = V c) → (∀ a b, a < 8 → b < 8 → W (r1 + 1 + a) b = qf i2 (fun k => V (3 + k / 8) (k % 8)) (8 * a + b)) → K none W) :
    ab_E G (ac_ST L xs) l (d + 1) ac_SK 54 [.ref 1, .ref r1, .int i2] V K := by
  obtain ⟨rs, hs1, hs2, hs3⟩ : ∃ rs, aa_sh ac_SK r1 = some (103, 8, rs) ∧ (∀ a, a < 8 → aa_nth rs a = (r1 + 1 + a) + 1) ∧ (∀ a, a < 8 → aa_sh ac_SK (r1 + 1 + a) = some (100, 8, [])) := by
    rcases hr with rfl | rfl
    · exact ⟨_, rfl, by decide, by decide +kernel⟩
    · exact ⟨_, rfl, by decide, by decide +kernel⟩
  have ht : ∀ a, a < 8 → aa_nth [4, 5, 6, 7, 8, 9, 10, 11] a = (3 + a) + 1 := by decide
  have ht3 : ∀ a, a < 8 → aa_sh ac_SK (3 + a) = some (100, 8, []) := by decide +kernel
  have hg : 10 < r1 := by omega
  have vi : ∀ {i : Nat}, i < 8 → vp_in (nI i) 8 := fun q => vp_in_nI q (by decide)
  have ei : ∀ {i : Nat}, i < 8 → (nI i).toNatClampNeg = i := fun q => zz_ix (by omega)
  have li : ∀ {i : Nat}, i < 8 → nI i < (8 : Int32) := fun q => zz_gl (n := 8) rfl q (by decide)
  refine iv_54_0 ?_
  -- the second half
  have ph2 : ∀ W : aa_V, (∀ c, ¬ (r1 < c ∧ c < r1 + 9) → W c = V c) → (∀ a b, a < 8 → b < 8 → W (r1 + 1 + a) b = qf_0 i2 (fun k => V (3 + k / 8) (k % 8)) (8 * a + b)) → ab_J G (ac_ST L xs) l (d + 1) 54 78 [none, some (.ref r1), none, some (.int (nI 0)), none, none] [] ac_SK W ac_SK K := by
    have st : ∀ (g0 : Nat → Int32), (∀ W : aa_V, (∀ c, ¬ (r1 < c ∧ c < r1 + 9) → W c = V c) → (∀ a b, a < 8 → b < 8 → W (r1 + 1 + a) b = fo qf_k 8 g0 (8 * a + b)) → K none W) → ∀ W : aa_V, (∀ c, ¬ (r1 < c ∧ c < r1 + 9) → W c = V c) → (∀ a b, a < 8 → b < 8 → W (r1 + 1 + a) b = g0 (8 * a + b)) → ab_J G (ac_ST L xs) l (d + 1) 54 78 [none, some (.ref r1), none, some (.int (nI 0)), none, none] [] ac_SK W ac_SK K := by
      intro g0 hK
      refine zz_fo qf_k (fun m g => ∀ W : aa_V, (∀ c, ¬ (r1 < c ∧ c < r1 + 9) → W c = V c) → (∀ a b, a < 8 → b < 8 → W (r1 + 1 + a) b = g (8 * a + b)) → ab_J G (ac_ST L xs) l (d + 1) 54 78 [none, some (.ref r1), none, some (.int (nI m)), none, none] [] ac_SK W ac_SK K) 8 g0 ?_ ?_
      · intro W hP hR
        exact iv_54_78 ⟨fun q => absurd q (zz_ge (n := 8) rfl), fun _ => hK W hP hR⟩
      · intro m hm ih
        rw [fo_s, nI_succ] at ih
        generalize fo qf_k m g0 = g1 at ih ⊢
        intro W hP hR
        refine iv_54_78 ⟨fun _ => ?_, fun q => absurd (li hm) q⟩
        refine zz_fo (qf_l m) (fun a g => ∀ W : aa_V, (∀ c, ¬ (r1 < c ∧ c < r1 + 9) → W c = V c) → (∀ a b, a < 8 → b < 8 → W (r1 + 1 + a) b = g (8 * a + b)) → ab_J G (ac_ST L xs) l (d + 1) 54 87 [none, some (.ref r1), none, some (.int (nI m)), some (.int (nI a)), none] [] ac_SK W ac_SK K) 8 g1 ?_ ?_ W hP hR
        · intro W hP hR
          exact iv_54_87 ⟨fun q => absurd q (zz_ge (n := 8) rfl), fun _ => ih W hP hR⟩
        · intro a ha ih2
          rw [fo_s, nI_succ] at ih2
          generalize fo (qf_l m) a g1 = g2 at ih2 ⊢
          intro W hP hR
          refine iv_54_87 ⟨fun _ => ?_, fun q => absurd (li ha) q⟩
          refine zz_fo (qf_s m a) (fun b g => ∀ W : aa_V, (∀ c, ¬ (r1 < c ∧ c < r1 + 9) → W c = V c) → (∀ a b, a < 8 → b < 8 → W (r1 + 1 + a) b = g (8 * a + b)) → ab_J G (ac_ST L xs) l (d + 1) 54 97 [none, some (.ref r1), none, some (.int (nI m)), some (.int (nI a)), some (.int (nI b))] [] ac_SK W ac_SK K) 8 g2 ?_ ?_ W hP hR
          · intro W hP hR
            exact iv_54_97 ⟨fun q => absurd q (zz_ge (n := 8) rfl), fun _ => ih2 W hP hR⟩
          · intro b hb ih3
            rw [fo_s, nI_succ] at ih3
            generalize fo (qf_s m a) b g2 = g3 at ih3 ⊢
            intro W hP hR
            refine iv_54_97 ⟨fun _ => ?_, fun q => absurd (li hb) q⟩
            simp only [ei hm, ei ha, ei hb]
            refine ⟨8, rs, r1 + 1 + a, hs1, vi ha, hs2 a ha, 8, rs, r1 + 1 + a, hs1, vi ha, hs2 a ha, 8, [], hs3 a ha, vi hb, 8, rs, r1 + 1 + a, hs1, vi ha, hs2 a ha, 8, [], hs3 a ha, vi hm, 8, rs, r1 + 1 + m, hs1, vi hm, hs2 m hm, 8, [], hs3 m hm, vi hb, 8, [], hs3 a ha, vi hb, ?_⟩
            refine ih3 _ (fun c hc => ?_) (fun a' b' ha' hb' => ?_)
            · rw [aa_up_c (by omega)]
              exact hP c hc
            · rw [aa_up_at, hR a m ha hm, hR m b hm hb, hR a b ha hb, hR a' b' ha' hb']
              unfold qf_s
              by_cases e : r1 + 1 + a' = r1 + 1 + a ∧ b' = b
              · rw [if_pos e, if_pos (show 8 * a' + b' = 8 * a + b by omega)]
              · rw [if_neg e, if_neg (show ¬ 8 * a' + b' = 8 * a + b by omega)]
    exact st _ h
  -- the first half
  refine zz_up (fun a (W : aa_V) => ab_J G (ac_ST L xs) l (d + 1) 54 2 [some (.ref 1), some (.ref r1), some (.int i2), some (.int (nI a)), none, none] [] ac_SK W ac_SK K) (fun a W => (∀ c, ¬ (r1 < c ∧ c < r1 + 9) → W c = V c) ∧ (∀ a' b, a' < a → b < 8 → W (r1 + 1 + a') b = qf_0 i2 (fun k => V (3 + k / 8) (k % 8)) (8 * a' + b))) 8 ?_ ?_ 0 V (by omega) ⟨fun _ _ => rfl, fun a' b q => absurd q (by omega)⟩
  · intro W hI
    exact iv_54_2 ⟨fun q => absurd q (zz_ge (n := 8) rfl), fun _ => ph2 W hI.1 (fun a b ha hb => hI.2 a b ha hb)⟩
  · intro a W ha hI ih
    rw [nI_succ] at ih
    refine iv_54_2 ⟨fun _ => ?_, fun q => absurd (li ha) q⟩
    refine zz_up (fun b (W : aa_V) => ab_J G (ac_ST L xs) l (d + 1) 54 11 [some (.ref 1), some (.ref r1), some (.int i2), some (.int (nI a)), some (.int (nI b)), none] [] ac_SK W ac_SK K) (fun b W => (∀ c, ¬ (r1 < c ∧ c < r1 + 9) → W c = V c) ∧ (∀ a' b', a' < a + 1 → b' < 8 → (a' < a ∨ b' < b) → W (r1 + 1 + a') b' = qf_0 i2 (fun k => V (3 + k / 8) (k % 8)) (8 * a' + b'))) 8 ?_ ?_ 0 W (by omega) ⟨hI.1, fun a' b' q1 q2 q3 => hI.2 a' b' (by omega) q2⟩
    · intro W hI
      exact iv_54_11 ⟨fun q => absurd q (zz_ge (n := 8) rfl), fun _ => ih W ⟨hI.1, fun a' b' q1 q2 => hI.2 a' b' q1 q2 (Or.inr q2)⟩⟩
    · intro b W hb hI ih
      rw [nI_succ] at ih
      have hk : (8 * a + b) / 8 = a ∧ (8 * a + b) % 8 = b := by omega
      have hv : W (3 + a) b = V (3 + a) b := by rw [hI.1 (3 + a) (by omega)]
      have up : ∀ x, x = qf_0 i2 (fun k => V (3 + k / 8) (k % 8)) (8 * a + b) → (∀ c, ¬ (r1 < c ∧ c < r1 + 9) → aa_up W (r1 + 1 + a) b x c = V c) ∧ (∀ a' b', a' < a + 1 → b' < 8 → (a' < a ∨ b' < b + 1) → aa_up W (r1 + 1 + a) b x (r1 + 1 + a') b' = qf_0 i2 (fun k => V (3 + k / 8) (k % 8)) (8 * a' + b')) := by
        intro x hx
        refine ⟨fun c hc => ?_, fun a' b' q1 q2 q3 => ?_⟩
        · rw [aa_up_c (by omega)]
          exact hI.1 c hc
        · rw [aa_up_at]
          by_cases e : r1 + 1 + a' = r1 + 1 + a ∧ b' = b
          · rw [if_pos e, hx]
            have : a' = a := by omega
            rw [this, e.2]
          · rw [if_neg e]
            exact hI.2 a' b' q1 q2 (by omega)
      refine iv_54_11 ⟨fun _ => ?_, fun q => absurd (li hb) q⟩
      simp only [ei ha, ei hb]
      refine ⟨8, rs, r1 + 1 + a, hs1, vi ha, hs2 a ha, fun c1 => ?_, fun c1 => ?_⟩
      · refine ⟨8, [], hs3 a ha, vi hb, ih _ (up _ ?_)⟩
        have : a = b := (nI_k (by omega) (by omega)).mp c1
        rw [qf_0, if_pos (by omega)]
      · have c1' : a ≠ b := fun q => c1 (by rw [q])
        refine ⟨8, _, 3 + a, rfl, vi ha, ht a ha, 8, [], ht3 a ha, vi hb, fun c2 => ?_, fun c2 => ?_⟩
        · refine ⟨8, [], hs3 a ha, vi hb, ih _ (up _ ?_)⟩
          rw [qf_0, if_neg (by omega)]
          rw [hk.1, hk.2, ← hv, if_pos c2]
        · refine ⟨8, _, 3 + a, rfl, vi ha, ht a ha, 8, [], ht3 a ha, vi hb, 8, [], hs3 a ha, vi hb, ih _ (up _ ?_)⟩
          rw [qf_0, if_neg (by omega)]
          rw [hk.1, hk.2, ← hv, if_neg c2]

theorem zb_i {x : Int32} {b : Nat} (h : zb x b) : ∃ n : Nat, x = nI n ∧ n ≤ b := ⟨_, h.1, h.2⟩
theorem zb_n {n b : Nat} (h : n ≤ b) (hb : b < 2147483648) : zb (nI n) b := zb_of h hb
theorem zb_t {x : Int32} {b : Nat} (h : zb x b) (hb : b < 2147483648) : x.toInt = (x.toNatClampNeg : Int) := by
  obtain ⟨n, hn, hm⟩ := zb_i h
  rw [hn, nI_toInt (by omega), zz_ix (by omega)]
theorem nI_plus {m n : Nat} : nI m + nI n = nI (m + n) := by
  unfold nI
  rw [Int32.ofNat_add]
theorem nI_99 : (99 : Int32) = nI 99 := rfl
/-- all ways are numbers up to 99 -/
def qf_b (g : Nat → Int32) : Prop := ∀ k, k < 64 → zb (g k) 99
theorem qf_s_b {m a b : Nat} {g : Nat → Int32} (hm : m < 8) (ha : a < 8) (hb : b < 8) (h : qf_b g) : qf_b (qf_s m a b g) := by
  intro k hk
  unfold qf_s
  by_cases e : k = 8 * a + b
  · rw [if_pos e]
    by_cases c : g (8 * a + m) + g (8 * m + b) < g (8 * a + b)
    · rw [if_pos c]
      obtain ⟨x, hx, hx2⟩ := zb_i (h (8 * a + m) (by omega))
      obtain ⟨y, hy, hy2⟩ := zb_i (h (8 * m + b) (by omega))
      obtain ⟨z, hz, hz2⟩ := zb_i (h (8 * a + b) (by omega))
      rw [hx, hy, hz, nI_plus, zz_nlt (by omega) (by omega)] at c
      rw [hx, hy, nI_plus]
      exact zb_n (by omega) (by omega)
    · rw [if_neg c]
      exact h _ (by omega)
  · rw [if_neg e]
    exact h k hk
theorem qf_fb {F : Nat → (Nat → Int32) → (Nat → Int32)} (hF : ∀ i g, i < 8 → qf_b g → qf_b (F i g)) : ∀ n g, n ≤ 8 → qf_b g → qf_b (fo F n g)
  | 0, _, _, h => h
  | n + 1, g, hn, h => hF n _ (by omega) (qf_fb hF n g (by omega) h)
theorem qf_l_b {m a : Nat} {g : Nat → Int32} (hm : m < 8) (ha : a < 8) (h : qf_b g) : qf_b (qf_l m a g) := qf_fb (F := qf_s m a) (fun i g hi hg => qf_s_b (b := i) hm ha hi hg) 8 g (by omega) h
theorem qf_k_b {m : Nat} {g : Nat → Int32} (hm : m < 8) (h : qf_b g) : qf_b (qf_k m g) := qf_fb (F := qf_l m) (fun i g hi hg => qf_l_b (a := i) hm hi hg) 8 g (by omega) h
theorem qf_0_b {more : Int32} {r : Nat → Int32} (hm : more = 0 ∨ more = 1) (h : qf_b r) : qf_b (qf_0 more r) := by
  intro k hk
  unfold qf_0
  by_cases c : k % 9 = 0
  · rw [if_pos c]
    exact zb_n (n := 0) (by omega) (by omega)
  · rw [if_neg c]
    by_cases c2 : r k = 99
    · rw [if_pos c2]
      exact zb_n (n := 99) (by omega) (by omega)
    · rw [if_neg c2]
      obtain ⟨x, hx, hx2⟩ := zb_i (h k hk)
      have hx3 : x ≠ 99 := fun q => c2 (by rw [hx, q]; rfl)
      rcases hm with rfl | rfl
      · rw [Int32.add_zero]
        exact h k hk
      · rw [hx, ← nI_succ]
        exact zb_n (by omega) (by omega)
theorem qf_bb {more : Int32} {r : Nat → Int32} (hm : more = 0 ∨ more = 1) (h : qf_b r) : qf_b (qf more r) := qf_fb (F := qf_k) (fun i g hi hg => qf_k_b (m := i) hi hg) 8 _ (by omega) (qf_0_b hm h)
theorem qf_0_c {more : Int32} {r r' : Nat → Int32} (h : ∀ k, k < 64 → r k = r' k) : ∀ k, k < 64 → qf_0 more r k = qf_0 more r' k := by
  intro k hk
  unfold qf_0
  rw [h k hk]
theorem qf_s_c {m a b : Nat} {g g' : Nat → Int32} (hm : m < 8) (ha : a < 8) (hb : b < 8) (h : ∀ k, k < 64 → g k = g' k) : ∀ k, k < 64 → qf_s m a b g k = qf_s m a b g' k := by
  intro k hk
  unfold qf_s
  rw [h k hk, h (8 * a + m) (by omega), h (8 * m + b) (by omega), h (8 * a + b) (by omega)]
theorem qf_fc {F : Nat → (Nat → Int32) → (Nat → Int32)} (hF : ∀ i g g', i < 8 → (∀ k, k < 64 → g k = g' k) → ∀ k, k < 64 → F i g k = F i g' k) : ∀ n g g', n ≤ 8 → (∀ k, k < 64 → g k = g' k) → ∀ k, k < 64 → fo F n g k = fo F n g' k
  | 0, _, _, _, h => h
  | n + 1, g, g', hn, h => hF n _ _ (by omega) (qf_fc hF n g g' (by omega) h)
theorem qf_l_c {m a : Nat} {g g' : Nat → Int32} (hm : m < 8) (ha : a < 8) (h : ∀ k, k < 64 → g k = g' k) : ∀ k, k < 64 → qf_l m a g k = qf_l m a g' k := by
  unfold qf_l
  exact qf_fc (F := qf_s m a) (fun b g g' hb hg => qf_s_c (b := b) hm ha hb hg) 8 g g' (by omega) h
theorem qf_k_c {m : Nat} {g g' : Nat → Int32} (hm : m < 8) (h : ∀ k, k < 64 → g k = g' k) : ∀ k, k < 64 → qf_k m g k = qf_k m g' k := by
  unfold qf_k
  exact qf_fc (F := qf_l m) (fun a g g' ha hg => qf_l_c (a := a) hm ha hg) 8 g g' (by omega) h
/-- only the first 64 places count -/
theorem qf_c {more : Int32} {r r' : Nat → Int32} (h : ∀ k, k < 64 → r k = r' k) : ∀ k, k < 64 → qf more r k = qf more r' k := by
  unfold qf
  exact qf_fc (F := qf_k) (fun m g g' hm hg => qf_k_c (m := m) hm hg) 8 _ _ (by omega) (qf_0_c h)
set_option maxRecDepth 20000 in
theorem sp_197 {G : ab_G} {L : Nat} {xs : Nat → Int32} {l : Launch} {d : Nat} {i1 : Int32} {V : aa_V} {K : aa_K} (hb : qf_b (V 106))
    (h : ∀ W : aa_V, (∀ c, c ≠ 107 → W c = V c) → (∀ k, k < 64 → W 107 k = qf (qf_m i1) (V 106) k) → K none W) :
    ab_E G (ac_ST L xs) l (d + 2) ac_SK 197 [.ref 105, .int i1] V K := by
  have vi : ∀ {i : Nat}, i < 64 → vp_in (nI i) 64 := fun q => vp_in_nI q (by decide)
  have ei : ∀ {i : Nat}, i < 64 → (nI i).toNatClampNeg = i := fun q => zz_ix (by omega)
  have li : ∀ {i : Nat}, i < 8 → nI i < (8 : Int32) := fun q => zz_gl (n := 8) rfl q (by decide)
  have e8 : ∀ {a b : Nat}, (8 : Int32) * nI a + nI b = nI (8 * a + b) := by
    intro a b
    rw [show (8 : Int32) = nI 8 from rfl]
    unfold nI
    rw [Int32.ofNat_add, Int32.ofNat_mul]
  have hmo : qf_m i1 = 0 ∨ qf_m i1 = 1 := by
    unfold qf_m
    by_cases c : (i1 - i1 / 30 * 30) < 8
    · rw [if_pos c]
      exact Or.inr rfl
    · rw [if_neg c]
      by_cases c2 : (22 : Int32) < (i1 - i1 / 30 * 30)
      · rw [if_pos c2]
        exact Or.inr rfl
      · rw [if_neg c2]
        exact Or.inl rfl
  -- the second half
  have ph2 : ∀ W : aa_V, (∀ c, c ≠ 107 → W c = V c) → (∀ k, k < 64 → W 107 k = qf_0 (qf_m i1) (V 106) k) → ab_J G (ac_ST L xs) l (d + 2) 197 80 [some (.ref 105), none, none, some (.int (nI 0)), none, none, none] [] ac_SK W ac_SK K := by
    have st : ∀ (g0 : Nat → Int32), qf_b g0 → (∀ W : aa_V, (∀ c, c ≠ 107 → W c = V c) → (∀ k, k < 64 → W 107 k = fo qf_k 8 g0 k) → K none W) → ∀ W : aa_V, (∀ c, c ≠ 107 → W c = V c) → (∀ k, k < 64 → W 107 k = g0 k) → ab_J G (ac_ST L xs) l (d + 2) 197 80 [some (.ref 105), none, none, some (.int (nI 0)), none, none, none] [] ac_SK W ac_SK K := by
      intro g0 hb0 hK
      refine zz_fo qf_k (fun m g => ∀ W : aa_V, (∀ c, c ≠ 107 → W c = V c) → (∀ k, k < 64 → W 107 k = g k) → ab_J G (ac_ST L xs) l (d + 2) 197 80 [some (.ref 105), none, none, some (.int (nI m)), none, none, none] [] ac_SK W ac_SK K) 8 g0 ?_ ?_
      · intro W hP hR
        exact iv_197_80 ⟨fun q => absurd q (zz_ge (n := 8) rfl), fun _ => hK W hP hR⟩
      · intro m hm ih
        have hb1 : qf_b (fo qf_k m g0) := qf_fb (F := qf_k) (fun i g hi hg => qf_k_b (m := i) hi hg) m g0 (by omega) hb0
        rw [fo_s, nI_succ] at ih
        generalize fo qf_k m g0 = g1 at ih hb1 ⊢
        intro W hP hR
        refine iv_197_80 ⟨fun _ => ?_, fun q => absurd (li hm) q⟩
        refine zz_fo (qf_l m) (fun a g => ∀ W : aa_V, (∀ c, c ≠ 107 → W c = V c) → (∀ k, k < 64 → W 107 k = g k) → ab_J G (ac_ST L xs) l (d + 2) 197 89 [some (.ref 105), none, none, some (.int (nI m)), some (.int (nI a)), none, none] [] ac_SK W ac_SK K) 8 g1 ?_ ?_ W hP hR
        · intro W hP hR
          exact iv_197_89 ⟨fun q => absurd q (zz_ge (n := 8) rfl), fun _ => ih W hP hR⟩
        · intro a ha ih2
          have hb2 : qf_b (fo (qf_l m) a g1) := qf_fb (F := qf_l m) (fun i g hi hg => qf_l_b (a := i) hm hi hg) a g1 (by omega) hb1
          rw [fo_s, nI_succ] at ih2
          generalize fo (qf_l m) a g1 = g2 at ih2 hb2 ⊢
          intro W hP hR
          refine iv_197_89 ⟨fun _ => ?_, fun q => absurd (li ha) q⟩
          refine zz_fo (qf_s m a) (fun b g => ∀ W : aa_V, (∀ c, c ≠ 107 → W c = V c) → (∀ k, k < 64 → W 107 k = g k) → ab_J G (ac_ST L xs) l (d + 2) 197 99 [some (.ref 105), none, none, some (.int (nI m)), some (.int (nI a)), some (.int (nI b)), none] [] ac_SK W ac_SK K) 8 g2 ?_ ?_ W hP hR
          · intro W hP hR
            exact iv_197_99 ⟨fun q => absurd q (zz_ge (n := 8) rfl), fun _ => ih2 W hP hR⟩
          · intro b hb ih3
            have hb3 : qf_b (fo (qf_s m a) b g2) := qf_fb (F := qf_s m a) (fun i g hi hg => qf_s_b (b := i) hm ha hi hg) b g2 (by omega) hb2
            rw [fo_s, nI_succ] at ih3
            generalize fo (qf_s m a) b g2 = g3 at ih3 hb3 ⊢
            intro W hP hR
            have k1 : 8 * a + m < 64 := by omega
            have k2 : 8 * m + b < 64 := by omega
            have k3 : 8 * a + b < 64 := by omega
            obtain ⟨x, hx, hx2⟩ := zb_i (hb3 _ k1)
            obtain ⟨y, hy, hy2⟩ := zb_i (hb3 _ k2)
            obtain ⟨z, hz, hz2⟩ := zb_i (hb3 _ k3)
            have stay : ¬ g3 (8 * a + m) + g3 (8 * m + b) < g3 (8 * a + b) → ∀ k, k < 64 → W 107 k = qf_s m a b g3 k := by
              intro q k hk
              rw [hR k hk]
              unfold qf_s
              by_cases e : k = 8 * a + b
              · rw [if_pos e, if_neg q, e]
              · rw [if_neg e]
            have big : (¬ g3 (8 * a + m) < 99 ∨ ¬ g3 (8 * m + b) < 99) → ¬ g3 (8 * a + m) + g3 (8 * m + b) < g3 (8 * a + b) := by
              intro q
              rw [hx, hy, nI_99, zz_nlt (by omega) (by omega), zz_nlt (by omega) (by omega)] at q
              rw [hx, hy, hz, nI_plus, zz_nlt (by omega) (by omega)]
              omega
            refine iv_197_99 ⟨fun _ => ?_, fun q => absurd (li hb) q⟩
            simp only [e8, ei k1, ei k2, ei k3, hR _ k1, hR _ k2, hR _ k3]
            refine ⟨vi k1, vi k2, vi k1, fun c1 => ⟨vi k2, fun c2 => ⟨vi k3, fun c3 => ⟨vi k3, ih3 _ ?_ ?_⟩, fun c3 => ih3 W hP (stay c3)⟩, fun c2 => ih3 W hP (stay (big (Or.inr c2)))⟩, fun c1 => ih3 W hP (stay (big (Or.inl c1)))⟩
            · intro c hc
              rw [aa_up_c hc]
              exact hP c hc
            · intro k hk
              rw [aa_up_at, hR k hk]
              unfold qf_s
              by_cases e : k = 8 * a + b
              · rw [if_pos ⟨rfl, e⟩, if_pos e, if_pos c3]
              · rw [if_neg (fun q => e q.2), if_neg e]
    exact st _ (qf_0_b hmo hb) h
  -- the first half
  have ph1 : ab_J G (ac_ST L xs) l (d + 2) 197 25 [some (.ref 105), none, some (.int (qf_m i1)), some (.int (nI 0)), none, none, none] [] ac_SK V ac_SK K := by
    refine zz_up (fun k (W : aa_V) => ab_J G (ac_ST L xs) l (d + 2) 197 25 [some (.ref 105), none, some (.int (qf_m i1)), some (.int (nI k)), none, none, none] [] ac_SK W ac_SK K) (fun k W => (∀ c, c ≠ 107 → W c = V c) ∧ (∀ j, j < k → W 107 j = qf_0 (qf_m i1) (V 106) j)) 64 ?_ ?_ 0 V (by omega) ⟨fun _ _ => rfl, fun j q => absurd q (by omega)⟩
    · intro W hI
      exact iv_197_25 ⟨fun q => absurd q (zz_ge (n := 64) rfl), fun _ => ph2 W hI.1 hI.2⟩
    · intro k W hk hI ih
      rw [nI_succ] at ih
      have up : ∀ x, x = qf_0 (qf_m i1) (V 106) k → (∀ c, c ≠ 107 → aa_up W 107 k x c = V c) ∧ (∀ j, j < k + 1 → aa_up W 107 k x 107 j = qf_0 (qf_m i1) (V 106) j) := by
        intro x hx
        refine ⟨fun c hc => ?_, fun j hj => ?_⟩
        · rw [aa_up_c hc]
          exact hI.1 c hc
        · rw [aa_up_at]
          by_cases e : j = k
          · rw [if_pos ⟨rfl, e⟩, hx, e]
          · rw [if_neg (fun q => e q.2)]
            exact hI.2 j (by omega)
      have h9 : (nI k - nI k / 9 * 9 = 0) ↔ k % 9 = 0 := (show ∀ k, k < 64 → ((nI k - nI k / 9 * 9 = 0) ↔ k % 9 = 0) by decide +kernel) k hk
      have h6 : W 106 = V 106 := hI.1 106 (by decide)
      refine iv_197_25 ⟨fun _ => ⟨by decide, ?_⟩, fun q => absurd (zz_gl (n := 64) rfl hk (by decide)) q⟩
      simp only [h9, ei hk, h6]
      refine ⟨fun c1 => ⟨vi hk, ih _ (up _ ?_)⟩, fun c1 => ⟨vi hk, fun c2 => ⟨vi hk, ih _ (up _ ?_)⟩, fun c2 => ⟨vi hk, vi hk, ih _ (up _ ?_)⟩⟩⟩
      · rw [qf_0, if_pos c1]
      · rw [qf_0, if_neg c1, if_pos c2]
      · rw [qf_0, if_neg c1, if_neg c2]
  refine iv_197_0 ⟨by decide, fun c1 => ?_, fun c1 => ⟨fun c2 => ?_, fun c2 => ?_⟩⟩
  · rw [qf_m, if_pos c1] at ph1
    exact ph1
  · rw [qf_m, if_neg c1, if_pos c2] at ph1
    exact ph1
  · rw [qf_m, if_neg c1, if_neg c2] at ph1
    exact ph1
