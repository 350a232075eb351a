/-! what a text comes to -/
def tb (st a b : Int32) : Int32 := if st = 20002 then (if a = 0 then (if b = 0 then (0 : Int32) else (1 : Int32)) else (1 : Int32)) else if st = 20003 then (if a = 0 then (0 : Int32) else (if b = 0 then (0 : Int32) else (1 : Int32))) else if st = 20004 then (if a < b then (1 : Int32) else (0 : Int32)) else if st = 20005 then (if a = b then (1 : Int32) else (0 : Int32)) else if st = 20006 then a + b else if st = 20007 then a - b else a * b
def tn (nm : Nat → Int32) (st : Int32) : Int32 := if st - 10000 < 0 then st else if 5 < st - 10000 then st else nm (st - 10000).toNatClampNeg
def ts (nm : Nat → Int32) (st : Int32) (h : Nat) (f : Nat → Int32) : Nat → Int32 := if st < 20000 then upd f h (tn nm st) else if 20001 < st then upd f (h - 2) (tb st (f (h - 2)) (f (h - 1))) else upd f (h - 1) (if st = 20000 then (if f (h - 1) = 0 then 1 else 0) else -(f (h - 1)))
def tr (nm r f0 : Nat → Int32) : Nat → Nat → Int32
  | 0 => f0
  | k + 1 => ts nm (r k) (nv_h r k) (tr nm r f0 k)
def tv (nm r : Nat → Int32) (n : Nat) : Int32 := tr nm r (fun _ => 0) n 0
theorem nv_e_0 {st : Int32} (h : st < 20000) : nv_e st = 0 := if_pos h
theorem nv_e_2 {st : Int32} (h : ¬ st < 20000) (h2 : 20001 < st) : nv_e st = 2 := by
  unfold nv_e
  rw [if_neg h, if_pos h2]
theorem nv_e_1 {st : Int32} (h : ¬ st < 20000) (h2 : ¬ 20001 < st) : nv_e st = 1 := by
  unfold nv_e
  rw [if_neg h, if_neg h2]
theorem nv_h_s (r : Nat → Int32) (k : Nat) : nv_h r (k + 1) = nv_h r k - nv_e (r k) + 1 := rfl
theorem nv_h64 {r : Nat → Int32} {n : Nat} (h : nv_q r n) : ∀ k, k ≤ n → nv_h r k ≤ 64
  | 0, _ => Nat.zero_le _
  | k + 1, hk => by
    have := (h.1 k (by omega)).2
    rw [nv_h_s]
    omega
theorem nv_h_c {r r' : Nat → Int32} : ∀ {n : Nat}, (∀ j, j < n → r j = r' j) → nv_h r n = nv_h r' n
  | 0, _ => rfl
  | n + 1, h => by rw [nv_h_s, nv_h_s, nv_h_c (fun j hj => h j (by omega)), h n (by omega)]
theorem tn_c {nm nm' : Nat → Int32} (h : ∀ j, j < 6 → nm j = nm' j) (st : Int32) : tn nm st = tn nm' st := by
  unfold tn
  by_cases c1 : st - 10000 < 0
  · rw [if_pos c1, if_pos c1]
  · rw [if_neg c1, if_neg c1]
    by_cases c2 : 5 < st - 10000
    · rw [if_pos c2, if_pos c2]
    · rw [if_neg c2, if_neg c2]
      simp only [zz_lt, zl_0, zl_5] at c1 c2
      have : zb (st - 10000) 5 := zb_of_r (by omega) (by omega) (by decide)
      exact h _ (by have := this.2; omega)
theorem tr_c {nm nm' r r' f g : Nat → Int32} (hn : ∀ j, j < 6 → nm j = nm' j) : ∀ {n : Nat}, (∀ j, j < n → r j = r' j) → (∀ k, k < n → nv_e (r k) ≤ nv_h r k) → ∀ j, j < nv_h r n → tr nm r f n j = tr nm' r' g n j
  | 0, _, _, j, hj => by cases hj
  | n + 1, h1, h2, j, hj => by
    have ih := tr_c (f := f) (g := g) hn (n := n) (fun j hj => h1 j (by omega)) (fun k hk => h2 k (by omega))
    have e := h2 n (by omega)
    rw [nv_h_s] at hj
    show ts nm (r n) (nv_h r n) (tr nm r f n) j = ts nm' (r' n) (nv_h r' n) (tr nm' r' g n) j
    rw [← h1 n (by omega), ← nv_h_c (fun j hj => h1 j (by omega : j < n + 1) : ∀ j, j < n → r j = r' j)]
    unfold ts
    by_cases c1 : r n < 20000
    · rw [nv_e_0 c1] at hj
      rw [if_pos c1, if_pos c1, tn_c hn]
      unfold upd
      by_cases q : j = nv_h r n
      · rw [if_pos q, if_pos q]
      · rw [if_neg q, if_neg q]
        exact ih j (by omega)
    · rw [if_neg c1, if_neg c1]
      by_cases c2 : 20001 < r n
      · rw [nv_e_2 c1 c2] at hj e
        rw [if_pos c2, if_pos c2, ih (nv_h r n - 2) (by omega), ih (nv_h r n - 1) (by omega)]
        unfold upd
        by_cases q : j = nv_h r n - 2
        · rw [if_pos q, if_pos q]
        · rw [if_neg q, if_neg q]
          exact ih j (by omega)
      · rw [nv_e_1 c1 c2] at hj e
        rw [if_neg c2, if_neg c2, ih (nv_h r n - 1) (by omega)]
        unfold upd
        by_cases q : j = nv_h r n - 1
        · rw [if_pos q, if_pos q]
        · rw [if_neg q, if_neg q]
          exact ih j (by omega)
theorem tv_of {nm nm' r r' f : Nat → Int32} {n : Nat} (hn : ∀ j, j < 6 → nm j = nm' j) (hr : ∀ j, j < n → r j = r' j) (hq : nv_q r n) : tr nm r f n 0 = tv nm' r' n := tr_c hn hr (fun k hk => (hq.1 k hk).1) 0 (by rw [hq.2]; decide)
theorem sp_77 {G : ab_G} {L : Nat} {xs : Nat → Int32} {l : Launch} {d : Nat} {i0 i1 i2 : Int32} {V : aa_V} {K : aa_K} (h : K (some (.int (tb i0 i1 i2))) V) : ab_E G (ac_ST L xs) l (d + 2) ac_SK 77 [.int i0, .int i1, .int i2] V K := by
  unfold tb at h
  refine iv_77_0 ⟨fun c => ?_, fun c => ⟨fun c2 => ?_, fun c2 => ⟨fun c3 => ?_, fun c3 => ⟨fun c4 => ?_, fun c4 => ⟨fun c5 => ?_, fun c5 => ⟨fun c6 => ?_, fun c6 => ?_⟩⟩⟩⟩⟩⟩
  · rw [if_pos c] at h
    refine ⟨fun d1 => ⟨fun d2 => ?_, fun d2 => ?_⟩, fun d1 => ?_⟩
    · rw [if_pos d1, if_pos d2] at h; exact h
    · rw [if_pos d1, if_neg d2] at h; exact h
    · rw [if_neg d1] at h; exact h
  · rw [if_neg c, if_pos c2] at h
    refine ⟨fun d1 => ?_, fun d1 => ⟨fun d2 => ?_, fun d2 => ?_⟩⟩
    · rw [if_pos d1] at h; exact h
    · rw [if_neg d1, if_pos d2] at h; exact h
    · rw [if_neg d1, if_neg d2] at h; exact h
  · rw [if_neg c, if_neg c2, if_pos c3] at h
    refine ⟨fun d1 => ?_, fun d1 => ?_⟩
    · rw [if_pos d1] at h; exact h
    · rw [if_neg d1] at h; exact h
  · rw [if_neg c, if_neg c2, if_neg c3, if_pos c4] at h
    refine ⟨fun d1 => ?_, fun d1 => ?_⟩
    · rw [if_pos d1] at h; exact h
    · rw [if_neg d1] at h; exact h
  · rw [if_neg c, if_neg c2, if_neg c3, if_neg c4, if_pos c5] at h; exact h
  · rw [if_neg c, if_neg c2, if_neg c3, if_neg c4, if_neg c5, if_pos c6] at h; exact h
  · rw [if_neg c, if_neg c2, if_neg c3, if_neg c4, if_neg c5, if_neg c6] at h; exact h
theorem tx_0 {t : Nat} (h : t < 6) : aa_sh ac_SK (87 + 3 * t) = some (6, 4, [(88 + 3 * t) + 1, (89 + 3 * t) + 1, 0, 0]) := (show ∀ t, t < 6 → aa_sh ac_SK (87 + 3 * t) = some (6, 4, [(88 + 3 * t) + 1, (89 + 3 * t) + 1, 0, 0]) by decide +kernel) t h
theorem tx_1 {t : Nat} (h : t < 6) : aa_sh ac_SK (88 + 3 * t) = some (100, 160, []) := (show ∀ t, t < 6 → aa_sh ac_SK (88 + 3 * t) = some (100, 160, []) by decide +kernel) t h
theorem tx_2 {t : Nat} (h : t < 6) : aa_sh ac_SK (89 + 3 * t) = some (100, 64, []) := (show ∀ t, t < 6 → aa_sh ac_SK (89 + 3 * t) = some (100, 64, []) by decide +kernel) t h
theorem tx_n {t : Nat} (h : t < 6) : aa_nth [88, 91, 94, 97, 100, 103] t = (87 + 3 * t) + 1 := (show ∀ t, t < 6 → aa_nth [88, 91, 94, 97, 100, 103] t = (87 + 3 * t) + 1 by decide +kernel) t h
theorem nI_minus {h j : Nat} (hj : j ≤ h) : nI h - nI j = nI (h - j) := by
  have : nI h = nI (h - j) + nI j := by
    rw [nI_plus]
    congr 1
    omega
  rw [this, Int32.add_sub_cancel]
theorem nI_n0 {h : Nat} (hh : h < 2 ^ 31) : ¬ nI h < 0 := by
  rw [zz_lt, nI_toInt hh, zl_0]
  omega
theorem nI_nl {h j : Nat} (hj : j ≤ h) (hh : h < 2 ^ 31) : ¬ nI h < nI j := fun q => by
  have := (zz_nlt hh (by omega)).mp q
  omega
set_option maxRecDepth 20000 in
theorem sp_74 {G : ab_G} {L : Nat} {xs : Nat → Int32} {l : Launch} {d b n t : Nat} {W : aa_V} {K : aa_K} (ht : t < 6) (hbn : b + n ≤ 160) (hq : nv_q (fun j => W (88 + 3 * t) (b + j)) n) (h : ∀ X, (∀ c, c ≠ 89 + 3 * t → X c = W c) → K (some (.int (tr (W 86) (fun j => W (88 + 3 * t) (b + j)) (W (89 + 3 * t)) n 0))) X) :
    ab_E G (ac_ST L xs) l (d + 3) ac_SK 74 [.ref (87 + 3 * t), .int (nI b), .int (nI (b + n)), .ref 86] W K := by
  obtain ⟨r, hr⟩ : ∃ r, r = fun j => W (88 + 3 * t) (b + j) := ⟨_, rfl⟩
  rw [← hr] at hq h
  refine iv_74_0 ?_
  refine zz_up (σ := aa_V) (fun k X => ab_J G (ac_ST L xs) l (d + 3) 74 6 [some (.ref (87 + 3 * t)), none, some (.int (nI (b + n))), some (.ref 86), some (.int (nI (nv_h r k))), some (.int (nI (b + k))), none, none] [] ac_SK X ac_SK K) (fun k X => (∀ c, c ≠ 89 + 3 * t → X c = W c) ∧ X (89 + 3 * t) = tr (W 86) r (W (89 + 3 * t)) k) n ?_ ?_ 0 W (Nat.zero_le _) ⟨fun _ _ => rfl, rfl⟩
  · intro X hX
    obtain ⟨h1, h2⟩ := hX
    refine iv_74_6 ⟨fun c => absurd c (nI_nl (Nat.le_refl _) (by omega)), fun _ => ⟨4, _, 89 + 3 * t, tx_0 ht, rfl, 64, [], tx_2 ht, (show vp_in (nI 0) 64 from vp_in_nI (by decide) (by decide)), ?_⟩⟩
    have := h X h1
    rw [← h2] at this
    exact this
  · intro k X hk hX ih
    obtain ⟨h1, h2⟩ := hX
    have e : (nI (b + k)).toNatClampNeg = b + k := zz_ix (by omega)
    have er : X (88 + 3 * t) (nI (b + k)).toNatClampNeg = r k := by rw [e, h1 _ (by omega), hr]
    obtain ⟨q1, q2⟩ := hq.1 k hk
    have hh := nv_h64 hq k (by omega)
    have ih' : ∀ (x : Int32) (j : Nat) (y : Int32), ts (W 86) (r k) (nv_h r k) (X (89 + 3 * t)) = upd (X (89 + 3 * t)) j x → y = nI (nv_h r (k + 1)) → ab_J G (ac_ST L xs) l (d + 3) 74 6 [some (.ref (87 + 3 * t)), none, some (.int (nI (b + n))), some (.ref 86), some (.int y), some (.int (nI (b + k) + 1)), none, none] [] ac_SK (aa_up X (89 + 3 * t) j x) ac_SK K := by
      intro x j y hx hy
      have := ih (aa_up X (89 + 3 * t) j x) ⟨fun c hc => (aa_up_c hc).trans (h1 c hc), by
        show aa_up X (89 + 3 * t) j x (89 + 3 * t) = ts (W 86) (r k) (nv_h r k) (tr (W 86) r (W (89 + 3 * t)) k)
        rw [← h2, hx]
        exact if_pos rfl⟩
      rw [← Nat.add_assoc, nI_succ, ← hy] at this
      exact this
    refine iv_74_6 ⟨fun _ => ?_, fun q => absurd ((zz_nlt (by omega) (by omega)).mpr (by omega)) q⟩
    refine ⟨4, _, 88 + 3 * t, tx_0 ht, rfl, 160, [], tx_1 ht, vp_in_nI (by omega) (by decide), ?_⟩
    rw [er]
    have w86 : X 86 = W 86 := h1 86 (by omega)
    refine ⟨fun c1 => ⟨fun c => absurd c (nI_n0 (by omega)), fun _ => ?_⟩, fun c1 => ⟨fun c2 => ⟨fun c => ?_, fun _ => ?_⟩, fun c2 => ⟨fun c => ?_, fun _ => ?_⟩⟩⟩
    · have e0 := nv_e_0 c1
      rw [e0] at q2
      have eh : nI (nv_h r k) - 0 + 1 = nI (nv_h r (k + 1)) := by rw [nv_h_s, e0, nI_succ, Int32.sub_zero, Nat.sub_zero]
      have ej : (nI (nv_h r k) - 0).toNatClampNeg = nv_h r k := by rw [Int32.sub_zero]; exact zz_ix (by omega)
      have vj : vp_in (nI (nv_h r k) - 0) 64 := by rw [Int32.sub_zero]; exact vp_in_nI (by omega) (by decide)
      refine ⟨4, _, 89 + 3 * t, tx_0 ht, rfl, 100, 64, [], tx_2 ht, by decide, fun _ => ⟨4, _, 89 + 3 * t, tx_0 ht, rfl, fun c3 => ⟨64, [], tx_2 ht, vj, ?_⟩, fun c3 => ⟨fun c4 => ⟨64, [], tx_2 ht, vj, ?_⟩, fun c4 => ⟨?_, 64, [], tx_2 ht, vj, ?_⟩⟩⟩, fun c3 => absurd ?_ c3⟩
      · rw [ej]
        refine ih' _ _ _ ?_ eh
        unfold ts tn
        rw [if_pos c1, if_pos c3]
      · rw [ej]
        refine ih' _ _ _ ?_ eh
        unfold ts tn
        rw [if_pos c1, if_neg c3, if_pos (show (5 : Int32) < r k - 10000 from c4)]
      · have c5 : ¬ (5 : Int32) < r k - 10000 := c4
        simp only [zz_lt, zl_0, zl_5] at c3 c5
        exact vp_of_r (by omega) (by omega)
      · rw [ej, w86]
        refine ih' _ _ _ ?_ eh
        unfold ts tn
        rw [if_pos c1, if_neg c3, if_neg (show ¬ (5 : Int32) < r k - 10000 from c4)]
      · rw [Int32.sub_zero]
        exact (zz_nlt (by omega) (by omega)).mpr (by omega)
    · have e2 := nv_e_2 c1 c2
      rw [e2] at q1
      exact absurd c (show ¬ nI (nv_h r k) < nI 2 from nI_nl q1 (by omega))
    · have e2 := nv_e_2 c1 c2
      rw [e2] at q1 q2
      have e2' : nI (nv_h r k) - 2 = nI (nv_h r k - 2) := nI_minus q1
      have eh : nI (nv_h r k - 2) + 1 = nI (nv_h r (k + 1)) := by rw [nv_h_s, e2, nI_succ]
      have ej : (nI (nv_h r k - 2)).toNatClampNeg = nv_h r k - 2 := zz_ix (by omega)
      have ej1 : (nI (nv_h r k - 2) + 1).toNatClampNeg = nv_h r k - 1 := by
        rw [← nI_succ, zz_ix (by omega)]
        omega
      have vj : vp_in (nI (nv_h r k - 2)) 64 := vp_in_nI (by omega) (by decide)
      have vj1 : vp_in (nI (nv_h r k - 2) + 1) 64 := by
        rw [← nI_succ]
        exact vp_in_nI (by omega) (by decide)
      rw [e2']
      refine ⟨4, _, 89 + 3 * t, tx_0 ht, rfl, 100, 64, [], tx_2 ht, by decide, fun _ => ⟨4, _, 89 + 3 * t, tx_0 ht, rfl, 4, _, 89 + 3 * t, tx_0 ht, rfl, 64, [], tx_2 ht, vj, 4, _, 89 + 3 * t, tx_0 ht, rfl, 64, [], tx_2 ht, vj1, ?_⟩, fun c3 => absurd ((zz_nlt (by omega) (by omega)).mpr (by omega)) c3⟩
      refine sp_77 ?_
      dsimp only [aa_rI]
      refine ⟨64, [], tx_2 ht, vj, ?_⟩
      rw [ej, ej1]
      refine ih' _ _ _ ?_ eh
      unfold ts
      rw [if_neg c1, if_pos c2]
    · have e2 := nv_e_1 c1 c2
      rw [e2] at q1
      exact absurd c (show ¬ nI (nv_h r k) < nI 1 from nI_nl q1 (by omega))
    · have e2 := nv_e_1 c1 c2
      rw [e2] at q1 q2
      have e2' : nI (nv_h r k) - 1 = nI (nv_h r k - 1) := nI_minus q1
      have eh : nI (nv_h r k - 1) + 1 = nI (nv_h r (k + 1)) := by rw [nv_h_s, e2, nI_succ]
      have ej : (nI (nv_h r k - 1)).toNatClampNeg = nv_h r k - 1 := zz_ix (by omega)
      have vj : vp_in (nI (nv_h r k - 1)) 64 := vp_in_nI (by omega) (by decide)
      rw [e2']
      refine ⟨4, _, 89 + 3 * t, tx_0 ht, rfl, 100, 64, [], tx_2 ht, by decide, fun _ => ⟨4, _, 89 + 3 * t, tx_0 ht, rfl, 4, _, 89 + 3 * t, tx_0 ht, rfl, 64, [], tx_2 ht, vj, ?_⟩, fun c3 => absurd ((zz_nlt (by omega) (by omega)).mpr (by omega)) c3⟩
      rw [ej]
      refine ⟨fun c3 => ⟨fun c4 => ⟨64, [], tx_2 ht, vj, ?_⟩, fun c4 => ⟨64, [], tx_2 ht, vj, ?_⟩⟩, fun c3 => ⟨64, [], tx_2 ht, vj, ?_⟩⟩
      · refine ih' _ _ _ ?_ eh
        unfold ts
        rw [if_neg c1, if_neg c2, if_pos c3, if_pos c4]
      · refine ih' _ _ _ ?_ eh
        unfold ts
        rw [if_neg c1, if_neg c2, if_pos c3, if_neg c4]
      · refine ih' _ _ _ ?_ eh
        unfold ts
        rw [if_neg c1, if_neg c2, if_neg c3]
-- the reference
theorem tc_2 {how num st : Int32} (h : nv_c how num st) (c : how < 2) : st < 20000 ∧ ((how = 0 → ∀ nm, tn nm st = num) ∧ (¬ how = 0 → zb num 5 ∧ ∀ nm, tn nm st = nm num.toNatClampNeg)) := by
  rcases h with ⟨h1, h2, h3⟩ | ⟨h1, h2, h3⟩ | ⟨h1, h2⟩ | ⟨h1, h2⟩ | ⟨h1, h2⟩ | ⟨h1, h2⟩ | ⟨h1, h2⟩ | ⟨h1, h2⟩ | ⟨h1, h2⟩ | ⟨h1, h2⟩ | ⟨h1, h2⟩
  · have r := zb_r h2 (by decide)
    rw [h3]
    refine ⟨by rw [zz_lt, show (20000 : Int32).toInt = 20000 by decide]; omega, fun _ nm => ?_, fun q => absurd h1 q⟩
    unfold tn
    rw [if_pos]
    rw [zz_lt, zl_0, Int32.toInt_sub, show (10000 : Int32).toInt = 10000 by decide, Int.bmod_eq_of_le] <;> omega
  · have r := zb_r h2 (by decide)
    obtain ⟨k, hk, hk2⟩ := zb_i h2
    have e : st - 10000 = num := by rw [h3, Int32.add_comm, Int32.add_sub_cancel]
    refine ⟨?_, fun q => absurd (h1.symm.trans q) (by decide), fun _ => ⟨h2, fun nm => ?_⟩⟩
    · rw [h3, zz_lt, Int32.toInt_add, show (20000 : Int32).toInt = 20000 by decide, show (10000 : Int32).toInt = 10000 by decide, Int.bmod_eq_of_le] <;> omega
    · unfold tn
      rw [e, if_neg (by rw [zz_lt, zl_0]; omega), if_neg (by rw [zz_lt, zl_5]; omega)]
  all_goals exact absurd c (by rw [h1]; decide)
theorem tc_4 {how num st : Int32} (h : nv_c how num st) (c : ¬ how < 2) (c2 : how = 4) : st = 20000 := by
  rcases h with ⟨h1, h2, h3⟩ | ⟨h1, h2, h3⟩ | ⟨h1, h2⟩ | ⟨h1, h2⟩ | ⟨h1, h2⟩ | ⟨h1, h2⟩ | ⟨h1, h2⟩ | ⟨h1, h2⟩ | ⟨h1, h2⟩ | ⟨h1, h2⟩ | ⟨h1, h2⟩
  all_goals first | exact h2 | exact absurd (h1.symm.trans c2) (by decide)
theorem tc_10 {how num st : Int32} (h : nv_c how num st) (c : ¬ how < 2) (c2 : how = 10) : st = 20001 := by
  rcases h with ⟨h1, h2, h3⟩ | ⟨h1, h2, h3⟩ | ⟨h1, h2⟩ | ⟨h1, h2⟩ | ⟨h1, h2⟩ | ⟨h1, h2⟩ | ⟨h1, h2⟩ | ⟨h1, h2⟩ | ⟨h1, h2⟩ | ⟨h1, h2⟩ | ⟨h1, h2⟩
  all_goals first | exact h2 | exact absurd (h1.symm.trans c2) (by decide)
theorem tc_b {how num st : Int32} (h : nv_c how num st) (c : ¬ how < 2) (c2 : ¬ how = 4) (c3 : ¬ how = 10) : ¬ st < 20000 ∧ 20001 < st ∧ ∀ a b V, va_226 how a b V = tb st a b := by
  rcases h with ⟨h1, h2, h3⟩ | ⟨h1, h2, h3⟩ | ⟨h1, h2⟩ | ⟨h1, h2⟩ | ⟨h1, h2⟩ | ⟨h1, h2⟩ | ⟨h1, h2⟩ | ⟨h1, h2⟩ | ⟨h1, h2⟩ | ⟨h1, h2⟩ | ⟨h1, h2⟩
  · exact absurd (show how < 2 by rw [h1]; decide) c
  · exact absurd (show how < 2 by rw [h1]; decide) c
  · exact absurd h1 c2
  · exact absurd h1 c3
  all_goals
    rw [h1, h2]
    exact ⟨by decide, by decide, fun a b V => rfl⟩
set_option maxRecDepth 20000 in
theorem sp_225w {G : ab_G} {L : Nat} {xs : Nat → Int32} {l : Launch} {d b n : Nat} {i1 : Int32} {r : Nat → Int32} {W : aa_V} {K : aa_K} (hbn : b + n ≤ 2000) (hv : vp_in (((2 : Int32) * (W 105 21)) + i1) 12) (he : W 120 ((((2 : Int32) * (W 105 21)) + i1)).toNatClampNeg = nI (b + n)) (hc : ∀ j, j < n → nv_c (W 117 (b + j)) (W 118 (b + j)) (r j)) (hq : nv_q r n) (h : ∀ X, (∀ c, c ≠ 123 → X c = W c) → K (some (.int (tr (W 122) r (W 123) n 0))) X) :
    ab_J G (ac_ST L xs) l (d + 2) 225 29 [some (.ref 105), some (.int i1), some (.int (0 : Int32)), some (.int (nI b))] [] ac_SK W ac_SK K := by
  refine zz_up (σ := aa_V) (fun k X => ab_J G (ac_ST L xs) l (d + 2) 225 29 [some (.ref 105), some (.int i1), some (.int (nI (nv_h r k))), some (.int (nI (b + k)))] [] ac_SK X ac_SK K) (fun k X => (∀ c, c ≠ 123 → X c = W c) ∧ X 123 = tr (W 122) r (W 123) k) n ?_ ?_ 0 W (Nat.zero_le _) ⟨fun _ _ => rfl, rfl⟩
  · intro X hX
    obtain ⟨h1, h2⟩ := hX
    have e105 : X 105 21 = W 105 21 := by rw [h1 105 (by decide)]
    refine iv_225_29 ?_
    rw [e105, h1 120 (by decide), he]
    refine ⟨hv, fun c => absurd c (nI_nl (Nat.le_refl _) (by omega)), fun _ => ⟨(show vp_in (nI 0) 200 from vp_in_nI (by decide) (by decide)), ?_⟩⟩
    have := h X h1
    rw [← h2] at this
    exact this
  · intro k X hk hX ih
    obtain ⟨h1, h2⟩ := hX
    have e105 : X 105 21 = W 105 21 := by rw [h1 105 (by decide)]
    have e : (nI (b + k)).toNatClampNeg = b + k := zz_ix (by omega)
    obtain ⟨q1, q2⟩ := hq.1 k hk
    have hcc := hc k hk
    have hh := nv_h64 hq k (by omega)
    have ih' : ∀ (x : Int32) (j : Nat) (y : Int32), ts (W 122) (r k) (nv_h r k) (X 123) = upd (X 123) j x → y = nI (nv_h r (k + 1)) → ab_J G (ac_ST L xs) l (d + 2) 225 29 [some (.ref 105), some (.int i1), some (.int y), some (.int (nI (b + k) + 1))] [] ac_SK (aa_up X 123 j x) ac_SK K := by
      intro x j y hx hy
      have := ih (aa_up X 123 j x) ⟨fun c hc => (aa_up_c hc).trans (h1 c hc), by
        show aa_up X 123 j x 123 = ts (W 122) (r k) (nv_h r k) (tr (W 122) r (W 123) k)
        rw [← h2, hx]
        exact if_pos rfl⟩
      rw [← Nat.add_assoc, nI_succ, ← hy] at this
      exact this
    have vk : vp_in (nI (b + k)) 2000 := vp_in_nI (by omega) (by decide)
    refine iv_225_29 ?_
    rw [e105, h1 120 (by decide), he, e, h1 117 (by decide), h1 118 (by decide), h1 122 (by decide)]
    refine ⟨hv, fun _ => ⟨vk, fun c1 => ⟨vk, fun c2 => ⟨vk, ?_, ?_⟩, fun c2 => ⟨vk, ?_, ?_, ?_⟩⟩, fun c1 => ⟨vk, fun c2 => ⟨vk, fun c3 => ?_, fun c3 => ?_⟩, fun c2 => ⟨vk, fun c3 => ⟨vk, fun _ => ?_, fun c4 => absurd c3 c4⟩, fun c3 => ⟨vk, ?_⟩⟩⟩⟩, fun q => absurd ((zz_nlt (by omega) (by omega)).mpr (by omega)) q⟩
    · have t := tc_2 hcc c1
      have e0 := nv_e_0 t.1
      rw [e0] at q2
      exact vp_in_nI (by omega) (by decide)
    · have t := tc_2 hcc c1
      have e0 := nv_e_0 t.1
      rw [e0] at q2
      rw [zz_ix (by omega)]
      refine ih' _ _ _ ?_ ?_
      · unfold ts
        rw [if_pos t.1, t.2.1 c2]
      · rw [nv_h_s, e0, nI_succ, Nat.sub_zero]
    · have t := tc_2 hcc c1
      exact vpz (t.2.2 c2).1 (by decide) (by decide)
    · have t := tc_2 hcc c1
      have e0 := nv_e_0 t.1
      rw [e0] at q2
      exact vp_in_nI (by omega) (by decide)
    · have t := tc_2 hcc c1
      have e0 := nv_e_0 t.1
      rw [e0] at q2
      rw [zz_ix (n := nv_h r k) (by omega)]
      refine ih' _ _ _ ?_ ?_
      · unfold ts
        rw [if_pos t.1, (t.2.2 c2).2]
      · rw [nv_h_s, e0, nI_succ, Nat.sub_zero]
    · exact absurd (c2.symm.trans c3) (by decide)
    · have t := tc_4 hcc c1 c2
      have d1 : ¬ r k < 20000 := by rw [t]; decide
      have d2 : ¬ 20001 < r k := by rw [t]; decide
      have e2 := nv_e_1 d1 d2
      rw [e2] at q1 q2
      have e2' : nI (nv_h r k) - 1 = nI (nv_h r k - 1) := nI_minus q1
      have eh : nI (nv_h r k) = nI (nv_h r (k + 1)) := by
        rw [nv_h_s, e2]
        congr 1
        omega
      have ej : (nI (nv_h r k - 1)).toNatClampNeg = nv_h r k - 1 := zz_ix (by omega)
      have vj : vp_in (nI (nv_h r k - 1)) 200 := vp_in_nI (by omega) (by decide)
      rw [e2', ej]
      refine ⟨vj, fun c4 => ⟨vj, ih' _ _ _ ?_ eh⟩, fun c4 => ⟨vj, ih' _ _ _ ?_ eh⟩⟩
      · unfold ts
        rw [if_neg d1, if_neg d2, if_pos t, if_pos c4]
      · unfold ts
        rw [if_neg d1, if_neg d2, if_pos t, if_neg c4]
    · have t := tc_10 hcc c1 c3
      have d1 : ¬ r k < 20000 := by rw [t]; decide
      have d2 : ¬ 20001 < r k := by rw [t]; decide
      have e2 := nv_e_1 d1 d2
      rw [e2] at q1 q2
      have e2' : nI (nv_h r k) - 1 = nI (nv_h r k - 1) := nI_minus q1
      have eh : nI (nv_h r k) = nI (nv_h r (k + 1)) := by
        rw [nv_h_s, e2]
        congr 1
        omega
      have ej : (nI (nv_h r k - 1)).toNatClampNeg = nv_h r k - 1 := zz_ix (by omega)
      have vj : vp_in (nI (nv_h r k - 1)) 200 := vp_in_nI (by omega) (by decide)
      rw [e2', ej]
      refine ⟨vj, vj, ih' _ _ _ ?_ eh⟩
      unfold ts
      rw [if_neg d1, if_neg d2, if_neg (by rw [t]; decide)]
    · obtain ⟨d1, d2, d3⟩ := tc_b hcc c1 c2 c3
      have e2 := nv_e_2 d1 d2
      rw [e2] at q1 q2
      have e1' : nI (nv_h r k) + -1 = nI (nv_h r k - 1) := by
        rw [← nI_minus (show 1 ≤ nv_h r k by omega)]
        exact (Int32.sub_eq_add_neg _ _).symm
      have e2' : nI (nv_h r k - 1) - 1 = nI (nv_h r k - 2) := by
        rw [show nv_h r k - 2 = nv_h r k - 1 - 1 by omega]
        exact nI_minus (show 1 ≤ nv_h r k - 1 by omega)
      have eh : nI (nv_h r k - 1) = nI (nv_h r (k + 1)) := by
        rw [nv_h_s, e2]
        congr 1
        omega
      have ej : (nI (nv_h r k - 2)).toNatClampNeg = nv_h r k - 2 := zz_ix (by omega)
      have ej1 : (nI (nv_h r k - 1)).toNatClampNeg = nv_h r k - 1 := zz_ix (by omega)
      have vj : vp_in (nI (nv_h r k - 2)) 200 := vp_in_nI (by omega) (by decide)
      have vj1 : vp_in (nI (nv_h r k - 1)) 200 := vp_in_nI (by omega) (by decide)
      rw [e1', e2', ej, ej1]
      refine ⟨vj, vj1, ?_⟩
      refine sp_226 ?_
      dsimp only [aa_rI]
      refine ⟨vj, ih' _ _ _ ?_ eh⟩
      unfold ts
      rw [if_neg d1, if_pos d2, d3]
