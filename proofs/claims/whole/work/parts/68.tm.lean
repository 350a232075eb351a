/-! the reference reads a token -/
theorem zz_c0 {x y : Int64} : lg_cmp x y = 0 ↔ x = y := by
  unfold lg_cmp
  by_cases h1 : y < x
  · rw [if_pos h1]
    refine ⟨fun q => absurd q (by decide), fun q => ?_⟩
    rw [q] at h1
    exact absurd h1 Int64.lt_irrefl
  · rw [if_neg h1]
    by_cases h2 : x = y
    · rw [if_pos h2]
      exact ⟨fun _ => h2, fun _ => rfl⟩
    · rw [if_neg h2]
      exact ⟨fun q => absurd q (by decide), fun q => absurd q h2⟩
theorem zz_64 {x y : Int32} : x.toInt64 = y.toInt64 ↔ x = y := by
  refine ⟨fun h => ?_, fun h => by rw [h]⟩
  have := congrArg Int64.toInt h
  rw [Int32.toInt_toInt64, Int32.toInt_toInt64] at this
  exact zz_eq.mpr this
def tm_l : Nat → Int64
  | 0 => 1802071652
  | 1 => 512869299304
  | 2 => 2003133803
  | 3 => 1919250036
  | 4 => 512970876019
  | 5 => 1885432164
  | 6 => 482955846501
  | 7 => 1752132708
  | 8 => 28530
  | 9 => 6385252
  | _ => 7237492
theorem tm_ch (w k : Nat) (hw : w < 11) (hk : k < tz_n w) : ((tm_l w >>> (((8 : Int32) * ((nI (tz_n w) - 1) - nI k)).toInt64 &&& 63)) &&& (255 : Int64)) = (aa_nthI (tz_t w) k).toInt64 := (show ∀ w, w < 11 → ∀ k, k < 5 → k < tz_n w → ((tm_l w >>> (((8 : Int32) * ((nI (tz_n w) - 1) - nI k)).toInt64 &&& 63)) &&& (255 : Int64)) = (aa_nthI (tz_t w) k).toInt64 by decide +kernel) w hw k (by have := tc_n w hw; omega) hk
section
variable {G : ab_G} {L : Nat} {xs : Nat → Int32} {l : Launch}
theorem tm_216 {d f e w : Nat} {V : aa_V} {K : aa_K} (hw : w < 11) (h22 : V 105 22 = nI e) (h27 : V 105 27 = nI f) (hf : f ≤ e) (he : e ≤ 160) (h1 : tz_m (V 116) f e w → K (some (.int 1)) V) (h0 : ¬ tz_m (V 116) f e w → K (some (.int 0)) V) : ab_E G (ac_ST L xs) l (d + 1) ac_SK 216 [.ref 105, .long (tm_l w), .int (nI (tz_n w))] V K := by
  have hn := tc_n w hw
  refine iv_216_0 ⟨fun c => ?_, fun c => h0 (fun q => c ?_)⟩
  · rw [h22, h27, nI_minus hf] at c
    have c := (nI_k (by omega) (by omega)).mp c
    have key : ∀ m k, tz_n w - k ≤ m → k ≤ tz_n w → (∀ k', k' < k → V 116 (f + k') = aa_nthI (tz_t w) k') → ab_J G (ac_ST L xs) l (d + 1) 216 18 [some (.ref 105), some (.long (tm_l w)), none, some (.int (nI (tz_n w))), some (.int (nI k))] [] ac_SK V ac_SK K := by
      intro m
      induction m with
      | zero =>
        intro k hk hk2 hp
        refine iv_216_18 ⟨fun c => ?_, fun _ => h1 ⟨by omega, fun k' hk' => hp k' (by omega)⟩⟩
        rw [zz_nlt (by omega) (by omega)] at c
        omega
      | succ m ih =>
        intro k hk hk2 hp
        refine iv_216_18 ⟨fun c => ?_, fun c => h1 ⟨by omega, fun k' hk' => hp k' ?_⟩⟩
        · rw [zz_nlt (by omega) (by omega)] at c
          rw [h27, nI_plus, zz_ix (by omega), tm_ch w k hw c, zz_c0, zz_64]
          refine ⟨vp_in_nI (by omega) (by omega), fun q => ?_, fun q => h0 (fun z => q (z.2 k c))⟩
          rw [show nI k + (1 : Int32) = nI (k + 1) by rw [nI_succ]]
          refine ih (k + 1) (by omega) (by omega) (fun k' hk' => ?_)
          by_cases je : k' = k
          · rw [je]; exact q
          · exact hp k' (by omega)
        · rw [zz_nlt (by omega) (by omega)] at c
          omega
    exact key _ 0 (Nat.le_refl _) (Nat.zero_le _) (fun k' hk' => by omega)
  · rw [h22, h27, nI_minus hf, q.1]
    congr 1
    omega
/-- the reference's code of a word -/
def tm_c (w : Nat) : Int32 := if w < 6 then 2 else if w = 8 then 3 else if w = 9 then 4 else if w = 10 then 5 else if w = 6 then 6 else 7
theorem tm_218 {d f e : Nat} {V : aa_V} {K : aa_K} (h22 : V 105 22 = nI e) (h27 : V 105 27 = nI f) (hf : f ≤ e) (he : e ≤ 160) (h1 : ∀ w n, w < 11 → tz_m (V 116) f e w → (w < 6 → n = nI w) → K (some (.int (tm_c w))) (aa_up V 105 28 n)) (h0 : ∀ n, (∀ w, w < 11 → ¬ tz_m (V 116) f e w) → K (some (.int (-1))) (aa_up V 105 28 n)) : ab_E G (ac_ST L xs) l (d + 2) ac_SK 218 [.ref 105] V K := by
  have b22 : ∀ n, aa_up V 105 28 n 105 22 = nI e := fun n => by rw [aa_up_o (by decide)]; exact h22
  have b27 : ∀ n, aa_up V 105 28 n 105 27 = nI f := fun n => by rw [aa_up_o (by decide)]; exact h27
  have b116 : ∀ n, aa_up V 105 28 n 116 = V 116 := fun n => aa_up_c (by decide)
  refine iv_218_0 (tm_216 (w := 0) (by decide) h22 h27 hf he (fun q => ⟨fun z => absurd z (by decide), fun _ => h1 0 0 (by decide) q (fun _ => rfl)⟩) (fun q0 => ⟨fun _ => ?_, fun z => absurd rfl z⟩))
  refine tm_216 (w := 1) (by decide) h22 h27 hf he (fun q => ⟨fun z => absurd z (by decide), fun _ => h1 1 1 (by decide) q (fun _ => rfl)⟩) (fun q1 => ⟨fun _ => ?_, fun z => absurd rfl z⟩)
  refine tm_216 (w := 2) (by decide) h22 h27 hf he (fun q => ⟨fun z => absurd z (by decide), fun _ => h1 2 2 (by decide) q (fun _ => rfl)⟩) (fun q2 => ⟨fun _ => ?_, fun z => absurd rfl z⟩)
  refine tm_216 (w := 3) (by decide) h22 h27 hf he (fun q => ⟨fun z => absurd z (by decide), fun _ => h1 3 3 (by decide) q (fun _ => rfl)⟩) (fun q3 => ⟨fun _ => ?_, fun z => absurd rfl z⟩)
  refine tm_216 (w := 4) (by decide) h22 h27 hf he (fun q => ⟨fun z => absurd z (by decide), fun _ => h1 4 4 (by decide) q (fun _ => rfl)⟩) (fun q4 => ⟨fun _ => ?_, fun z => absurd rfl z⟩)
  refine tm_216 (w := 5) (by decide) h22 h27 hf he (fun q => ⟨fun z => absurd z (by decide), fun _ => h1 5 5 (by decide) q (fun _ => rfl)⟩) (fun q5 => ⟨fun _ => ?_, fun z => absurd rfl z⟩)
  refine tm_216 (w := 8) (by decide) (b22 _) (b27 _) hf he (fun q => ⟨fun z => absurd z (by decide), fun _ => h1 8 _ (by decide) (by rw [b116] at q; exact q) (fun z => absurd z (by decide))⟩) (fun q8 => ⟨fun _ => ?_, fun z => absurd rfl z⟩)
  refine tm_216 (w := 9) (by decide) (b22 _) (b27 _) hf he (fun q => ⟨fun z => absurd z (by decide), fun _ => h1 9 _ (by decide) (by rw [b116] at q; exact q) (fun z => absurd z (by decide))⟩) (fun q9 => ⟨fun _ => ?_, fun z => absurd rfl z⟩)
  refine tm_216 (w := 10) (by decide) (b22 _) (b27 _) hf he (fun q => ⟨fun z => absurd z (by decide), fun _ => h1 10 _ (by decide) (by rw [b116] at q; exact q) (fun z => absurd z (by decide))⟩) (fun q10 => ⟨fun _ => ?_, fun z => absurd rfl z⟩)
  refine tm_216 (w := 6) (by decide) (b22 _) (b27 _) hf he (fun q => ⟨fun z => absurd z (by decide), fun _ => h1 6 _ (by decide) (by rw [b116] at q; exact q) (fun z => absurd z (by decide))⟩) (fun q6 => ⟨fun _ => ?_, fun z => absurd rfl z⟩)
  refine tm_216 (w := 7) (by decide) (b22 _) (b27 _) hf he (fun q => ⟨fun z => absurd z (by decide), fun _ => h1 7 _ (by decide) (by rw [b116] at q; exact q) (fun z => absurd z (by decide))⟩) (fun q7 => ⟨fun _ => ?_, fun z => absurd rfl z⟩)
  rw [b116] at q6 q7 q8 q9 q10
  refine h0 _ (fun w hw => ?_)
  have : w = 0 ∨ w = 1 ∨ w = 2 ∨ w = 3 ∨ w = 4 ∨ w = 5 ∨ w = 6 ∨ w = 7 ∨ w = 8 ∨ w = 9 ∨ w = 10 := by omega
  rcases this with rfl | rfl | rfl | rfl | rfl | rfl | rfl | rfl | rfl | rfl | rfl <;> assumption
end
/-- the reference's code of a token -/
def tm_k (k : Int32) : Int32 := if k = 256 then 0 else if k = 258 then 1 else if ¬ k < 300 ∧ ¬ 305 < k then 2 else if k = 308 then 3 else if k = 309 then 4 else if k = 310 then 5 else if k = 306 then 6 else if k = 307 then 7 else if k = 40 ∨ k = 41 ∨ k = 59 ∨ k = 43 ∨ k = 45 ∨ k = 42 ∨ k = 60 ∨ k = 61 then k else -1
theorem tm_kw (w : Nat) (hw : w < 11) : tm_k (nI (300 + w)) = tm_c w := (show ∀ w, w < 11 → tm_k (nI (300 + w)) = tm_c w by decide +kernel) w hw
/-- a byte as the one holds it, and as the other does -/
theorem tm_y (n : Nat) (hn : n < 256) : (tz_b ((nI n).toInt8.toInt32) ↔ tz_b (nI n)) ∧ (tz_l ((nI n).toInt8.toInt32) ↔ tz_l (nI n)) ∧ (tz_d ((nI n).toInt8.toInt32) ↔ tz_d (nI n)) ∧ ((nI n).toInt8.toInt32 = nI n ∨ (128 ≤ n ∧ (nI n).toInt8.toInt32.toInt < 0)) ∧ (nI n).toInt8.toInt32.toInt < 128 := (show ∀ n, n < 256 → (tz_b ((nI n).toInt8.toInt32) ↔ tz_b (nI n)) ∧ (tz_l ((nI n).toInt8.toInt32) ↔ tz_l (nI n)) ∧ (tz_d ((nI n).toInt8.toInt32) ↔ tz_d (nI n)) ∧ ((nI n).toInt8.toInt32 = nI n ∨ (128 ≤ n ∧ (nI n).toInt8.toInt32.toInt < 0)) ∧ (nI n).toInt8.toInt32.toInt < 128 by decide +kernel) n hn
