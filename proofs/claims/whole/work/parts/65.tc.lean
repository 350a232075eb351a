/-! the class cuts its tape into tokens -/
theorem tc_31 {G : ab_G} {L : Nat} {xs : Nat → Int32} {l : Launch} {d : Nat} {i0 : Int32} {V : aa_V} {K : aa_K} (h : K (some (.int (tz_o i0))) V) : ab_E G (ac_ST L xs) l (d + 2) ac_SK 31 [.int i0] V K := by
  by_cases c0 : tz_b i0
  · rw [tz_o0.mpr c0] at h
    refine iv_31_0 ⟨fun _ => h, fun c => ⟨fun _ => h, fun c' => ?_⟩⟩
    rcases c0 with q | q
    · exact absurd q c
    · exact absurd q c'
  refine iv_31_0 ⟨fun c => absurd (Or.inl c) c0, fun _ => ⟨fun c => absurd (Or.inr c) c0, fun _ => ?_⟩⟩
  by_cases c1 : tz_l i0
  · rw [tz_o1.mpr c1] at h
    exact ⟨fun c => absurd c c1.1, fun _ => ⟨fun c => absurd c c1.2, fun _ => h⟩⟩
  by_cases c2 : tz_d i0
  · rw [tz_o2.mpr c2] at h
    exact ⟨fun _ => ⟨fun c => absurd c c2.1, fun _ => ⟨fun c => absurd c c2.2, fun _ => h⟩⟩, fun a => ⟨fun _ => ⟨fun c => absurd c c2.1, fun _ => ⟨fun c => absurd c c2.2, fun _ => h⟩⟩, fun b => absurd ⟨a, b⟩ c1⟩⟩
  · rw [tz_o3 c0 c1 c2] at h
    exact ⟨fun _ => ⟨fun _ => h, fun a => ⟨fun _ => h, fun b => absurd ⟨a, b⟩ c2⟩⟩, fun a => ⟨fun _ => ⟨fun _ => h, fun a => ⟨fun _ => h, fun b => absurd ⟨a, b⟩ c2⟩⟩, fun b => absurd ⟨a, b⟩ c1⟩⟩
section
variable {G : ab_G} {L : Nat} {xs : Nat → Int32} {l : Launch}
theorem tc_30 {d p s : Nat} {o : Int32} {V : aa_V} {K : aa_K} (hs : V 80 1 = nI s) (hs0 : s ≤ 160) (hp : p ≤ s) (h : ∀ e, p ≤ e → e ≤ s → (o = 3 → e ≤ p + 1) → (∀ j, p ≤ j → j < e → tz_o (V 81 j) = o) → (e < s → ¬ (o = 3 ∧ e = p + 1) → tz_o (V 81 e) ≠ o) → K (some (.int (nI e))) V) : ab_E G (ac_ST L xs) l (d + 3) ac_SK 30 [.ref 80, .int (nI p), .int o] V K := by
  have loop : ∀ m : Nat, p ≤ m → m ≤ s → (o = 3 → m ≤ p + 1) → (∀ e, p ≤ e → e ≤ m → (∀ j, p ≤ j → j < e → tz_o (V 81 j) = o) → (e < m → tz_o (V 81 e) ≠ o) → K (some (.int (nI e))) V) → ab_J G (ac_ST L xs) l (d + 3) 30 26 [some (.ref 80), none, some (.int o), some (.int (nI m)), some (.int (nI p))] [] ac_SK V ac_SK K := by
    intro m hm hms _ hK
    have key : ∀ k e, m - e ≤ k → p ≤ e → e ≤ m → (∀ j, p ≤ j → j < e → tz_o (V 81 j) = o) → ab_J G (ac_ST L xs) l (d + 3) 30 26 [some (.ref 80), none, some (.int o), some (.int (nI m)), some (.int (nI e))] [] ac_SK V ac_SK K := by
      intro k
      induction k with
      | zero =>
        intro e hk h1 h2 h3
        refine iv_30_26 ⟨fun c => ?_, fun _ => hK e h1 h2 h3 (fun q => by omega)⟩
        rw [zz_nlt (by omega) (by omega)] at c
        omega
      | succ k ih =>
        intro e hk h1 h2 h3
        refine iv_30_26 ⟨fun c => ?_, fun c => hK e h1 h2 h3 (fun q => absurd ((zz_nlt (by omega) (by omega)).mpr q) c)⟩
        rw [zz_nlt (by omega) (by omega)] at c
        refine ⟨vp_in_nI (by omega) (by omega), ?_⟩
        rw [zz_ix (by omega)]
        refine tc_31 ⟨fun q => ?_, fun q => hK e h1 h2 h3 (fun _ => q)⟩
        rw [show nI e + (1 : Int32) = nI (e + 1) by rw [nI_succ]]
        refine ih (e + 1) (by omega) (by omega) (by omega) (fun j j1 j2 => ?_)
        by_cases je : j = e
        · rw [je]; exact q
        · exact h3 j j1 (by omega)
    exact key (m - p) p (Nat.le_refl _) (Nat.le_refl _) hm (fun j j1 j2 => by omega)
  refine iv_30_0 ⟨fun c => ?_, fun c => ?_⟩
  · rw [hs, show nI p + (1 : Int32) = nI (p + 1) by rw [nI_succ]]
    by_cases q : s < p + 1
    · rw [if_pos ((zz_nlt (by omega) (by omega)).mpr q)]
      exact loop s hp (Nat.le_refl _) (fun _ => by omega) (fun e h1 h2 h3 h4 => h e h1 h2 (fun _ => by omega) h3 (fun a _ => h4 a))
    · rw [if_neg (fun a => q ((zz_nlt (by omega) (by omega)).mp a))]
      exact loop (p + 1) (by omega) (by omega) (fun _ => Nat.le_refl _) (fun e h1 h2 h3 h4 => h e h1 (by omega) (fun _ => h2) h3 (fun _ b => h4 (by
        rcases Nat.lt_or_ge e (p + 1) with z | z
        · exact z
        · exact absurd ⟨c, by omega⟩ b)))
  · rw [hs]
    exact loop s hp (Nat.le_refl _) (fun q => absurd q c) (fun e h1 h2 h3 h4 => h e h1 h2 (fun q => absurd q c) h3 (fun a _ => h4 a))
theorem tc_33 {d f e : Nat} {V : aa_V} {K : aa_K} (hf : f ≤ e) (he : e ≤ 160) (h : K (some (.int (tz_v (V 81) f (e - f)))) V) : ab_E G (ac_ST L xs) l (d + 1) ac_SK 33 [.ref 80, .int (nI f), .int (nI e)] V K := by
  refine iv_33_0 ?_
  have := zz_up (σ := Unit) (fun i _ => ab_J G (ac_ST L xs) l (d + 1) 33 5 [some (.ref 80), none, some (.int (nI e)), some (.int (tz_v (V 81) f i)), some (.int (nI (f + i)))] [] ac_SK V ac_SK K) (fun _ _ => True) (e - f) ?_ ?_ 0 () (Nat.zero_le _) trivial
  · exact this
  · intro _ _
    refine iv_33_5 ⟨fun c => ?_, fun _ => h⟩
    rw [zz_nlt (by omega) (by omega)] at c
    omega
  · intro i _ hi _ ih
    refine iv_33_5 ⟨fun _ => ⟨vp_in_nI (by omega) (by omega), ?_⟩, fun c => absurd ((zz_nlt (by omega) (by omega)).mpr (by omega)) c⟩
    rw [zz_ix (by omega), show nI (f + i) + (1 : Int32) = nI (f + (i + 1)) by rw [← Nat.add_assoc, nI_succ]]
    exact ih () trivial
theorem tc_st (w : Nat) (hw : w < 11) : ac_ST L xs (100 + (w + 1)) = (101, tz_n w, aa_nthI (tz_t w)) := by
  have : w = 0 ∨ w = 1 ∨ w = 2 ∨ w = 3 ∨ w = 4 ∨ w = 5 ∨ w = 6 ∨ w = 7 ∨ w = 8 ∨ w = 9 ∨ w = 10 := by omega
  rcases this with rfl | rfl | rfl | rfl | rfl | rfl | rfl | rfl | rfl | rfl | rfl <;> rfl
theorem tc_n (w : Nat) (hw : w < 11) : tz_n w ≤ 5 := (show ∀ w, w < 11 → tz_n w ≤ 5 by decide +kernel) w hw
theorem tc_ch (w k : Nat) (hw : w < 11) (hk : k < tz_n w) : (((aa_nthI (tz_t w) k) &&& (255 : Int32)).toUInt32 % 65536).toInt32 = aa_nthI (tz_t w) k := (show ∀ w, w < 11 → ∀ k, k < 5 → k < tz_n w → (((aa_nthI (tz_t w) k) &&& (255 : Int32)).toUInt32 % 65536).toInt32 = aa_nthI (tz_t w) k by decide +kernel) w hw k (by have := tc_n w hw; omega) hk
theorem tc_c2 (w k : Nat) (hw : w < 11) (hk : k < tz_n w) : ((aa_nthI (tz_t w) k).toUInt32 % 65536).toInt32 = aa_nthI (tz_t w) k := (show ∀ w, w < 11 → ∀ k, k < 5 → k < tz_n w → ((aa_nthI (tz_t w) k).toUInt32 % 65536).toInt32 = aa_nthI (tz_t w) k by decide +kernel) w hw k (by have := tc_n w hw; omega) hk
theorem tc_nc (x : Int32) (h : (x.toUInt32 % 65536).toInt32 = x) : narrow .char (.int x) = .int x := congrArg Value.int h
theorem tc_289 {d w : Nat} {V : aa_V} {K : aa_K} (hw : w < 11) (h : K (some (.int (nI (tz_n w)))) V) : ab_E G (ac_ST L xs) l (d + 2) ac_SK 289 [.ref (2000000 + (w + 1))] V K := by
  refine iv_289_0 ⟨by omega, by omega, w + 1, by omega, by omega, by omega, by omega, ?_⟩
  refine vc_291_0 ⟨fun c => absurd c (by decide), fun _ => ⟨by omega, by omega, rfl, ?_⟩⟩
  show K (some (.int ((nI (ac_ST L xs (100 + (w + 1))).2.1) >>> ((0 : Int32) &&& 31)))) V
  rw [tc_st w hw]
  have e : (nI (tz_n w)) >>> ((0 : Int32) &&& 31) = nI (tz_n w) := (show ∀ w, w < 11 → (nI (tz_n w)) >>> ((0 : Int32) &&& 31) = nI (tz_n w) by decide +kernel) w hw
  show K (some (.int ((nI (tz_n w)) >>> ((0 : Int32) &&& 31)))) V
  rw [e]
  exact h
theorem tc_290 {d w k : Nat} {V : aa_V} {K : aa_K} (hw : w < 11) (hk : k < tz_n w) (h : K (some (.int (aa_nthI (tz_t w) k))) V) : ab_E G (ac_ST L xs) l (d + 4) ac_SK 290 [.ref (2000000 + (w + 1)), .int (nI k)] V K := by
  have hn := tc_n w hw
  have ec := tc_ch w k hw hk
  have en := tc_nc _ (tc_c2 w k hw hk)
  refine vc_290_0 ⟨by omega, by omega, vc_292_0 ⟨fun c => absurd c (by decide), fun _ => ⟨by omega, by omega, fun _ => ⟨Or.inr rfl, ?_⟩, fun c => absurd rfl c⟩⟩⟩
  refine ⟨fun c => absurd c (by decide), fun _ => ⟨by omega, by omega, ?_⟩⟩
  rw [show 2000000 + (w + 1) - 999900 = 1000000 + (100 + (w + 1)) by omega]
  refine iv_294_0 ⟨w + 1, rfl, by omega, fun c => absurd c (nI_n0 (by omega)), fun _ => ⟨fun _ => ⟨w + 1, rfl, by omega, ?_, ?_, ?_⟩, fun c => absurd ?_ c⟩⟩
  · rw [tc_st w hw]
    exact (vp_in_nI hk (by omega) : vp_in (nI k) (tz_n w))
  · rw [tc_st w hw, zz_ix (by omega)]
    show narrow .char (.int ((((aa_nthI (tz_t w) k) &&& (255 : Int32)).toUInt32 % 65536).toInt32)) = .int ((((aa_nthI (tz_t w) k) &&& (255 : Int32)).toUInt32 % 65536).toInt32)
    rw [ec]
    exact en
  · rw [tc_st w hw, zz_ix (by omega)]
    show narrow .char (.int ((((aa_nthI (tz_t w) k) &&& (255 : Int32)).toUInt32 % 65536).toInt32)) = .int ((((aa_nthI (tz_t w) k) &&& (255 : Int32)).toUInt32 % 65536).toInt32) ∧ K (some (.int ((((aa_nthI (tz_t w) k) &&& (255 : Int32)).toUInt32 % 65536).toInt32))) V
    rw [ec]
    exact ⟨en, h⟩
  · rw [tc_st w hw]
    exact ((zz_nlt (by omega) (by omega)).mpr hk : nI k < nI (tz_n w))
end
