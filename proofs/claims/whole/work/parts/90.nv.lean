/-! what holds between the calls holds behind the constructors -/
theorem bf_v {a : Nat} {c : bz_c} (h : bf_M[a]? = some c) : bz_V bf_M a = fun k => nI (aa_nth c.2.2.2 k) := by
  funext k
  unfold bz_V
  simp only [h]
theorem bf_z {a k n : Nat} {rs : List Nat} (h : bf_M[a]? = some (k, n, rs, [])) : bz_V bf_M a = fun _ => 0 := by
  rw [bf_v h]
  funext j
  show nI (aa_nth [] j) = 0
  rw [bz_nth0]
  exact nI_0
theorem bf_zz {a b k n : Nat} {rs : List Nat} (h : bf_M[a]? = some (k, n, rs, [])) (hb : b < 2147483648) : ∀ i, zb (bz_V bf_M a i) b := by
  intro i
  rw [bf_z h]
  exact zb_n (n := 0) (Nat.zero_le _) hb
theorem bf_ee {a b k n k2 n2 : Nat} {rs rs2 : List Nat} (h : bf_M[a]? = some (k, n, rs, [])) (h2 : bf_M[b]? = some (k2, n2, rs2, [])) : bz_V bf_M a = bz_V bf_M b := (bf_z h).trans (bf_z h2).symm
-- roads: nothing is laid
def bf_D (k : Nat) : Int32 := if k % 9 = 0 then 0 else 99
theorem bf_fo {P : (Nat → Int32) → Prop} {F : Nat → (Nat → Int32) → (Nat → Int32)} (hF : ∀ i g, i < 8 → P g → P (F i g)) : ∀ n g, n ≤ 8 → P g → P (fo F n g)
  | 0, g, _, h => h
  | n + 1, g, hn, h => hF n _ (by omega) (bf_fo hF n g (by omega) h)
theorem bf_Ds : ∀ m, m < 8 → ∀ a, a < 8 → ∀ b, b < 8 → (if bf_D (8 * a + m) + bf_D (8 * m + b) < bf_D (8 * a + b) then bf_D (8 * a + m) + bf_D (8 * m + b) else bf_D (8 * a + b)) = bf_D (8 * a + b) := by decide +kernel
theorem bf_qf {more : Int32} {r : Nat → Int32} (h : ∀ k, k < 64 → r k = 99) : ∀ k, k < 64 → qf more r k = bf_D k := by
  refine bf_fo (P := fun g => ∀ k, k < 64 → g k = bf_D k) (F := qf_k) (fun m g hm hg => ?_) 8 _ (Nat.le_refl _) (fun k hk => ?_)
  · refine bf_fo (P := fun g => ∀ k, k < 64 → g k = bf_D k) (F := qf_l m) (fun a g ha hg => ?_) 8 g (Nat.le_refl _) hg
    refine bf_fo (P := fun g => ∀ k, k < 64 → g k = bf_D k) (F := qf_s m a) (fun b g hb hg => ?_) 8 g (Nat.le_refl _) hg
    intro k hk
    unfold qf_s
    by_cases q : k = 8 * a + b
    · rw [if_pos q, hg _ (by omega), hg _ (by omega), hg _ (by omega), q]
      exact bf_Ds m hm a ha b hb
    · rw [if_neg q]
      exact hg k hk
  · unfold qf_0 bf_D
    by_cases q : k % 9 = 0
    · rw [if_pos q, if_pos q]
    · rw [if_neg q, if_neg q, if_pos (h k hk)]
theorem bf_r99 : ∀ k, k < 64 → bz_V bf_M 106 k = 99 := by decide +kernel
theorem bf_nr : nv_r (bz_V bf_M) := by
  refine ⟨fun a b ha hb => ?_, ?_, fun a b ha hb => ?_, fun a b ha hb => ?_⟩
  · exact (show ∀ a, a < 8 → ∀ b, b < 8 → bz_V bf_M (3 + a) b = bz_V bf_M 106 (8 * a + b) by decide +kernel) a ha b hb
  · unfold qf_b
    intro k hk
    rw [bf_r99 k hk]
    exact zb_n (n := 99) (Nat.le_refl _) (by decide)
  · rw [bf_qf bf_r99 _ (by omega)]
    exact (show ∀ a, a < 8 → ∀ b, b < 8 → bz_V bf_M (12 + a) b = bf_D (8 * a + b) by decide +kernel) a ha b hb
  · rw [bf_qf bf_r99 _ (by omega)]
    exact (show ∀ a, a < 8 → ∀ b, b < 8 → bz_V bf_M (21 + a) b = bf_D (8 * a + b) by decide +kernel) a ha b hb
theorem bf_0b {b : Nat} (hb : b < 2147483648) : zb (nI 0) b := zb_n (n := 0) (Nat.zero_le _) hb
theorem bf_nw : nv_w (bz_V bf_M) :=
  ⟨⟨rfl, bf_0b (by decide), rfl, bf_0b (by decide)⟩, ⟨bf_ee rfl rfl, bf_ee rfl rfl, bf_ee rfl rfl, bf_ee rfl rfl, bf_ee rfl rfl, bf_ee rfl rfl, bf_ee rfl rfl, bf_ee rfl rfl⟩,
    bf_zz rfl (by decide), bf_zz rfl (by decide), bf_zz rfl (by decide), bf_zz rfl (by decide), bf_zz rfl (by decide), bf_zz rfl (by decide), bf_zz rfl (by decide), bf_zz rfl (by decide)⟩
theorem bf_na : nv_a (bz_V bf_M) :=
  ⟨⟨rfl, bf_0b (by decide)⟩, ⟨bf_ee rfl rfl, bf_ee rfl rfl, bf_ee rfl rfl⟩, bf_zz rfl (by decide), bf_zz rfl (by decide), bf_zz rfl (by decide)⟩
theorem bf_np : nv_p (bz_V bf_M) :=
  ⟨⟨rfl, bf_0b (by decide), rfl, bf_0b (by decide), rfl, bf_0b (by decide)⟩, ⟨bf_ee rfl rfl, bf_ee rfl rfl, bf_ee rfl rfl, bf_ee rfl rfl, bf_ee rfl rfl, bf_ee rfl rfl⟩, ⟨bf_ee rfl rfl, bf_ee rfl rfl, bf_ee rfl rfl, bf_ee rfl rfl, bf_ee rfl rfl⟩,
    ⟨bf_zz rfl (by decide), bf_zz rfl (by decide), bf_zz rfl (by decide), bf_zz rfl (by decide), bf_zz rfl (by decide), bf_zz rfl (by decide)⟩, bf_zz rfl (by decide), bf_zz rfl (by decide), bf_zz rfl (by decide), bf_zz rfl (by decide), bf_zz rfl (by decide)⟩
theorem bf_no0 : (bz_V bf_M 54 0).toNatClampNeg = 0 := by decide +kernel
theorem bf_no : nv_o (bz_V bf_M) := by
  refine ⟨⟨rfl, bf_0b (by decide), (bf_v (a := 142) rfl).trans (bf_v (a := 58) rfl).symm, fun i hi => Or.inl ?_⟩, fun i hi => ?_, fun i j hij hj => ?_, bf_zz rfl (by decide), bf_zz rfl (by decide), bf_zz rfl (by decide)⟩
  · exact (show ∀ i, i < 12 → bz_V bf_M 58 i = -1 by decide +kernel) i hi
  · rw [bf_no0] at hi
    exact absurd hi (Nat.not_lt_zero _)
  · rw [bf_no0] at hj
    exact absurd hj (Nat.not_lt_zero _)
theorem bf_gg {a k n : Nat} {rs : List Nat} (h : bf_M[a]? = some (k, n, rs, [])) : ∀ i, nv_g (bz_V bf_M a i) := by
  intro i
  rw [bf_z h]
  show -99 ≤ (0 : Int32).toInt ∧ (0 : Int32).toInt ≤ 99
  exact ⟨by decide, by decide⟩
theorem bf_nb : nv_b (bz_V bf_M) := ⟨⟨rfl, bf_0b (by decide)⟩, ⟨bf_ee rfl rfl, bf_ee rfl rfl, bf_ee rfl rfl⟩, bf_gg rfl, bf_gg rfl⟩
theorem bf_nk : nv_k (bz_V bf_M) := by
  refine ⟨⟨rfl, bf_0b (by decide)⟩, fun r w hr hw => ?_⟩
  obtain ⟨e1, e2⟩ := (show ∀ r, r < 6 → ∀ w, w < 5 → bz_V bf_M (66 + r) w = nI 0 ∧ bz_V bf_M 146 (5 * r + w) = nI 0 by decide +kernel) r hr w hw
  rw [e1, e2]
  exact ⟨rfl, bf_0b (by decide)⟩
theorem bf_s1 : ∀ i, i < 4 → bz_V bf_M 73 i = -1 := by decide +kernel
theorem bf_ns : nv_s (bz_V bf_M) :=
  ⟨⟨(bf_v (a := 147) rfl).trans (bf_v (a := 73) rfl).symm, bf_ee rfl rfl, fun i hi => Or.inl (bf_s1 i hi), bf_zz rfl (by decide)⟩, fun s hs h => absurd (bf_s1 s hs) h⟩
theorem bf_nf0 : (bz_V bf_M 80 1).toNatClampNeg = 0 := by decide +kernel
theorem bf_nf : nv_f (bz_V bf_M) := by
  refine ⟨⟨rfl, bf_0b (by decide)⟩, fun i hi => ?_⟩
  rw [bf_nf0] at hi
  exact absurd hi (Nat.not_lt_zero _)
theorem bf_q1 : (∀ k, k < 3 → nv_e (bz_V bf_M 88 k) ≤ nv_h (bz_V bf_M 88) k ∧ nv_h (bz_V bf_M 88) k - nv_e (bz_V bf_M 88 k) < 64) ∧ nv_h (bz_V bf_M 88) 3 = 1 := by decide +kernel
theorem bf_q2 : (∀ k, k < 3 → nv_e (bz_V bf_M 88 (3 + k)) ≤ nv_h (fun j => bz_V bf_M 88 (3 + j)) k ∧ nv_h (fun j => bz_V bf_M 88 (3 + j)) k - nv_e (bz_V bf_M 88 (3 + k)) < 64) ∧ nv_h (fun j => bz_V bf_M 88 (3 + j)) 3 = 1 := by decide +kernel
theorem bf_c1 : ∀ j, j < 3 → nv_c (bz_V bf_M 117 (0 + j)) (bz_V bf_M 118 (0 + j)) (bz_V bf_M 88 j) := by
  intro j hj
  rcases (show j = 0 ∨ j = 1 ∨ j = 2 by omega) with rfl | rfl | rfl
  · exact Or.inl ⟨by decide +kernel, zb_n (n := 10) (by decide) (by decide), by decide +kernel⟩
  · exact Or.inr (Or.inl ⟨by decide +kernel, zb_n (n := 1) (by decide) (by decide), by decide +kernel⟩)
  · exact Or.inr (Or.inr (Or.inr (Or.inr (Or.inr (Or.inr (Or.inr (Or.inr (Or.inl ⟨by decide +kernel, by decide +kernel⟩))))))))
theorem bf_c2 : ∀ j, j < 3 → nv_c (bz_V bf_M 117 (3 + j)) (bz_V bf_M 118 (3 + j)) (bz_V bf_M 88 (3 + j)) := by
  intro j hj
  rcases (show j = 0 ∨ j = 1 ∨ j = 2 by omega) with rfl | rfl | rfl
  · exact Or.inl ⟨by decide +kernel, zb_n (n := 1) (by decide) (by decide), by decide +kernel⟩
  · exact Or.inr (Or.inl ⟨by decide +kernel, zb_n (n := 4) (by decide) (by decide), by decide +kernel⟩)
  · exact Or.inr (Or.inr (Or.inr (Or.inr (Or.inr (Or.inr (Or.inl ⟨by decide +kernel, by decide +kernel⟩))))))
theorem bf_nu : nv_u (bz_V bf_M) 0 :=
  ⟨3, 3, 0, 3, 6, by decide +kernel, by decide +kernel, by decide +kernel, by decide +kernel, by decide +kernel, by decide +kernel, by decide, ⟨by decide +kernel, by decide⟩, by decide, by decide, bf_c1, bf_c2, bf_q1, bf_q2⟩
theorem bf_nt : nv_t (bz_V bf_M) := by
  refine ⟨⟨by decide +kernel, by decide +kernel⟩, 1, 6, 0, by decide +kernel, by decide, by decide, by decide +kernel, by decide, by decide +kernel, by decide, fun t ht => ?_⟩
  have h0 : t = 0 := by omega
  subst h0
  exact bf_nu
theorem bf_nv : nv (bz_V bf_M) := ⟨⟨by decide +kernel, bf_0b (by decide)⟩, bf_nr, bf_nw, bf_na, bf_np, bf_no, bf_nb, bf_nk, bf_ns, bf_nf, bf_nt⟩
theorem bf_sk : bz_sk bf_M = ac_SK := by decide +kernel
