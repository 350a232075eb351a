/-! what holds between the calls -/
def nv_n (V : aa_V) : Prop := V 105 2 = V 0 13 ∧ zb (V 0 13) 399
def nv_r (V : aa_V) : Prop := (∀ a b, a < 8 → b < 8 → V (3 + a) b = V 106 (8 * a + b)) ∧ qf_b (V 106) ∧ (∀ a b, a < 8 → b < 8 → V (12 + a) b = qf 0 (V 106) (8 * a + b)) ∧ (∀ a b, a < 8 → b < 8 → V (21 + a) b = qf 1 (V 106) (8 * a + b))
def nv_w (V : aa_V) : Prop := (V 105 11 = V 29 0 ∧ zb (V 29 0) 8 ∧ V 105 12 = V 29 3 ∧ zb (V 29 3) 20) ∧ (V 108 = V 30 ∧ V 109 = V 31 ∧ V 110 = V 32 ∧ V 111 = V 33 ∧ V 112 = V 34 ∧ V 113 = V 35 ∧ V 114 = V 36 ∧ V 115 = V 37) ∧ (∀ i, zb (V 30 i) 7) ∧ (∀ i, zb (V 31 i) 99) ∧ (∀ i, zb (V 32 i) 5) ∧ (∀ i, zb (V 33 i) 7) ∧ (∀ i, zb (V 34 i) 60) ∧ (∀ i, zb (V 35 i) 99) ∧ (∀ i, zb (V 36 i) 2) ∧ (∀ i, zb (V 37 i) 399)
def nv_a (V : aa_V) : Prop := (V 105 34 = V 38 1 ∧ zb (V 38 1) 30) ∧ (V 124 = V 39 ∧ V 125 = V 40 ∧ V 126 = V 41) ∧ (∀ i, zb (V 39 i) 19) ∧ (∀ i, zb (V 40 i) 399) ∧ (∀ i, zb (V 41 i) 11)
def nv_p (V : aa_V) : Prop := (V 105 46 = V 42 2 ∧ zb (V 42 2) 12 ∧ V 105 47 = V 42 4 ∧ zb (V 42 4) 40 ∧ V 105 48 = V 42 10 ∧ zb (V 42 10) 24) ∧ (V 127 = V 43 ∧ V 128 = V 44 ∧ V 129 = V 45 ∧ V 130 = V 46 ∧ V 131 = V 47 ∧ V 132 = V 48) ∧ (V 133 = V 49 ∧ V 134 = V 50 ∧ V 135 = V 51 ∧ V 136 = V 52 ∧ V 137 = V 53) ∧ ((∀ i, zb (V 43 i) 7) ∧ (∀ i, zb (V 44 i) 11) ∧ (∀ i, zb (V 45 i) 7) ∧ (∀ i, zb (V 46 i) 399) ∧ (∀ i, zb (V 47 i) 11) ∧ (∀ i, zb (V 48 i) 399)) ∧ (∀ i, zb (V 49 i) 5) ∧ (∀ i, zb (V 50 i) 11) ∧ (∀ i, zb (V 51 i) 29) ∧ (∀ i, zb (V 52 i) 999) ∧ (∀ i, zb (V 53 i) 399)
def nv_o (V : aa_V) : Prop := (V 105 54 = V 54 0 ∧ zb (V 54 0) 40 ∧ V 142 = V 58 ∧ (∀ i, i < 12 → V 58 i = -1 ∨ zb (V 58 i) 399)) ∧ (∀ i, i < (V 54 0).toNatClampNeg → ∃ o, o < (V 54 0).toNatClampNeg ∧ V 141 i = nI o ∧ V 55 i = V 138 o ∧ V 56 i = V 139 o ∧ V 57 i = V 140 o) ∧ (∀ i j, i ≤ j → j < (V 54 0).toNatClampNeg → ¬ V 57 j < V 57 i) ∧ (∀ i, zb (V 55 i) 11) ∧ (∀ i, zb (V 56 i) 11) ∧ (∀ i, zb (V 57 i) 399)
def nv_g (x : Int32) : Prop := -99 ≤ x.toInt ∧ x.toInt ≤ 99
def nv_b (V : aa_V) : Prop := (V 105 58 = V 60 0 ∧ zb (V 60 0) 8) ∧ (V 143 = V 61 ∧ V 144 = V 62 ∧ V 145 = V 63) ∧ (∀ i, nv_g (V 61 i)) ∧ (∀ i, nv_g (V 62 i))
def nv_k (V : aa_V) : Prop := (V 105 60 = V 64 0 ∧ zb (V 64 0) 6) ∧ ∀ r w, r < 6 → w < 5 → V (66 + r) w = V 146 (5 * r + w) ∧ zb (V (66 + r) w) 99
def nv_s (V : aa_V) : Prop := (V 147 = V 73 ∧ V 148 = V 74 ∧ (∀ i, i < 4 → V 73 i = -1 ∨ zb (V 73 i) 2) ∧ (∀ i, zb (V 74 i) 40)) ∧ ∀ s, s < 4 → V 73 s ≠ -1 → ∀ i, i < 40 → V (76 + s) i = V 149 (40 * s + i)
def nv_f (V : aa_V) : Prop := (V 105 19 = V 80 1 ∧ zb (V 80 1) 160) ∧ ∀ i, i < (V 80 1).toNatClampNeg → V 81 i = (V 116 i).toInt8.toInt32 ∧ zb (V 116 i) 255
/-- a step of a text: as the one writes it, and as the other does in two -/
def nv_c (how num st : Int32) : Prop := (how = 0 ∧ zb num 9999 ∧ st = num) ∨ (how = 1 ∧ zb num 5 ∧ st = 10000 + num) ∨ (how = 4 ∧ st = 20000) ∨ (how = 10 ∧ st = 20001) ∨ (how = 2 ∧ st = 20002) ∨ (how = 3 ∧ st = 20003) ∨ (how = 5 ∧ st = 20004) ∨ (how = 6 ∧ st = 20005) ∨ (how = 7 ∧ st = 20006) ∨ (how = 8 ∧ st = 20007) ∨ (how = 9 ∧ st = 20008)
/-- how many values a step eats -/
def nv_e (st : Int32) : Nat := if st < 20000 then 0 else if 20001 < st then 2 else 1
/-- how many values wait behind k steps -/
def nv_h (r : Nat → Int32) : Nat → Nat
  | 0 => 0
  | k + 1 => nv_h r k - nv_e (r k) + 1
/-- n steps that leave one value, with 64 waiting at most -/
def nv_q (r : Nat → Int32) (n : Nat) : Prop := (∀ k, k < n → nv_e (r k) ≤ nv_h r k ∧ nv_h r k - nv_e (r k) < 64) ∧ nv_h r n = 1
def nv_u (V : aa_V) (t : Nat) : Prop := ∃ m1 m2 b1 b2 M : Nat, V (87 + 3 * t) 2 = nI m1 ∧ V (87 + 3 * t) 3 = nI (m1 + m2) ∧ V 119 (2 * t) = nI b1 ∧ V 120 (2 * t) = nI (b1 + m1) ∧ V 119 (2 * t + 1) = nI b2 ∧ V 120 (2 * t + 1) = nI (b2 + m2) ∧ m1 + m2 ≤ 160 ∧ (V 105 25 = nI M ∧ M ≤ 1200) ∧ b1 + m1 ≤ M ∧ b2 + m2 ≤ M ∧ (∀ j, j < m1 → nv_c (V 117 (b1 + j)) (V 118 (b1 + j)) (V (88 + 3 * t) j)) ∧ (∀ j, j < m2 → nv_c (V 117 (b2 + j)) (V 118 (b2 + j)) (V (88 + 3 * t) (m1 + j))) ∧ nv_q (V (88 + 3 * t)) m1 ∧ nv_q (fun j => V (88 + 3 * t) (m1 + j)) m2
def nv_t (V : aa_V) : Prop := (V 105 20 = V 0 11 ∧ V 105 21 = V 0 12) ∧ ∃ T M l : Nat, V 0 11 = nI T ∧ 1 ≤ T ∧ T ≤ 6 ∧ V 105 25 = nI M ∧ M ≤ 200 * T ∧ V 0 12 = nI l ∧ l < T ∧ ∀ t, t < T → nv_u V t
def nv (V : aa_V) : Prop := nv_n V ∧ nv_r V ∧ nv_w V ∧ nv_a V ∧ nv_p V ∧ nv_o V ∧ nv_b V ∧ nv_k V ∧ nv_s V ∧ nv_f V ∧ nv_t V
theorem nv_rc {V W : aa_V} (h : ∀ c, 2 < c → c < 29 → W c = V c) (h2 : W 106 = V 106) (q : nv_r V) : nv_r W := by
  unfold nv_r
  rw [h2]
  exact ⟨fun a b ha hb => by rw [h _ (by omega) (by omega)]; exact q.1 a b ha hb, q.2.1, fun a b ha hb => by rw [h _ (by omega) (by omega)]; exact q.2.2.1 a b ha hb, fun a b ha hb => by rw [h _ (by omega) (by omega)]; exact q.2.2.2 a b ha hb⟩
theorem nv_kc {V W : aa_V} (h : ∀ c, 65 < c → c < 72 → W c = V c) (h2 : W 146 = V 146) (h3 : W 64 0 = V 64 0) (h4 : W 105 60 = V 105 60) (q : nv_k V) : nv_k W := by
  unfold nv_k
  rw [h2, h3, h4]
  exact ⟨q.1, fun r w hr hw => by rw [h _ (by omega) (by omega)]; exact q.2 r w hr hw⟩
theorem nv_sc {V W : aa_V} (h : ∀ c, 75 < c → c < 80 → W c = V c) (h1 : W 147 = V 147) (h2 : W 148 = V 148) (h3 : W 149 = V 149) (h4 : W 73 = V 73) (h5 : W 74 = V 74) (q : nv_s V) : nv_s W := by
  unfold nv_s
  rw [h1, h2, h3, h4, h5]
  exact ⟨q.1, fun s hs h0 i hi => by rw [h _ (by omega) (by omega)]; exact q.2 s hs h0 i hi⟩
/-- texts: their stacks (89, 92 and on) may change -/
theorem nv_tc {V W : aa_V} (h : ∀ t, t < 6 → W (87 + 3 * t) = V (87 + 3 * t) ∧ W (88 + 3 * t) = V (88 + 3 * t)) (h1 : W 117 = V 117) (h2 : W 118 = V 118) (h3 : W 119 = V 119) (h4 : W 120 = V 120) (h5 : W 105 20 = V 105 20) (h6 : W 105 21 = V 105 21) (h7 : W 105 25 = V 105 25) (h8 : W 0 11 = V 0 11) (h9 : W 0 12 = V 0 12) (q : nv_t V) : nv_t W := by
  unfold nv_t
  rw [h5, h6, h7, h8, h9]
  refine ⟨q.1, ?_⟩
  obtain ⟨T, M, l, q1, q2, q3, q4, q5, q6, q7, q8⟩ := q.2
  refine ⟨T, M, l, q1, q2, q3, q4, q5, q6, q7, fun t ht => ?_⟩
  have h10 := h t (by omega)
  unfold nv_u
  rw [h1, h2, h3, h4, h7, h10.1, h10.2]
  exact q8 t ht
theorem nv_tx {V W : aa_V} (h : ∀ c, 86 < c → c < 105 → W c = V c) (h1 : W 117 = V 117) (h2 : W 118 = V 118) (h3 : W 119 = V 119) (h4 : W 120 = V 120) (h5 : W 105 20 = V 105 20) (h6 : W 105 21 = V 105 21) (h7 : W 105 25 = V 105 25) (h8 : W 0 11 = V 0 11) (h9 : W 0 12 = V 0 12) (q : nv_t V) : nv_t W :=
  nv_tc (fun t ht => ⟨h _ (by omega) (by omega), h _ (by omega) (by omega)⟩) h1 h2 h3 h4 h5 h6 h7 h8 h9 q
-- numbers
theorem zb_r {x : Int32} {b : Nat} (h : zb x b) (hb : b < 2147483648) : 0 ≤ x.toInt ∧ x.toInt ≤ b := by
  obtain ⟨n, hn, hm⟩ := zb_i h
  rw [hn, nI_toInt (by omega)]
  omega
theorem zb_of_r {x : Int32} {b : Nat} (h0 : 0 ≤ x.toInt) (h1 : x.toInt ≤ b) (hb : b < 2147483647) : zb x b := by
  obtain ⟨j, hj, rfl⟩ := zz_of (x := x) (n := b + 1) (by rw [zz_lt]; show ¬ x.toInt < 0; omega) (by rw [zz_lt, nI_toInt (by omega)]; omega) (by omega)
  exact zb_n (by omega) (by omega)
theorem zb_sub1 {x : Int32} {b : Nat} (h : zb x b) (hb : b < 2147483648) : (x - 1).toInt = x.toInt - 1 := by
  have q := zb_r h hb
  rw [Int32.toInt_sub]
  show Int.bmod (x.toInt - 1) (2 ^ 32) = _
  apply Int.bmod_eq_of_le <;> omega
theorem zb_add1 {x : Int32} {b : Nat} (h : zb x b) (hb : b < 2147483647) : (x + 1).toInt = x.toInt + 1 := by
  have q := zb_r h (by omega)
  rw [Int32.toInt_add]
  show Int.bmod (x.toInt + 1) (2 ^ 32) = _
  apply Int.bmod_eq_of_le <;> omega
theorem zb_up {x : Int32} {b : Nat} (h : zb x b) (hl : x.toInt < b) (hb : b < 2147483647) : zb (x + 1) b := by
  have q := zb_r h (by omega)
  have q2 := zb_add1 h hb
  exact zb_of_r (by omega) (by omega) (by omega)
theorem zb_ix {x : Int32} {b : Nat} (h : zb x b) (hb : b < 2147483648) : (x.toNatClampNeg : Int) = x.toInt := (zb_t h hb).symm
theorem vp_of_r {x : Int32} {n : Nat} (h0 : 0 ≤ x.toInt) (h1 : x.toInt < n) : vp_in x n := vp_in_iff.mpr ⟨h0, h1⟩
theorem upd_p {P : Int32 → Prop} {f : Nat → Int32} {k : Nat} {x : Int32} (h : ∀ i, P (f i)) (hx : P x) : ∀ i, P (upd f k x i) := by
  intro i
  unfold upd
  by_cases e : i = k
  · rw [if_pos e]
    exact hx
  · rw [if_neg e]
    exact h i
theorem zb_upd {b : Nat} {f : Nat → Int32} {k : Nat} {x : Int32} (h : ∀ i, zb (f i) b) (hx : zb x b) : ∀ i, zb (upd f k x i) b := upd_p (P := fun z => zb z b) h hx
theorem upd_eq {f g : Nat → Int32} {k : Nat} {x : Int32} (h : f = g) : upd f k x = upd g k x := by rw [h]
