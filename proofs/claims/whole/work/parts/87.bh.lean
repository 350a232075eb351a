/-! the computing machine: numbers -/
def bh_add (x y : Nat) : Nat := (x + y) % 4294967296
theorem bh_add_ok (x y : Nat) : nI (bh_add x y) = nI x + nI y := by
  unfold bh_add
  rw [bz_mod, nI_add]
def bh_sub (x y : Nat) : Nat := (x + (4294967296 - y % 4294967296)) % 4294967296
theorem bh_sub_ok (x y : Nat) : nI (bh_sub x y) = nI x - nI y := by
  unfold bh_sub
  rw [bz_mod]
  have e1 : nI x = nI (x + 4294967296) := by rw [← bz_mod x, ← bz_mod (x + 4294967296), Nat.add_mod_right]
  have e2 : nI y = nI (y % 4294967296) := (bz_mod y).symm
  have hlt : y % 4294967296 ≤ x + 4294967296 := by omega
  rw [e1, e2, nI_minus hlt]
  congr 1
  omega
def bh_mul (x y : Nat) : Nat := (x * y) % 4294967296
theorem bh_mul_ok (x y : Nat) : nI (bh_mul x y) = nI x * nI y := by
  unfold bh_mul
  rw [bz_mod]
  exact Int32.ofNat_mul x y
def bh_and (x y : Nat) : Nat := bz_cI (nI x &&& nI y)
theorem bh_and_ok (x y : Nat) : nI (bh_and x y) = nI x &&& nI y := bz_cI_eq _
def bh_shr (x y : Nat) : Nat := bz_cI (nI x >>> (nI y &&& 31))
theorem bh_shr_ok (x y : Nat) : nI (bh_shr x y) = nI x >>> (nI y &&& 31) := bz_cI_eq _
def bh_i2b (x : Nat) : Nat := bz_cI (nI x).toInt8.toInt32
theorem bh_i2b_ok (x : Nat) : nI (bh_i2b x) = (nI x).toInt8.toInt32 := bz_cI_eq _
def bh_i2c (x : Nat) : Nat := bz_cI ((nI x).toUInt32 % 65536).toInt32
theorem bh_i2c_ok (x : Nat) : nI (bh_i2c x) = ((nI x).toUInt32 % 65536).toInt32 := bz_cI_eq _
def bh_id (x : Nat) : Nat := x
theorem bh_id_ok (x : Nat) : nI (bh_id x) = nI x := rfl
def bh_eq (x y : Nat) : Bool := Nat.beq (x % 4294967296) (y % 4294967296)
theorem bh_bv (x : Nat) : (nI x).toBitVec.toNat = x % 4294967296 := by
  rw [bz_tb]
  exact BitVec.toNat_ofNat _ _
theorem bh_eq_ok (x y : Nat) : bh_eq x y = true ↔ nI x = nI y := by
  constructor
  · intro h
    have e := Nat.eq_of_beq_eq_true h
    rw [← bz_mod x, ← bz_mod y, e]
  · intro h
    have e : (nI x).toBitVec.toNat = (nI y).toBitVec.toNat := by rw [h]
    rw [bh_bv, bh_bv] at e
    unfold bh_eq
    rw [e]
    exact Nat.beq_refl _
theorem bh_int (n : Nat) : (nI n).toInt = Int.bmod n 4294967296 := by
  have h : (nI n).toInt = (nI n).toBitVec.toInt := rfl
  rw [h, bz_tb]
  exact BitVec.toInt_ofNat n
theorem bh_ltI (x y : Nat) : nI x < nI y ↔ (x + 2147483648) % 4294967296 < (y + 2147483648) % 4294967296 := by
  rw [zz_lt, bh_int, bh_int]
  simp only [Int.bmod]
  constructor
  · intro h
    split at h <;> split at h <;> omega
  · intro h
    split <;> split <;> omega
def bh_lt (x y : Nat) : Bool := Nat.blt ((x + 2147483648) % 4294967296) ((y + 2147483648) % 4294967296)
theorem bh_blt {a b : Nat} : Nat.blt a b = true ↔ a < b := ⟨bz_lt, fun h => Nat.ble_eq_true_of_le h⟩
theorem bh_lt_ok (x y : Nat) : bh_lt x y = true ↔ nI x < nI y := by
  unfold bh_lt
  rw [bh_blt, bh_ltI]
def bh_gt (x y : Nat) : Bool := bh_lt y x
theorem bh_gt_ok (x y : Nat) : bh_gt x y = true ↔ nI y < nI x := bh_lt_ok y x
def bh_eq0 (x : Nat) : Bool := bh_eq x 0
theorem bh_eq0_ok (x : Nat) : bh_eq0 x = true ↔ nI x = 0 := by
  unfold bh_eq0
  rw [bh_eq_ok, nI_0]
def bh_lt0 (x : Nat) : Bool := bh_lt x 0
theorem bh_lt0_ok (x : Nat) : bh_lt0 x = true ↔ nI x < 0 := by
  unfold bh_lt0
  rw [bh_lt_ok, nI_0]
def bh_mi (b : Bool) (x y : Nat) : Nat := match b with
  | true => y
  | false => x
theorem bh_mi_ok (b : Bool) (x y : Nat) (p : Prop) [Decidable p] (h : b = true ↔ p) : nI (bh_mi b x y) = if p then nI y else nI x := by
  cases b with
  | true => rw [if_pos (h.mp rfl)]; rfl
  | false => rw [if_neg (fun q => Bool.false_ne_true (h.mpr q))]; rfl
def bh_min (x y : Nat) : Nat := bh_mi (bh_lt y x) x y
theorem bh_min_ok (x y : Nat) : nI (bh_min x y) = if nI y < nI x then nI y else nI x := bh_mi_ok (bh_lt y x) x y (nI y < nI x) (bh_lt_ok y x)
theorem bh_byte : ∀ x, x < 128 → narrow .byte (.int (nI x)) = .int (nI x) := by decide +kernel
theorem bh_char : ∀ x, x < 128 → narrow .char (.int (nI x)) = .int (nI x) := by decide +kernel
-- what the constructors' sites rest on
theorem oi_i : Cond.instanceMethod Lib.objectInit ∈ aa_BW := aa_bw 99 (by decide +kernel) rfl
theorem oi_c : Cond.code Lib.objectInit ⟨#[0xb1]⟩ 1 none ∈ aa_BW := aa_bw 100 (by decide +kernel) rfl
theorem pf_0_1 : ac_pF ac_r0 0 1 := ⟨rfl, (RX0, TX0, 4), tyX0, _, rfl, tyX0_ok, nmX0, rfl, tyX0_ok 1 (by decide), fun _ => ⟨rfl, rfl⟩, rfl⟩
theorem pf_0_2 : ac_pF ac_r0 0 2 := ⟨rfl, (RX0, TX0, 4), tyX0, _, rfl, tyX0_ok, nmX0, rfl, tyX0_ok 2 (by decide), fun _ => ⟨rfl, rfl⟩, rfl⟩
theorem pf_0_3 : ac_pF ac_r0 0 3 := ⟨rfl, (RX0, TX0, 4), tyX0, _, rfl, tyX0_ok, nmX0, rfl, tyX0_ok 3 (by decide), fun _ => ⟨rfl, rfl⟩, rfl⟩
theorem pf_1_1 : ac_pF ac_r9 1 1 := ⟨rfl, (RX1, TX1, 6), tyX1, _, rfl, tyX1_ok, nmX1, rfl, tyX1_ok 1 (by decide), fun _ => ⟨rfl, rfl⟩, rfl⟩
theorem pf_1_2 : ac_pF ac_r9 1 2 := ⟨rfl, (RX1, TX1, 6), tyX1, _, rfl, tyX1_ok, nmX1, rfl, tyX1_ok 2 (by decide), fun _ => ⟨rfl, rfl⟩, rfl⟩
theorem pf_1_3 : ac_pF ac_r9 1 3 := ⟨rfl, (RX1, TX1, 6), tyX1, _, rfl, tyX1_ok, nmX1, rfl, tyX1_ok 3 (by decide), fun _ => ⟨rfl, rfl⟩, rfl⟩
theorem pf_1_4 : ac_pF ac_r9 1 4 := ⟨rfl, (RX1, TX1, 6), tyX1, _, rfl, tyX1_ok, nmX1, rfl, tyX1_ok 4 (by decide), fun _ => ⟨rfl, rfl⟩, rfl⟩
theorem pf_1_5 : ac_pF ac_r9 1 5 := ⟨rfl, (RX1, TX1, 6), tyX1, _, rfl, tyX1_ok, nmX1, rfl, tyX1_ok 5 (by decide), fun _ => ⟨rfl, rfl⟩, rfl⟩
theorem lk_RX1_27 : ac_lk RX1 27 (ac_r299).1 := Or.inl (aa_bw 250 (by decide +kernel) rfl)
theorem pf_2_2 : ac_pF ac_r17 2 2 := ⟨rfl, (RX2, TX2, 5), tyX2, _, rfl, tyX2_ok, nmX2, rfl, tyX2_ok 2 (by decide), fun _ => ⟨rfl, rfl⟩, rfl⟩
theorem pf_2_3 : ac_pF ac_r17 2 3 := ⟨rfl, (RX2, TX2, 5), tyX2, _, rfl, tyX2_ok, nmX2, rfl, tyX2_ok 3 (by decide), fun _ => ⟨rfl, rfl⟩, rfl⟩
theorem pf_2_4 : ac_pF ac_r17 2 4 := ⟨rfl, (RX2, TX2, 5), tyX2, _, rfl, tyX2_ok, nmX2, rfl, tyX2_ok 4 (by decide), fun _ => ⟨rfl, rfl⟩, rfl⟩
theorem pf_2_0 : ac_pF ac_r17 2 0 := ⟨rfl, (RX2, TX2, 5), tyX2, _, rfl, tyX2_ok, nmX2, rfl, tyX2_ok 0 (by decide), fun _ => ⟨rfl, rfl⟩, rfl⟩
theorem pf_3_0 : ac_pF ac_r24 3 0 := ⟨rfl, (RX3, TX3, 9), tyX3, _, rfl, tyX3_ok, nmX3, rfl, tyX3_ok 0 (by decide), fun _ => ⟨rfl, rfl⟩, rfl⟩
theorem pf_3_2 : ac_pF ac_r24 3 2 := ⟨rfl, (RX3, TX3, 9), tyX3, _, rfl, tyX3_ok, nmX3, rfl, tyX3_ok 2 (by decide), fun _ => ⟨rfl, rfl⟩, rfl⟩
theorem pf_3_3 : ac_pF ac_r24 3 3 := ⟨rfl, (RX3, TX3, 9), tyX3, _, rfl, tyX3_ok, nmX3, rfl, tyX3_ok 3 (by decide), fun _ => ⟨rfl, rfl⟩, rfl⟩
theorem pf_3_4 : ac_pF ac_r24 3 4 := ⟨rfl, (RX3, TX3, 9), tyX3, _, rfl, tyX3_ok, nmX3, rfl, tyX3_ok 4 (by decide), fun _ => ⟨rfl, rfl⟩, rfl⟩
theorem pf_4_0 : ac_pF ac_r47 4 0 := ⟨rfl, (RX4, TX4, 3), tyX4, _, rfl, tyX4_ok, nmX4, rfl, tyX4_ok 0 (by decide), fun _ => ⟨rfl, rfl⟩, rfl⟩
theorem pf_4_1 : ac_pF ac_r47 4 1 := ⟨rfl, (RX4, TX4, 3), tyX4, _, rfl, tyX4_ok, nmX4, rfl, tyX4_ok 1 (by decide), fun _ => ⟨rfl, rfl⟩, rfl⟩
theorem pf_4_2 : ac_pF ac_r47 4 2 := ⟨rfl, (RX4, TX4, 3), tyX4, _, rfl, tyX4_ok, nmX4, rfl, tyX4_ok 2 (by decide), fun _ => ⟨rfl, rfl⟩, rfl⟩
theorem lk_RX4_22 : ac_lk RX4 22 (ac_r299).1 := Or.inl (aa_bw 109 (by decide +kernel) rfl)
theorem pf_5_0 : ac_pF ac_r55 5 0 := ⟨rfl, (RX5, TX5, 3), tyX5, _, rfl, tyX5_ok, nmX5, rfl, tyX5_ok 0 (by decide), fun _ => ⟨rfl, rfl⟩, rfl⟩
theorem pf_5_1 : ac_pF ac_r55 5 1 := ⟨rfl, (RX5, TX5, 3), tyX5, _, rfl, tyX5_ok, nmX5, rfl, tyX5_ok 1 (by decide), fun _ => ⟨rfl, rfl⟩, rfl⟩
theorem pf_5_2 : ac_pF ac_r55 5 2 := ⟨rfl, (RX5, TX5, 3), tyX5, _, rfl, tyX5_ok, nmX5, rfl, tyX5_ok 2 (by decide), fun _ => ⟨rfl, rfl⟩, rfl⟩
theorem pf_6_0 : ac_pF ac_r67 6 0 := ⟨rfl, (RX6, TX6, 4), tyX6, _, rfl, tyX6_ok, nmX6, rfl, tyX6_ok 0 (by decide), fun _ => ⟨rfl, rfl⟩, rfl⟩
theorem pf_6_1 : ac_pF ac_r67 6 1 := ⟨rfl, (RX6, TX6, 4), tyX6, _, rfl, tyX6_ok, nmX6, rfl, tyX6_ok 1 (by decide), fun _ => ⟨rfl, rfl⟩, rfl⟩
theorem pf_7_3 : ac_pF ac_r79 7 3 := ⟨rfl, (RX7, TX7, 16), tyX7, _, rfl, tyX7_ok, nmX7, rfl, tyX7_ok 3 (by decide), fun _ => ⟨rfl, rfl⟩, rfl⟩
theorem pf_7_5 : ac_pF ac_r79 7 5 := ⟨rfl, (RX7, TX7, 16), tyX7, _, rfl, tyX7_ok, nmX7, rfl, tyX7_ok 5 (by decide), fun _ => ⟨rfl, rfl⟩, rfl⟩
theorem pf_7_6 : ac_pF ac_r79 7 6 := ⟨rfl, (RX7, TX7, 16), tyX7, _, rfl, tyX7_ok, nmX7, rfl, tyX7_ok 6 (by decide), fun _ => ⟨rfl, rfl⟩, rfl⟩
theorem pf_7_7 : ac_pF ac_r79 7 7 := ⟨rfl, (RX7, TX7, 16), tyX7, _, rfl, tyX7_ok, nmX7, rfl, tyX7_ok 7 (by decide), fun _ => ⟨rfl, rfl⟩, rfl⟩
theorem pf_7_8 : ac_pF ac_r79 7 8 := ⟨rfl, (RX7, TX7, 16), tyX7, _, rfl, tyX7_ok, nmX7, rfl, tyX7_ok 8 (by decide), fun _ => ⟨rfl, rfl⟩, rfl⟩
theorem pf_7_9 : ac_pF ac_r79 7 9 := ⟨rfl, (RX7, TX7, 16), tyX7, _, rfl, tyX7_ok, nmX7, rfl, tyX7_ok 9 (by decide), fun _ => ⟨rfl, rfl⟩, rfl⟩
theorem pf_7_11 : ac_pF ac_r79 7 11 := ⟨rfl, (RX7, TX7, 16), tyX7, _, rfl, tyX7_ok, nmX7, rfl, tyX7_ok 11 (by decide), fun _ => ⟨rfl, rfl⟩, rfl⟩
theorem pf_7_12 : ac_pF ac_r79 7 12 := ⟨rfl, (RX7, TX7, 16), tyX7, _, rfl, tyX7_ok, nmX7, rfl, tyX7_ok 12 (by decide), fun _ => ⟨rfl, rfl⟩, rfl⟩
theorem pf_7_13 : ac_pF ac_r79 7 13 := ⟨rfl, (RX7, TX7, 16), tyX7, _, rfl, tyX7_ok, nmX7, rfl, tyX7_ok 13 (by decide), fun _ => ⟨rfl, rfl⟩, rfl⟩
theorem pf_7_14 : ac_pF ac_r79 7 14 := ⟨rfl, (RX7, TX7, 16), tyX7, _, rfl, tyX7_ok, nmX7, rfl, tyX7_ok 14 (by decide), fun _ => ⟨rfl, rfl⟩, rfl⟩
theorem pf_7_15 : ac_pF ac_r79 7 15 := ⟨rfl, (RX7, TX7, 16), tyX7, _, rfl, tyX7_ok, nmX7, rfl, tyX7_ok 15 (by decide), fun _ => ⟨rfl, rfl⟩, rfl⟩
theorem pf_7_0 : ac_pF ac_r79 7 0 := ⟨rfl, (RX7, TX7, 16), tyX7, _, rfl, tyX7_ok, nmX7, rfl, tyX7_ok 0 (by decide), fun _ => ⟨rfl, rfl⟩, rfl⟩
theorem pf_7_1 : ac_pF ac_r79 7 1 := ⟨rfl, (RX7, TX7, 16), tyX7, _, rfl, tyX7_ok, nmX7, rfl, tyX7_ok 1 (by decide), fun _ => ⟨rfl, rfl⟩, rfl⟩
theorem pf_8_1 : ac_pF ac_r94 8 1 := ⟨rfl, (RX8, TX8, 2), tyX8, _, rfl, tyX8_ok, nmX8, rfl, tyX8_ok 1 (by decide), fun _ => ⟨rfl, rfl⟩, rfl⟩
theorem pf_9_1 : ac_pF ac_r103 9 1 := ⟨rfl, (RX9, TX9, 10), tyX9, _, rfl, tyX9_ok, nmX9, rfl, tyX9_ok 1 (by decide), fun _ => ⟨rfl, rfl⟩, rfl⟩
theorem pf_9_2 : ac_pF ac_r103 9 2 := ⟨rfl, (RX9, TX9, 10), tyX9, _, rfl, tyX9_ok, nmX9, rfl, tyX9_ok 2 (by decide), fun _ => ⟨rfl, rfl⟩, rfl⟩
theorem pf_9_4 : ac_pF ac_r103 9 4 := ⟨rfl, (RX9, TX9, 10), tyX9, _, rfl, tyX9_ok, nmX9, rfl, tyX9_ok 4 (by decide), fun _ => ⟨rfl, rfl⟩, rfl⟩
theorem pf_9_5 : ac_pF ac_r103 9 5 := ⟨rfl, (RX9, TX9, 10), tyX9, _, rfl, tyX9_ok, nmX9, rfl, tyX9_ok 5 (by decide), fun _ => ⟨rfl, rfl⟩, rfl⟩
theorem pf_9_6 : ac_pF ac_r103 9 6 := ⟨rfl, (RX9, TX9, 10), tyX9, _, rfl, tyX9_ok, nmX9, rfl, tyX9_ok 6 (by decide), fun _ => ⟨rfl, rfl⟩, rfl⟩
theorem pf_9_7 : ac_pF ac_r103 9 7 := ⟨rfl, (RX9, TX9, 10), tyX9, _, rfl, tyX9_ok, nmX9, rfl, tyX9_ok 7 (by decide), fun _ => ⟨rfl, rfl⟩, rfl⟩
theorem pf_9_8 : ac_pF ac_r103 9 8 := ⟨rfl, (RX9, TX9, 10), tyX9, _, rfl, tyX9_ok, nmX9, rfl, tyX9_ok 8 (by decide), fun _ => ⟨rfl, rfl⟩, rfl⟩
theorem pf_9_9 : ac_pF ac_r103 9 9 := ⟨rfl, (RX9, TX9, 10), tyX9, _, rfl, tyX9_ok, nmX9, rfl, tyX9_ok 9 (by decide), fun _ => ⟨rfl, rfl⟩, rfl⟩
theorem ce_47 : ac_ce 47 0 ac_r47 := ⟨mk_47, by decide +kernel, aa_bw 105 (by decide +kernel) rfl, aa_bw 74 (by decide +kernel) rfl, ⟨by decide +kernel, by decide +kernel⟩, by decide +kernel⟩
theorem ci_47 : Cond.instanceMethod (ac_r47).1 ∈ aa_BW := aa_bw 104 (by decide +kernel) rfl
theorem lk_RX10_9 : ac_lk RX10 9 (ac_r47).1 := Or.inl (aa_bw 103 (by decide +kernel) rfl)
theorem pf_10_0 : ac_pF ac_r137 10 0 := ⟨rfl, (RX10, TX10, 14), tyX10, _, rfl, tyX10_ok, nmX10, rfl, tyX10_ok 0 (by decide), fun _ => ⟨rfl, rfl⟩, rfl⟩
theorem ce_103 : ac_ce 103 0 ac_r103 := ⟨mk_103, by decide +kernel, aa_bw 134 (by decide +kernel) rfl, aa_bw 77 (by decide +kernel) rfl, ⟨by decide +kernel, by decide +kernel⟩, by decide +kernel⟩
theorem ci_103 : Cond.instanceMethod (ac_r103).1 ∈ aa_BW := aa_bw 133 (by decide +kernel) rfl
theorem lk_RX10_18 : ac_lk RX10 18 (ac_r103).1 := Or.inr ⟨"FrameCounty", List.mem_of_getElem? (i := 0) rfl⟩
theorem pf_10_1 : ac_pF ac_r137 10 1 := ⟨rfl, (RX10, TX10, 14), tyX10, _, rfl, tyX10_ok, nmX10, rfl, tyX10_ok 1 (by decide), fun _ => ⟨rfl, rfl⟩, rfl⟩
theorem ce_17 : ac_ce 17 1 ac_r17 := ⟨mk_17, by decide +kernel, aa_bw 171 (by decide +kernel) rfl, aa_bw 78 (by decide +kernel) rfl, ⟨by decide +kernel, by decide +kernel⟩, by decide +kernel⟩
theorem ci_17 : Cond.instanceMethod (ac_r17).1 ∈ aa_BW := aa_bw 170 (by decide +kernel) rfl
theorem lk_RX10_25 : ac_lk RX10 25 (ac_r17).1 := Or.inl (aa_bw 169 (by decide +kernel) rfl)
theorem pf_10_2 : ac_pF ac_r137 10 2 := ⟨rfl, (RX10, TX10, 14), tyX10, _, rfl, tyX10_ok, nmX10, rfl, tyX10_ok 2 (by decide), fun _ => ⟨rfl, rfl⟩, rfl⟩
theorem ce_79 : ac_ce 79 2 ac_r79 := ⟨mk_79, by decide +kernel, aa_bw 193 (by decide +kernel) rfl, aa_bw 79 (by decide +kernel) rfl, ⟨by decide +kernel, by decide +kernel⟩, by decide +kernel⟩
theorem ci_79 : Cond.instanceMethod (ac_r79).1 ∈ aa_BW := aa_bw 192 (by decide +kernel) rfl
theorem lk_RX10_34 : ac_lk RX10 34 (ac_r79).1 := Or.inl (aa_bw 191 (by decide +kernel) rfl)
theorem pf_10_3 : ac_pF ac_r137 10 3 := ⟨rfl, (RX10, TX10, 14), tyX10, _, rfl, tyX10_ok, nmX10, rfl, tyX10_ok 3 (by decide), fun _ => ⟨rfl, rfl⟩, rfl⟩
theorem ce_9 : ac_ce 9 0 ac_r9 := ⟨mk_9, by decide +kernel, aa_bw 248 (by decide +kernel) rfl, aa_bw 80 (by decide +kernel) rfl, ⟨by decide +kernel, by decide +kernel⟩, by decide +kernel⟩
theorem ci_9 : Cond.instanceMethod (ac_r9).1 ∈ aa_BW := aa_bw 247 (by decide +kernel) rfl
theorem lk_RX10_43 : ac_lk RX10 43 (ac_r9).1 := Or.inl (aa_bw 246 (by decide +kernel) rfl)
theorem pf_10_4 : ac_pF ac_r137 10 4 := ⟨rfl, (RX10, TX10, 14), tyX10, _, rfl, tyX10_ok, nmX10, rfl, tyX10_ok 4 (by decide), fun _ => ⟨rfl, rfl⟩, rfl⟩
theorem ce_0 : ac_ce 0 0 ac_r0 := ⟨mk_0, by decide +kernel, aa_bw 274 (by decide +kernel) rfl, aa_bw 81 (by decide +kernel) rfl, ⟨by decide +kernel, by decide +kernel⟩, by decide +kernel⟩
theorem ci_0 : Cond.instanceMethod (ac_r0).1 ∈ aa_BW := aa_bw 273 (by decide +kernel) rfl
theorem lk_RX10_50 : ac_lk RX10 50 (ac_r0).1 := Or.inr ⟨"FrameCounty", List.mem_of_getElem? (i := 1) rfl⟩
theorem pf_10_5 : ac_pF ac_r137 10 5 := ⟨rfl, (RX10, TX10, 14), tyX10, _, rfl, tyX10_ok, nmX10, rfl, tyX10_ok 5 (by decide), fun _ => ⟨rfl, rfl⟩, rfl⟩
theorem ce_94 : ac_ce 94 0 ac_r94 := ⟨mk_94, by decide +kernel, aa_bw 293 (by decide +kernel) rfl, aa_bw 82 (by decide +kernel) rfl, ⟨by decide +kernel, by decide +kernel⟩, by decide +kernel⟩
theorem ci_94 : Cond.instanceMethod (ac_r94).1 ∈ aa_BW := aa_bw 292 (by decide +kernel) rfl
theorem lk_RX10_57 : ac_lk RX10 57 (ac_r94).1 := Or.inr ⟨"FrameCounty", List.mem_of_getElem? (i := 2) rfl⟩
theorem pf_10_6 : ac_pF ac_r137 10 6 := ⟨rfl, (RX10, TX10, 14), tyX10, _, rfl, tyX10_ok, nmX10, rfl, tyX10_ok 6 (by decide), fun _ => ⟨rfl, rfl⟩, rfl⟩
theorem ce_55 : ac_ce 55 0 ac_r55 := ⟨mk_55, by decide +kernel, aa_bw 307 (by decide +kernel) rfl, aa_bw 83 (by decide +kernel) rfl, ⟨by decide +kernel, by decide +kernel⟩, by decide +kernel⟩
theorem ci_55 : Cond.instanceMethod (ac_r55).1 ∈ aa_BW := aa_bw 306 (by decide +kernel) rfl
theorem lk_RX10_64 : ac_lk RX10 64 (ac_r55).1 := Or.inl (aa_bw 305 (by decide +kernel) rfl)
theorem pf_10_7 : ac_pF ac_r137 10 7 := ⟨rfl, (RX10, TX10, 14), tyX10, _, rfl, tyX10_ok, nmX10, rfl, tyX10_ok 7 (by decide), fun _ => ⟨rfl, rfl⟩, rfl⟩
theorem ce_24 : ac_ce 24 0 ac_r24 := ⟨mk_24, by decide +kernel, aa_bw 325 (by decide +kernel) rfl, aa_bw 84 (by decide +kernel) rfl, ⟨by decide +kernel, by decide +kernel⟩, by decide +kernel⟩
theorem ci_24 : Cond.instanceMethod (ac_r24).1 ∈ aa_BW := aa_bw 324 (by decide +kernel) rfl
theorem lk_RX10_71 : ac_lk RX10 71 (ac_r24).1 := Or.inr ⟨"FrameCounty", List.mem_of_getElem? (i := 3) rfl⟩
theorem pf_10_8 : ac_pF ac_r137 10 8 := ⟨rfl, (RX10, TX10, 14), tyX10, _, rfl, tyX10_ok, nmX10, rfl, tyX10_ok 8 (by decide), fun _ => ⟨rfl, rfl⟩, rfl⟩
theorem pf_10_9 : ac_pF ac_r137 10 9 := ⟨rfl, (RX10, TX10, 14), tyX10, _, rfl, tyX10_ok, nmX10, rfl, tyX10_ok 9 (by decide), fun _ => ⟨rfl, rfl⟩, rfl⟩
theorem pf_10_10 : ac_pF ac_r137 10 10 := ⟨rfl, (RX10, TX10, 14), tyX10, _, rfl, tyX10_ok, nmX10, rfl, tyX10_ok 10 (by decide), fun _ => ⟨rfl, rfl⟩, rfl⟩
theorem ce_67 : ac_ce 67 0 ac_r67 := ⟨mk_67, by decide +kernel, aa_bw 361 (by decide +kernel) rfl, aa_bw 85 (by decide +kernel) rfl, ⟨by decide +kernel, by decide +kernel⟩, by decide +kernel⟩
theorem ci_67 : Cond.instanceMethod (ac_r67).1 ∈ aa_BW := aa_bw 360 (by decide +kernel) rfl
theorem lk_RX10_86 : ac_lk RX10 86 (ac_r67).1 := Or.inr ⟨"FrameCounty", List.mem_of_getElem? (i := 4) rfl⟩
theorem ce_26 : ac_ce 26 1 ac_r26 := ⟨mk_26, by decide +kernel, aa_bw 380 (by decide +kernel) rfl, aa_bw 84 (by decide +kernel) rfl, ⟨by decide +kernel, by decide +kernel⟩, by decide +kernel⟩
theorem ci_26 : Cond.instanceMethod (ac_r26).1 ∈ aa_BW := aa_bw 378 (by decide +kernel) rfl
theorem cv_26 : Cond.selects (ac_r26).1.cls (ac_r26).1 (ac_r26).1 ∈ aa_BW := aa_bw 379 (by decide +kernel) rfl
theorem lk_RX10_89 : ac_lk RX10 89 (ac_r26).1 := Or.inl (aa_bw 377 (by decide +kernel) rfl)
theorem cx_RX10_89 {M : ac_R} (h : M.1.cls = RX10) : ac_cv M 89 26 1 3 3 ac_r26 := ⟨ce_26, by rw [h]; exact lk_RX10_89, ci_26, cv_26, rfl, by decide, (RX3, TX3, 9), rfl, rfl, by decide⟩
theorem pf_11_0 : ac_pF ac_r191 11 0 := ⟨rfl, (RX11, TX11, 67), tyX11, _, rfl, tyX11_ok, nmX11, rfl, tyX11_ok 0 (by decide), fun _ => ⟨rfl, rfl⟩, rfl⟩
theorem pf_11_1 : ac_pF ac_r191 11 1 := ⟨rfl, (RX11, TX11, 67), tyX11, _, rfl, tyX11_ok, nmX11, rfl, tyX11_ok 1 (by decide), fun _ => ⟨rfl, rfl⟩, rfl⟩
theorem pf_11_3 : ac_pF ac_r191 11 3 := ⟨rfl, (RX11, TX11, 67), tyX11, _, rfl, tyX11_ok, nmX11, rfl, tyX11_ok 3 (by decide), fun _ => ⟨rfl, rfl⟩, rfl⟩
theorem pf_11_4 : ac_pF ac_r191 11 4 := ⟨rfl, (RX11, TX11, 67), tyX11, _, rfl, tyX11_ok, nmX11, rfl, tyX11_ok 4 (by decide), fun _ => ⟨rfl, rfl⟩, rfl⟩
theorem pf_11_5 : ac_pF ac_r191 11 5 := ⟨rfl, (RX11, TX11, 67), tyX11, _, rfl, tyX11_ok, nmX11, rfl, tyX11_ok 5 (by decide), fun _ => ⟨rfl, rfl⟩, rfl⟩
theorem pf_11_6 : ac_pF ac_r191 11 6 := ⟨rfl, (RX11, TX11, 67), tyX11, _, rfl, tyX11_ok, nmX11, rfl, tyX11_ok 6 (by decide), fun _ => ⟨rfl, rfl⟩, rfl⟩
theorem pf_11_7 : ac_pF ac_r191 11 7 := ⟨rfl, (RX11, TX11, 67), tyX11, _, rfl, tyX11_ok, nmX11, rfl, tyX11_ok 7 (by decide), fun _ => ⟨rfl, rfl⟩, rfl⟩
theorem pf_11_8 : ac_pF ac_r191 11 8 := ⟨rfl, (RX11, TX11, 67), tyX11, _, rfl, tyX11_ok, nmX11, rfl, tyX11_ok 8 (by decide), fun _ => ⟨rfl, rfl⟩, rfl⟩
theorem pf_11_9 : ac_pF ac_r191 11 9 := ⟨rfl, (RX11, TX11, 67), tyX11, _, rfl, tyX11_ok, nmX11, rfl, tyX11_ok 9 (by decide), fun _ => ⟨rfl, rfl⟩, rfl⟩
theorem pf_11_10 : ac_pF ac_r191 11 10 := ⟨rfl, (RX11, TX11, 67), tyX11, _, rfl, tyX11_ok, nmX11, rfl, tyX11_ok 10 (by decide), fun _ => ⟨rfl, rfl⟩, rfl⟩
theorem pf_11_13 : ac_pF ac_r191 11 13 := ⟨rfl, (RX11, TX11, 67), tyX11, _, rfl, tyX11_ok, nmX11, rfl, tyX11_ok 13 (by decide), fun _ => ⟨rfl, rfl⟩, rfl⟩
theorem pf_11_14 : ac_pF ac_r191 11 14 := ⟨rfl, (RX11, TX11, 67), tyX11, _, rfl, tyX11_ok, nmX11, rfl, tyX11_ok 14 (by decide), fun _ => ⟨rfl, rfl⟩, rfl⟩
theorem pf_11_15 : ac_pF ac_r191 11 15 := ⟨rfl, (RX11, TX11, 67), tyX11, _, rfl, tyX11_ok, nmX11, rfl, tyX11_ok 15 (by decide), fun _ => ⟨rfl, rfl⟩, rfl⟩
theorem pf_11_16 : ac_pF ac_r191 11 16 := ⟨rfl, (RX11, TX11, 67), tyX11, _, rfl, tyX11_ok, nmX11, rfl, tyX11_ok 16 (by decide), fun _ => ⟨rfl, rfl⟩, rfl⟩
theorem pf_11_17 : ac_pF ac_r191 11 17 := ⟨rfl, (RX11, TX11, 67), tyX11, _, rfl, tyX11_ok, nmX11, rfl, tyX11_ok 17 (by decide), fun _ => ⟨rfl, rfl⟩, rfl⟩
theorem pf_11_18 : ac_pF ac_r191 11 18 := ⟨rfl, (RX11, TX11, 67), tyX11, _, rfl, tyX11_ok, nmX11, rfl, tyX11_ok 18 (by decide), fun _ => ⟨rfl, rfl⟩, rfl⟩
theorem pf_11_29 : ac_pF ac_r191 11 29 := ⟨rfl, (RX11, TX11, 67), tyX11, _, rfl, tyX11_ok, nmX11, rfl, tyX11_ok 29 (by decide), fun _ => ⟨rfl, rfl⟩, rfl⟩
theorem pf_11_30 : ac_pF ac_r191 11 30 := ⟨rfl, (RX11, TX11, 67), tyX11, _, rfl, tyX11_ok, nmX11, rfl, tyX11_ok 30 (by decide), fun _ => ⟨rfl, rfl⟩, rfl⟩
theorem pf_11_31 : ac_pF ac_r191 11 31 := ⟨rfl, (RX11, TX11, 67), tyX11, _, rfl, tyX11_ok, nmX11, rfl, tyX11_ok 31 (by decide), fun _ => ⟨rfl, rfl⟩, rfl⟩
theorem pf_11_32 : ac_pF ac_r191 11 32 := ⟨rfl, (RX11, TX11, 67), tyX11, _, rfl, tyX11_ok, nmX11, rfl, tyX11_ok 32 (by decide), fun _ => ⟨rfl, rfl⟩, rfl⟩
theorem pf_11_33 : ac_pF ac_r191 11 33 := ⟨rfl, (RX11, TX11, 67), tyX11, _, rfl, tyX11_ok, nmX11, rfl, tyX11_ok 33 (by decide), fun _ => ⟨rfl, rfl⟩, rfl⟩
theorem pf_11_35 : ac_pF ac_r191 11 35 := ⟨rfl, (RX11, TX11, 67), tyX11, _, rfl, tyX11_ok, nmX11, rfl, tyX11_ok 35 (by decide), fun _ => ⟨rfl, rfl⟩, rfl⟩
theorem pf_11_36 : ac_pF ac_r191 11 36 := ⟨rfl, (RX11, TX11, 67), tyX11, _, rfl, tyX11_ok, nmX11, rfl, tyX11_ok 36 (by decide), fun _ => ⟨rfl, rfl⟩, rfl⟩
theorem pf_11_37 : ac_pF ac_r191 11 37 := ⟨rfl, (RX11, TX11, 67), tyX11, _, rfl, tyX11_ok, nmX11, rfl, tyX11_ok 37 (by decide), fun _ => ⟨rfl, rfl⟩, rfl⟩
theorem pf_11_38 : ac_pF ac_r191 11 38 := ⟨rfl, (RX11, TX11, 67), tyX11, _, rfl, tyX11_ok, nmX11, rfl, tyX11_ok 38 (by decide), fun _ => ⟨rfl, rfl⟩, rfl⟩
theorem pf_11_39 : ac_pF ac_r191 11 39 := ⟨rfl, (RX11, TX11, 67), tyX11, _, rfl, tyX11_ok, nmX11, rfl, tyX11_ok 39 (by decide), fun _ => ⟨rfl, rfl⟩, rfl⟩
theorem pf_11_40 : ac_pF ac_r191 11 40 := ⟨rfl, (RX11, TX11, 67), tyX11, _, rfl, tyX11_ok, nmX11, rfl, tyX11_ok 40 (by decide), fun _ => ⟨rfl, rfl⟩, rfl⟩
theorem pf_11_41 : ac_pF ac_r191 11 41 := ⟨rfl, (RX11, TX11, 67), tyX11, _, rfl, tyX11_ok, nmX11, rfl, tyX11_ok 41 (by decide), fun _ => ⟨rfl, rfl⟩, rfl⟩
theorem pf_11_42 : ac_pF ac_r191 11 42 := ⟨rfl, (RX11, TX11, 67), tyX11, _, rfl, tyX11_ok, nmX11, rfl, tyX11_ok 42 (by decide), fun _ => ⟨rfl, rfl⟩, rfl⟩
theorem pf_11_43 : ac_pF ac_r191 11 43 := ⟨rfl, (RX11, TX11, 67), tyX11, _, rfl, tyX11_ok, nmX11, rfl, tyX11_ok 43 (by decide), fun _ => ⟨rfl, rfl⟩, rfl⟩
theorem pf_11_44 : ac_pF ac_r191 11 44 := ⟨rfl, (RX11, TX11, 67), tyX11, _, rfl, tyX11_ok, nmX11, rfl, tyX11_ok 44 (by decide), fun _ => ⟨rfl, rfl⟩, rfl⟩
theorem pf_11_45 : ac_pF ac_r191 11 45 := ⟨rfl, (RX11, TX11, 67), tyX11, _, rfl, tyX11_ok, nmX11, rfl, tyX11_ok 45 (by decide), fun _ => ⟨rfl, rfl⟩, rfl⟩
theorem pf_11_49 : ac_pF ac_r191 11 49 := ⟨rfl, (RX11, TX11, 67), tyX11, _, rfl, tyX11_ok, nmX11, rfl, tyX11_ok 49 (by decide), fun _ => ⟨rfl, rfl⟩, rfl⟩
theorem pf_11_50 : ac_pF ac_r191 11 50 := ⟨rfl, (RX11, TX11, 67), tyX11, _, rfl, tyX11_ok, nmX11, rfl, tyX11_ok 50 (by decide), fun _ => ⟨rfl, rfl⟩, rfl⟩
theorem pf_11_51 : ac_pF ac_r191 11 51 := ⟨rfl, (RX11, TX11, 67), tyX11, _, rfl, tyX11_ok, nmX11, rfl, tyX11_ok 51 (by decide), fun _ => ⟨rfl, rfl⟩, rfl⟩
theorem pf_11_52 : ac_pF ac_r191 11 52 := ⟨rfl, (RX11, TX11, 67), tyX11, _, rfl, tyX11_ok, nmX11, rfl, tyX11_ok 52 (by decide), fun _ => ⟨rfl, rfl⟩, rfl⟩
theorem pf_11_53 : ac_pF ac_r191 11 53 := ⟨rfl, (RX11, TX11, 67), tyX11, _, rfl, tyX11_ok, nmX11, rfl, tyX11_ok 53 (by decide), fun _ => ⟨rfl, rfl⟩, rfl⟩
theorem pf_11_55 : ac_pF ac_r191 11 55 := ⟨rfl, (RX11, TX11, 67), tyX11, _, rfl, tyX11_ok, nmX11, rfl, tyX11_ok 55 (by decide), fun _ => ⟨rfl, rfl⟩, rfl⟩
theorem pf_11_56 : ac_pF ac_r191 11 56 := ⟨rfl, (RX11, TX11, 67), tyX11, _, rfl, tyX11_ok, nmX11, rfl, tyX11_ok 56 (by decide), fun _ => ⟨rfl, rfl⟩, rfl⟩
theorem pf_11_57 : ac_pF ac_r191 11 57 := ⟨rfl, (RX11, TX11, 67), tyX11, _, rfl, tyX11_ok, nmX11, rfl, tyX11_ok 57 (by decide), fun _ => ⟨rfl, rfl⟩, rfl⟩
theorem pf_11_59 : ac_pF ac_r191 11 59 := ⟨rfl, (RX11, TX11, 67), tyX11, _, rfl, tyX11_ok, nmX11, rfl, tyX11_ok 59 (by decide), fun _ => ⟨rfl, rfl⟩, rfl⟩
theorem pf_11_63 : ac_pF ac_r191 11 63 := ⟨rfl, (RX11, TX11, 67), tyX11, _, rfl, tyX11_ok, nmX11, rfl, tyX11_ok 63 (by decide), fun _ => ⟨rfl, rfl⟩, rfl⟩
theorem pf_11_64 : ac_pF ac_r191 11 64 := ⟨rfl, (RX11, TX11, 67), tyX11, _, rfl, tyX11_ok, nmX11, rfl, tyX11_ok 64 (by decide), fun _ => ⟨rfl, rfl⟩, rfl⟩
theorem pf_11_65 : ac_pF ac_r191 11 65 := ⟨rfl, (RX11, TX11, 67), tyX11, _, rfl, tyX11_ok, nmX11, rfl, tyX11_ok 65 (by decide), fun _ => ⟨rfl, rfl⟩, rfl⟩
theorem pf_11_66 : ac_pF ac_r191 11 66 := ⟨rfl, (RX11, TX11, 67), tyX11, _, rfl, tyX11_ok, nmX11, rfl, tyX11_ok 66 (by decide), fun _ => ⟨rfl, rfl⟩, rfl⟩
theorem ce_212 : ac_ce 212 0 ac_r212 := ⟨mk_212, by decide +kernel, aa_bw 1229 (by decide +kernel) rfl, aa_bw 90 (by decide +kernel) rfl, ⟨by decide +kernel, by decide +kernel⟩, by decide +kernel⟩
theorem ci_212 : Cond.instanceMethod (ac_r212).1 ∈ aa_BW := aa_bw 1228 (by decide +kernel) rfl
theorem cv_212 : Cond.selects (ac_r212).1.cls (ac_r212).1 (ac_r212).1 ∈ aa_BW := aa_bw 36 (by decide +kernel) rfl
theorem lk_RX11_149 : ac_lk RX11 149 (ac_r212).1 := Or.inl (aa_bw 1226 (by decide +kernel) rfl)
theorem cx_RX11_149 {M : ac_R} (h : M.1.cls = RX11) : ac_cv M 149 212 0 1 11 ac_r212 := ⟨ce_212, by rw [h]; exact lk_RX11_149, ci_212, cv_212, rfl, by decide, (RX11, TX11, 67), rfl, rfl, by decide⟩
theorem ce_137 : ac_ce 137 0 ac_r137 := ⟨mk_137, by decide +kernel, aa_bw 97 (by decide +kernel) rfl, aa_bw 73 (by decide +kernel) rfl, ⟨by decide +kernel, by decide +kernel⟩, by decide +kernel⟩
theorem ci_137 : Cond.instanceMethod (ac_r137).1 ∈ aa_BW := aa_bw 96 (by decide +kernel) rfl
theorem lk_RL_9 : ac_lk RL 9 (ac_r137).1 := Or.inl (aa_bw 95 (by decide +kernel) rfl)
theorem ce_191 : ac_ce 191 0 ac_r191 := ⟨mk_191, by decide +kernel, aa_bw 1224 (by decide +kernel) rfl, aa_bw 90 (by decide +kernel) rfl, ⟨by decide +kernel, by decide +kernel⟩, by decide +kernel⟩
theorem ci_191 : Cond.instanceMethod (ac_r191).1 ∈ aa_BW := aa_bw 1223 (by decide +kernel) rfl
theorem lk_RL_12 : ac_lk RL 12 (ac_r191).1 := Or.inl (aa_bw 1222 (by decide +kernel) rfl)
