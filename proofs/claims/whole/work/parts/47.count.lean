/-! how many bits a set has -/
def pz_n (x : Int32) : Nat := x.toBitVec.toNat
theorem pz_add (x y : Int32) : pz_n (x + y) = (pz_n x + pz_n y) % 2 ^ 32 := by
  unfold pz_n
  rw [Int32.toBitVec_add, BitVec.toNat_add]
theorem pz_sub (x y : Int32) : pz_n (x - y) = (2 ^ 32 - pz_n y + pz_n x) % 2 ^ 32 := by
  unfold pz_n
  rw [Int32.toBitVec_sub, BitVec.toNat_sub]
theorem pz_and (x y : Int32) : pz_n (x &&& y) = pz_n x &&& pz_n y := by
  unfold pz_n
  rw [Int32.toBitVec_and, BitVec.toNat_and]
def pz_s (k x : Int32) : Int32 := (x.toUInt32 >>> (k.toUInt32 &&& Int32.toUInt32 31)).toInt32
theorem pz_sr (x k : Int32) (j : Nat) (hj : ((k.toUInt32 &&& Int32.toUInt32 31).toNat % 32) = j) : pz_n (pz_s k x) = pz_n x / 2 ^ j := by
  show (x.toUInt32 >>> (k.toUInt32 &&& Int32.toUInt32 31)).toNat = _
  rw [UInt32.toNat_shiftRight, hj, Nat.shiftRight_eq_div_pow]
  rfl
theorem pz_of {x : Int32} {c : Nat} (h : pz_n x = c) (hc : c < 2 ^ 31) : x = nI c := by
  rw [zz_eq, nI_toInt hc]
  show x.toBitVec.toInt = _
  have h2 : x.toBitVec.toNat = c := h
  rw [BitVec.toInt_eq_toNat_of_lt (by rw [h2]; omega), h2]
/-- the same in numbers -/
def pz_1 (x : Nat) : Nat := x - ((x / 2) &&& 1431655765)
def pz_2 (x : Nat) : Nat := (x &&& 858993459) + ((x / 4) &&& 858993459)
def pz_3 (x : Nat) : Nat := (x + x / 16) &&& 252645135
theorem pz_1_n (x : Int32) (hx : pz_n x < 2 ^ 24) : pz_n (x - (pz_s 1 x &&& (1431655765 : Int32))) = pz_1 (pz_n x) := by
  rw [pz_sub, pz_and, pz_sr x 1 1 (by decide), show pz_n (1431655765 : Int32) = 1431655765 from by decide]
  unfold pz_1
  have : (pz_n x / 2 ^ 1) &&& 1431655765 ≤ pz_n x / 2 ^ 1 := Nat.and_le_left
  rw [show (2 : Nat) ^ 1 = 2 from rfl] at *
  generalize (pz_n x / 2) &&& 1431655765 = y at *
  omega
theorem pz_2_n (x : Int32) (hx : pz_n x < 2 ^ 24) : pz_n ((x &&& (858993459 : Int32)) + (pz_s 2 x &&& (858993459 : Int32))) = pz_2 (pz_n x) := by
  rw [pz_add, pz_and, pz_and, pz_sr x 2 2 (by decide), show pz_n (858993459 : Int32) = 858993459 from by decide]
  unfold pz_2
  have h1 : (pz_n x / 2 ^ 2) &&& 858993459 ≤ pz_n x / 2 ^ 2 := Nat.and_le_left
  have h2 : pz_n x &&& 858993459 ≤ pz_n x := Nat.and_le_left
  rw [show (2 : Nat) ^ 2 = 4 from rfl] at *
  generalize (pz_n x / 4) &&& 858993459 = y at *
  generalize pz_n x &&& 858993459 = z at *
  omega
theorem pz_3_n (x : Int32) (hx : pz_n x < 2 ^ 25) : pz_n ((x + pz_s 4 x) &&& (252645135 : Int32)) = pz_3 (pz_n x) := by
  rw [pz_and, pz_add, pz_sr x 4 4 (by decide), show pz_n (252645135 : Int32) = 252645135 from by decide]
  unfold pz_3
  rw [show (2 : Nat) ^ 4 = 16 from rfl, Nat.mod_eq_of_lt (by omega)]
theorem pz_eq (x : Int32) (V : aa_V) : va_285 x V = (let a := x - (pz_s 1 x &&& (1431655765 : Int32)); let b := (a &&& (858993459 : Int32)) + (pz_s 2 a &&& (858993459 : Int32)); let c := (b + pz_s 4 b) &&& (252645135 : Int32); let e := c + pz_s 8 c; (e + pz_s 16 e) &&& (63 : Int32)) := rfl
theorem pz_ad {u v p q : Nat} (hv : v < 256) (hq : q < 256) : (256 * u + v) &&& (256 * p + q) = 256 * (u &&& p) + (v &&& q) := by
  have h8 : (256 : Nat) = 2 ^ 8 := rfl
  rw [h8] at *
  apply Nat.eq_of_testBit_eq
  intro i
  rw [Nat.testBit_and, Nat.testBit_two_pow_mul_add u hv, Nat.testBit_two_pow_mul_add p hq, Nat.testBit_two_pow_mul_add _ (Nat.and_lt_two_pow v hq)]
  split
  · rw [Nat.testBit_and]
  · rw [Nat.testBit_and]
theorem pz_a3 {c b a : Nat} (m : Nat) (hb : b < 256) (ha : a < 256) (hm : m < 256) (M : Nat) : (65536 * c + 256 * b + a) &&& (65536 * M + 256 * m + m) = 65536 * (c &&& M) + 256 * (b &&& m) + (a &&& m) := by
  rw [show 65536 * c + 256 * b + a = 256 * (256 * c + b) + a by omega, show 65536 * M + 256 * m + m = 256 * (256 * M + m) + m by omega, pz_ad ha hm, pz_ad hb hm]
  omega
def pz_g1 (a : Nat) : Nat := a - ((a / 2) &&& 85)
def pz_g2 (a : Nat) : Nat := (a &&& 51) + ((a / 4) &&& 51)
def pz_g3 (a : Nat) : Nat := (a + a / 16) &&& 15
def pz_g (a : Nat) : Nat := pz_g3 (pz_g2 (pz_g1 a))
theorem pz_d1 : ∀ a, a < 256 → (∀ e, e < 2 → (e * 128 + a / 2) &&& 85 = (a / 2) &&& 85) ∧ (a / 2) &&& 21845 = (a / 2) &&& 85 := by decide +kernel
theorem pz_d2 : ∀ a, a < 256 → (∀ e, e < 4 → (e * 64 + a / 4) &&& 51 = (a / 4) &&& 51) ∧ (a / 4) &&& 13107 = (a / 4) &&& 51 ∧ a &&& 13107 = a &&& 51 := by decide +kernel
theorem pz_d3 : ∀ a, a < 69 → (∀ e, e < 5 → (a + a / 16 + e * 16) &&& 15 = pz_g3 a) ∧ (a + a / 16) &&& 3855 = pz_g3 a := by decide +kernel
theorem pz_r : ∀ a, a < 256 → pz_g1 a ≤ a ∧ pz_g2 (pz_g1 a) < 69 ∧ pz_g2 (pz_g1 a) % 16 < 5 ∧ pz_g a ≤ 8 := by decide +kernel
theorem pz_1_3 {c b a : Nat} (hc : c < 256) (hb : b < 256) (ha : a < 256) : pz_1 (65536 * c + 256 * b + a) = 65536 * pz_g1 c + 256 * pz_g1 b + pz_g1 a := by
  unfold pz_1 pz_g1
  rw [show (65536 * c + 256 * b + a) / 2 = 65536 * (c / 2) + 256 * ((c % 2) * 128 + b / 2) + ((b % 2) * 128 + a / 2) by omega, show 1431655765 = 65536 * 21845 + 256 * 85 + 85 from rfl, pz_a3 85 (by omega) (by omega) (by decide), (pz_d1 a ha).1 _ (by omega), (pz_d1 b hb).1 _ (by omega), (pz_d1 c hc).2]
  have h1 : (a / 2) &&& 85 ≤ a / 2 := Nat.and_le_left
  have h2 : (b / 2) &&& 85 ≤ b / 2 := Nat.and_le_left
  have h3 : (c / 2) &&& 85 ≤ c / 2 := Nat.and_le_left
  generalize (a / 2) &&& 85 = x at *
  generalize (b / 2) &&& 85 = y at *
  generalize (c / 2) &&& 85 = z at *
  omega
theorem pz_2_3 {c b a : Nat} (hc : c < 256) (hb : b < 256) (ha : a < 256) : pz_2 (65536 * c + 256 * b + a) = 65536 * pz_g2 c + 256 * pz_g2 b + pz_g2 a := by
  unfold pz_2 pz_g2
  rw [show (65536 * c + 256 * b + a) / 4 = 65536 * (c / 4) + 256 * ((c % 4) * 64 + b / 4) + ((b % 4) * 64 + a / 4) by omega, show 858993459 = 65536 * 13107 + 256 * 51 + 51 from rfl, pz_a3 51 hb ha (by decide), pz_a3 51 (by omega) (by omega) (by decide), (pz_d2 a ha).1 _ (by omega), (pz_d2 b hb).1 _ (by omega), (pz_d2 c hc).2.1, (pz_d2 c hc).2.2]
  omega
theorem pz_3_3 {c b a : Nat} (hc : c < 69) (hb : b < 69) (ha : a < 69) (hc5 : c % 16 < 5) (hb5 : b % 16 < 5) : pz_3 (65536 * c + 256 * b + a) = 65536 * pz_g3 c + 256 * pz_g3 b + pz_g3 a := by
  unfold pz_3
  rw [show 65536 * c + 256 * b + a + (65536 * c + 256 * b + a) / 16 = 65536 * (c + c / 16) + 256 * (b + b / 16 + (c % 16) * 16) + (a + a / 16 + (b % 16) * 16) by omega, show 252645135 = 65536 * 3855 + 256 * 15 + 15 from rfl, pz_a3 15 (by omega) (by omega) (by decide), (pz_d3 a ha).1 _ hb5, (pz_d3 b hb).1 _ hc5, (pz_d3 c hc).2]
theorem pz_all {x : Int32} {c b a : Nat} (V : aa_V) (hx : pz_n x = 65536 * c + 256 * b + a) (hc : c < 256) (hb : b < 256) (ha : a < 256) : va_285 x V = nI (pz_g c + pz_g b + pz_g a) := by
  have ra := pz_r a ha
  have rb := pz_r b hb
  have rc := pz_r c hc
  have k1 := pz_1_n x (by omega)
  rw [hx, pz_1_3 hc hb ha] at k1
  rw [pz_eq]
  dsimp only
  generalize x - (pz_s 1 x &&& (1431655765 : Int32)) = y1 at *
  have k2 := pz_2_n y1 (by omega)
  rw [k1, pz_2_3 (by omega) (by omega) (by omega)] at k2
  generalize (y1 &&& (858993459 : Int32)) + (pz_s 2 y1 &&& (858993459 : Int32)) = y2 at *
  have k3 := pz_3_n y2 (by omega)
  rw [k2, pz_3_3 rc.2.1 rb.2.1 ra.2.1 rc.2.2.1 rb.2.2.1] at k3
  generalize (y2 + pz_s 4 y2) &&& (252645135 : Int32) = y3 at *
  rw [show pz_g3 (pz_g2 (pz_g1 c)) = pz_g c from rfl, show pz_g3 (pz_g2 (pz_g1 b)) = pz_g b from rfl, show pz_g3 (pz_g2 (pz_g1 a)) = pz_g a from rfl] at k3
  have l1 := ra.2.2.2
  have l2 := rb.2.2.2
  have l3 := rc.2.2.2
  generalize pz_g c = u at *
  generalize pz_g b = v at *
  generalize pz_g a = w at *
  have k4 : pz_n (y3 + pz_s 8 y3) = 65536 * u + 256 * (u + v) + (v + w) := by
    rw [pz_add, pz_sr y3 8 8 (by decide), k3]
    omega
  generalize y3 + pz_s 8 y3 = y4 at *
  have k5 : pz_n (y4 + pz_s 16 y4) = 65536 * u + 256 * (u + v) + (u + v + w) := by
    have q : (65536 * u + 256 * (u + v) + (v + w)) / 65536 = u := by omega
    rw [pz_add, pz_sr y4 16 16 (by decide), k4, show (2 : Nat) ^ 16 = 65536 from rfl, q, show (2 : Nat) ^ 32 = 4294967296 from rfl]
    omega
  apply pz_of
  · rw [pz_and, show pz_n (63 : Int32) = 2 ^ 6 - 1 from by decide, Nat.and_two_pow_sub_one_eq_mod, k5]
    omega
  · omega
-- counting
def pz_c (p : Nat → Bool) : Nat → Nat
  | 0 => 0
  | n + 1 => pz_c p n + (if p n = true then 1 else 0)
theorem pz_c_c {p q : Nat → Bool} : ∀ {n : Nat}, (∀ i, i < n → p i = q i) → pz_c p n = pz_c q n
  | 0, _ => rfl
  | n + 1, h => by
    show pz_c p n + _ = pz_c q n + _
    rw [pz_c_c (fun i hi => h i (by omega)), h n (by omega)]
theorem pz_c_a (p : Nat → Bool) (m : Nat) : ∀ n, pz_c p (m + n) = pz_c p m + pz_c (fun k => p (m + k)) n
  | 0 => rfl
  | n + 1 => by
    show pz_c p (m + n) + _ = pz_c p m + (pz_c (fun k => p (m + k)) n + _)
    rw [pz_c_a p m n, Nat.add_assoc]
    rfl
theorem pz_c_0 {p : Nat → Bool} : ∀ {n : Nat}, (∀ i, i < n → p i = false) → pz_c p n = 0
  | 0, _ => rfl
  | n + 1, h => by
    show pz_c p n + _ = 0
    rw [pz_c_0 (fun i hi => h i (by omega)), h n (by omega)]
    rfl
theorem pz_c_le (p : Nat → Bool) : ∀ n, pz_c p n ≤ n
  | 0 => Nat.le_refl _
  | n + 1 => by
    show pz_c p n + _ ≤ n + 1
    have := pz_c_le p n
    split <;> omega
theorem pz_gc : ∀ a, a < 256 → pz_g a = pz_c (fun k => a.testBit k) 8 := by decide +kernel
theorem pz_bits {x : Int32} (V : aa_V) (hx : pz_n x < 2 ^ 24) : va_285 x V = nI (pz_c (fun k => (pz_n x).testBit k) 24) := by
  obtain ⟨c, hc⟩ : ∃ c, c = pz_n x / 65536 := ⟨_, rfl⟩
  obtain ⟨b, hb⟩ : ∃ b, b = pz_n x / 256 % 256 := ⟨_, rfl⟩
  obtain ⟨a, ha⟩ : ∃ a, a = pz_n x % 256 := ⟨_, rfl⟩
  have e : pz_n x = 65536 * c + 256 * b + a := by omega
  have lc : c < 256 := by omega
  have lb : b < 256 := by omega
  have la : a < 256 := by omega
  rw [pz_all V e lc lb la, pz_gc c lc, pz_gc b lb, pz_gc a la, e]
  congr 1
  rw [show (24 : Nat) = 8 + (8 + 8) from rfl, pz_c_a _ 8 (8 + 8), pz_c_a _ 8 8]
  have e1 : 65536 * c + 256 * b + a = 2 ^ 8 * (2 ^ 8 * c + b) + a := by omega
  have t1 : pz_c (fun k => (65536 * c + 256 * b + a).testBit k) 8 = pz_c (fun k => a.testBit k) 8 := pz_c_c (fun i hi => by
    rw [e1, Nat.testBit_two_pow_mul_add _ la, if_pos hi])
  have t2 : pz_c (fun k => (65536 * c + 256 * b + a).testBit (8 + k)) 8 = pz_c (fun k => b.testBit k) 8 := pz_c_c (fun i hi => by
    rw [e1, Nat.testBit_two_pow_mul_add _ la, if_neg (by omega), Nat.testBit_two_pow_mul_add _ lb, if_pos (by omega)]
    congr 1
    omega)
  have t3 : pz_c (fun k => (65536 * c + 256 * b + a).testBit (8 + (8 + k))) 8 = pz_c (fun k => c.testBit k) 8 := pz_c_c (fun i hi => by
    rw [e1, Nat.testBit_two_pow_mul_add _ la, if_neg (by omega), Nat.testBit_two_pow_mul_add _ lb, if_neg (by omega)]
    congr 1
    omega)
  rw [t1, t2, t3]
  omega
theorem pz_bs {p : Nat → Bool} {n : Nat} (hn : n ≤ 24) (k : Nat) : (pz_n (bs n p)).testBit k = (decide (k < n) && p k) := by
  rcases Nat.lt_or_ge k 32 with h | h
  · exact bs_b h (by omega)
  · have : (pz_n (bs n p)).testBit k = false := BitVec.getLsbD_of_ge _ _ h
    rw [this, decide_eq_false (by omega), Bool.false_and]
theorem q285 {p : Nat → Bool} {n : Nat} (V : aa_V) (hn : n ≤ 24) : va_285 (bs n p) V = nI (pz_c p n) := by
  rw [pz_bits V (Nat.lt_pow_two_of_testBit _ (fun i hi => by rw [pz_bs hn, decide_eq_false (by omega), Bool.false_and]))]
  congr 1
  obtain ⟨m, hm⟩ : ∃ m, 24 = n + m := ⟨24 - n, by omega⟩
  rw [hm, pz_c_a, pz_c_0 (n := m) (fun i hi => by rw [pz_bs hn, decide_eq_false (by omega), Bool.false_and])]
  exact pz_c_c (fun i hi => by rw [pz_bs hn, decide_eq_true hi, Bool.true_and])
theorem pz_fo {p : Nat → Bool} : ∀ n, fo (fun (i : Nat) (a : Int32) => if p i = true then a + 1 else a) n 0 = nI (pz_c p n)
  | 0 => rfl
  | n + 1 => by
    rw [fo_s, pz_fo n]
    show (if p n = true then nI (pz_c p n) + 1 else nI (pz_c p n)) = nI (pz_c p n + (if p n = true then 1 else 0))
    by_cases c : p n = true
    · rw [if_pos c, if_pos c, nI_succ]
    · rw [if_neg c, if_neg c]
      rfl
