/-! bits of a set -/
def sb (x : Int32) (k : Nat) : Bool := x.toBitVec.getLsbD k
theorem sb_ext {x y : Int32} (h : ∀ k, k < 32 → sb x k = sb y k) : x = y := by
  apply Int32.toBitVec_inj.mp
  apply BitVec.eq_of_getLsbD_eq
  intro i hi
  exact h i hi
theorem sb_or (x y : Int32) (k : Nat) : sb (x ||| y) k = (sb x k || sb y k) := by
  unfold sb
  rw [Int32.toBitVec_or, BitVec.getLsbD_or]
theorem sb_and (x y : Int32) (k : Nat) : sb (x &&& y) k = (sb x k && sb y k) := by
  unfold sb
  rw [Int32.toBitVec_and, BitVec.getLsbD_and]
theorem sb_xor (x y : Int32) (k : Nat) : sb (x ^^^ y) k = (sb x k ^^ sb y k) := by
  unfold sb
  rw [Int32.toBitVec_xor, BitVec.getLsbD_xor]
theorem sb_0 (k : Nat) : sb 0 k = false := by
  unfold sb
  simp
theorem sb_ones {k : Nat} (h : k < 32) : sb (-1) k = true := (show ∀ k, k < 32 → sb (-1) k = true by decide +kernel) k h
theorem sb_not (x : Int32) {k : Nat} (h : k < 32) : sb (x ^^^ (-1 : Int32)) k = !sb x k := by
  rw [sb_xor, sb_ones h]
  cases sb x k <;> rfl
theorem sb_shl {j k : Nat} (hj : j < 32) (hk : k < 32) : sb ((1 : Int32) <<< ((nI j) &&& 31)) k = decide (k = j) := (show ∀ j, j < 32 → ∀ k, k < 32 → sb ((1 : Int32) <<< ((nI j) &&& 31)) k = decide (k = j) by decide +kernel) j hj k hk
theorem sb_and1 (y : BitVec 32) : y &&& 1#32 = 1#32 ↔ y.getLsbD 0 = true := by
  constructor
  · intro h
    have := congrArg (fun z => BitVec.getLsbD z 0) h
    simpa using this
  · intro h
    apply BitVec.eq_of_getLsbD_eq
    intro i hi
    rw [BitVec.getLsbD_and]
    by_cases h0 : i = 0
    · subst h0
      rw [h]
      rfl
    · have : BitVec.getLsbD 1#32 i = false := by
        simp [BitVec.getLsbD_one, h0]
      rw [this, Bool.and_false]
theorem sb_t {x : Int32} {j : Nat} (hj : j < 32) : ((x >>> ((nI j) &&& 31)) &&& (1 : Int32)) = (1 : Int32) ↔ sb x j = true := by
  have hs : ((nI j &&& 31 : Int32).toBitVec.smod 32) = BitVec.ofNat 32 j := (show ∀ j, j < 32 → ((nI j &&& 31 : Int32).toBitVec.smod 32) = BitVec.ofNat 32 j by decide +kernel) j hj
  rw [← Int32.toBitVec_inj, Int32.toBitVec_and, Int32.toBitVec_shiftRight, hs]
  show _ &&& 1#32 = 1#32 ↔ _
  rw [sb_and1]
  unfold sb
  rw [BitVec.sshiftRight_eq', BitVec.getLsbD_sshiftRight]
  have h2 : (BitVec.ofNat 32 j).toNat = j := by
    rw [BitVec.toNat_ofNat]
    omega
  rw [h2]
  simp [hj]
/-- a set by what belongs to it -/
def bs (n : Nat) (p : Nat → Bool) : Int32 := fo (fun i a => if p i = true then a ||| ((1 : Int32) <<< ((nI i) &&& 31)) else a) n 0
theorem bs_b {p : Nat → Bool} {k : Nat} (hk : k < 32) : ∀ {n : Nat}, n ≤ 32 → sb (bs n p) k = (decide (k < n) && p k)
  | 0, _ => by
    show sb 0 k = _
    rw [sb_0]
    simp
  | n + 1, h => by
    have ih := bs_b (p := p) hk (n := n) (by omega)
    show sb (if p n = true then bs n p ||| ((1 : Int32) <<< ((nI n) &&& 31)) else bs n p) k = _
    by_cases hp : p n = true
    · rw [if_pos hp, sb_or, ih, sb_shl (by omega) hk]
      by_cases hkn : k = n
      · subst hkn
        simp [hp]
      · have e1 : decide (k = n) = false := by simp [hkn]
        have e2 : decide (k < n + 1) = decide (k < n) := by
          apply decide_eq_decide.mpr
          omega
        rw [e1, e2, Bool.or_false]
    · rw [if_neg hp, ih]
      by_cases hkn : k = n
      · subst hkn
        simp [hp]
      · have e2 : decide (k < n + 1) = decide (k < n) := by
          apply decide_eq_decide.mpr
          omega
        rw [e2]
theorem bs_c {n : Nat} {p q : Nat → Bool} (h : ∀ i, i < n → p i = q i) : bs n p = bs n q := by
  unfold bs
  exact fo_c (fun i hi x => by rw [h i hi])
theorem bs_t {p : Nat → Bool} {n k : Nat} (hk : k < 32) (hn : n ≤ 32) : (((bs n p) >>> ((nI k) &&& 31)) &&& (1 : Int32)) = (1 : Int32) ↔ (k < n ∧ p k = true) := by
  rw [sb_t hk, bs_b hk hn, Bool.and_eq_true, decide_eq_true_eq]
theorem bs_and {p q : Nat → Bool} {n : Nat} (hn : n ≤ 32) : bs n p &&& bs n q = bs n (fun i => p i && q i) := by
  apply sb_ext
  intro k hk
  rw [sb_and, bs_b hk hn, bs_b hk hn, bs_b hk hn]
  cases decide (k < n) <;> cases p k <;> cases q k <;> rfl
theorem bs_andn {p q : Nat → Bool} {n : Nat} (hn : n ≤ 32) : bs n p &&& (bs n q ^^^ (-1 : Int32)) = bs n (fun i => p i && !q i) := by
  apply sb_ext
  intro k hk
  rw [sb_and, sb_not _ hk, bs_b hk hn, bs_b hk hn, bs_b hk hn]
  cases decide (k < n) <;> cases p k <;> cases q k <;> rfl
