/-! the computing machine: memory, calls, ends -/
theorem bz_31 {n : Nat} (h : Nat.blt n 2147483648 = true) : n < 2 ^ 31 := Nat.lt_of_succ_le (Nat.le_of_ble_eq_true h)
theorem bz_lt {a b : Nat} (h : Nat.blt a b = true) : a < b := Nat.lt_of_succ_le (Nat.le_of_ble_eq_true h)
theorem bz_and {a b : Bool} (h : (a && b) = true) : a = true ∧ b = true := by
  rw [Bool.and_eq_true] at h
  exact h
-- fields
def bz_gI (ci k nx : Nat) : bz_Op := fun _ _ lo st M => match st with
  | .inr (.inl a) :: r => (match bz_at M a with
    | some (c, _, _, is) => (match Nat.beq c ci with
      | true => bz_f (aa_nth is k) (fun x => some (.inl (nx, lo, .inl x :: r, M)))
      | false => none)
    | none => none)
  | _ => none
theorem bs_gI {ci k nx : Nat} : bz_Sim (bz_gI ci k nx) (aa_gI ci k nx) := by
  intro ev ey lo st M G L xs l d hev
  unfold bz_gI
  split
  · rename_i a r
    split
    · rename_i c n rs is h
      split
      · rename_i hb
        rw [bz_f_eq]
        refine bz_goI rfl fun ret go hg => ?_
        show (match aa_sh (bz_sk M) a with
          | some (c, _, _) => (match Nat.beq c ci with
            | true => go nx (bz_lo lo) (.int (bz_V M a k) :: bz_st r) (bz_V M)
            | false => False)
          | none => False)
        rw [bz_sh h, bz_Vat h]
        show (match Nat.beq c ci with
            | true => go nx (bz_lo lo) (.int (nI (aa_nth is k)) :: bz_st r) (bz_V M)
            | false => False)
        rw [hb]
        exact hg
      · exact bz_no
    · exact bz_no
  · exact bz_no
theorem bs_gIs {ci k nx : Nat} : bz_Sim (bz_gI ci k nx) (aa_gIs ci k nx) := by
  intro ev ey lo st M G L xs l d hev
  unfold bz_gI
  split
  · rename_i a r
    split
    · rename_i c n rs is h
      split
      · rename_i hb
        rw [bz_f_eq]
        refine bz_goI rfl fun ret go hg => ?_
        have e := Nat.eq_of_beq_eq_true hb
        subst e
        refine ⟨⟨n, rs, bz_sh h⟩, ?_⟩
        rw [bz_Vat h]
        exact hg
      · exact bz_no
    · exact bz_no
  · exact bz_no
def bz_gR (ci k nx : Nat) : bz_Op := fun _ _ lo st M => match st with
  | .inr (.inl a) :: r => (match bz_at M a with
    | some (c, _, rs, _) => (match Nat.beq c ci with
      | true => (match aa_nth rs k with
        | 0 => none
        | q + 1 => some (.inl (nx, lo, .inr (.inl q) :: r, M)))
      | false => none)
    | none => none)
  | _ => none
theorem bs_gR {ci k nx : Nat} : bz_Sim (bz_gR ci k nx) (aa_gR ci k nx) := by
  intro ev ey lo st M G L xs l d hev
  unfold bz_gR
  split
  · rename_i a r
    split
    · rename_i c n rs is h
      split
      · rename_i hb
        split
        · exact bz_no
        · rename_i q hq
          refine bz_goI rfl fun ret go hg => ?_
          show (match aa_sh (bz_sk M) a with
            | some (c, _, rs) => (match Nat.beq c ci with
              | true => (match aa_nth rs k with
                | 0 => False
                | q + 1 => go nx (bz_lo lo) (.ref q :: bz_st r) (bz_V M))
              | false => False)
            | none => False)
          rw [bz_sh h]
          show (match Nat.beq c ci with
              | true => (match aa_nth rs k with
                | 0 => False
                | q + 1 => go nx (bz_lo lo) (.ref q :: bz_st r) (bz_V M))
              | false => False)
          rw [hb]
          show (match aa_nth rs k with
                | 0 => False
                | q + 1 => go nx (bz_lo lo) (.ref q :: bz_st r) (bz_V M))
          rw [hq]
          exact hg
      · exact bz_no
    · exact bz_no
  · exact bz_no
theorem bs_gRs {ci k nx : Nat} : bz_Sim (bz_gR ci k nx) (aa_gRs ci k nx) := by
  intro ev ey lo st M G L xs l d hev
  unfold bz_gR
  split
  · rename_i a r
    split
    · rename_i c n rs is h
      split
      · rename_i hb
        split
        · exact bz_no
        · rename_i q hq
          have e := Nat.eq_of_beq_eq_true hb
          subst e
          exact bz_goI rfl fun ret go hg => ⟨n, rs, q, bz_sh h, hq, hg⟩
      · exact bz_no
    · exact bz_no
  · exact bz_no
def bz_gC (ci k nx : Nat) : bz_Op := fun _ _ lo st M => match st with
  | .inr (.inl a) :: r => (match bz_at M a with
    | some (c, _, _, is) => (match Nat.beq c ci && Nat.blt (aa_nth is k) 2147483648 with
      | true => (match aa_nth is k with
        | 0 => none
        | q + 1 => some (.inl (nx, lo, .inr (.inl q) :: r, M)))
      | false => none)
    | none => none)
  | _ => none
theorem bs_gC {ci k nx : Nat} : bz_Sim (bz_gC ci k nx) (aa_gC ci k nx) := by
  intro ev ey lo st M G L xs l d hev
  unfold bz_gC
  split
  · rename_i a r
    split
    · rename_i c n rs is h
      split
      · rename_i hb
        obtain ⟨hb, hb2⟩ := bz_and hb
        split
        · exact bz_no
        · rename_i q hq
          refine bz_goI rfl fun ret go hg => ?_
          show (match aa_sh (bz_sk M) a with
            | some (c, _, _) => (match Nat.beq c ci with
              | true => ∃ q : Nat, (bz_V M a k).toNatClampNeg = q + 1 ∧ go nx (bz_lo lo) (.ref q :: bz_st r) (bz_V M)
              | false => False)
            | none => False)
          rw [bz_sh h, bz_Vat h]
          show (match Nat.beq c ci with
              | true => ∃ q : Nat, (nI (aa_nth is k)).toNatClampNeg = q + 1 ∧ go nx (bz_lo lo) (.ref q :: bz_st r) (bz_V M)
              | false => False)
          rw [hb]
          refine ⟨q, ?_, hg⟩
          rw [nI_clamp (bz_31 hb2)]
          exact hq
      · exact bz_no
    · exact bz_no
  · exact bz_no
def bz_pI (ci k nx : Nat) : bz_Op := fun _ _ lo st M => match st with
  | .inl x :: .inr (.inl a) :: r => (match bz_at M a with
    | some (c, n, rs, is) => (match Nat.beq c ci with
      | true => bz_is is k x (fun is' => bz_put M a (c, n, rs, is') (fun M' => some (.inl (nx, lo, r, M'))))
      | false => none)
    | none => none)
  | _ => none
theorem bs_pI {ci k nx : Nat} : bz_Sim (bz_pI ci k nx) (aa_pI ci k nx) := by
  intro ev ey lo st M G L xs l d hev
  unfold bz_pI
  split
  · rename_i x a r
    split
    · rename_i c n rs is h
      split
      · rename_i hb
        obtain ⟨l', h1, h2⟩ := bz_is_eq k is x (fun is' => bz_put M a (c, n, rs, is') (fun M' => some (.inl (nx, lo, r, M'))))
        rw [h1, bz_put_eq M a _ _ (bz_at_lt h)]
        refine bz_goI (bz_set_sk (c := (c, n, rs, is)) h) fun ret go hg => ?_
        show (match aa_sh (bz_sk M) a with
          | some (c, _, _) => (match Nat.beq c ci with
            | true => go nx (bz_lo lo) (bz_st r) (aa_up (bz_V M) a k (nI x))
            | false => False)
          | none => False)
        rw [bz_sh h]
        show (match Nat.beq c ci with
            | true => go nx (bz_lo lo) (bz_st r) (aa_up (bz_V M) a k (nI x))
            | false => False)
        rw [hb, ← bz_set_V (c := (c, n, rs, is)) h h2]
        exact hg
      · exact bz_no
    · exact bz_no
  · exact bz_no
theorem bs_pIs {ci k nx : Nat} : bz_Sim (bz_pI ci k nx) (aa_pIs ci k nx) := by
  intro ev ey lo st M G L xs l d hev
  unfold bz_pI
  split
  · rename_i x a r
    split
    · rename_i c n rs is h
      split
      · rename_i hb
        obtain ⟨l', h1, h2⟩ := bz_is_eq k is x (fun is' => bz_put M a (c, n, rs, is') (fun M' => some (.inl (nx, lo, r, M'))))
        rw [h1, bz_put_eq M a _ _ (bz_at_lt h)]
        refine bz_goI (bz_set_sk (c := (c, n, rs, is)) h) fun ret go hg => ?_
        have e := Nat.eq_of_beq_eq_true hb
        subst e
        refine ⟨⟨n, rs, bz_sh h⟩, ?_⟩
        rw [← bz_set_V (c := (c, n, rs, is)) h h2]
        exact hg
      · exact bz_no
    · exact bz_no
  · exact bz_no
def bz_pC (ci k nx : Nat) : bz_Op := fun _ _ lo st M => match st with
  | .inr (.inl q) :: .inr (.inl a) :: r => (match bz_at M a with
    | some (c, n, rs, is) => (match Nat.beq c ci && Nat.blt q 1000000 with
      | true => bz_is is k (Nat.succ q) (fun is' => bz_put M a (c, n, rs, is') (fun M' => some (.inl (nx, lo, r, M'))))
      | false => none)
    | none => none)
  | _ => none
theorem bs_pC {ci k nx : Nat} : bz_Sim (bz_pC ci k nx) (aa_pC ci k nx) := by
  intro ev ey lo st M G L xs l d hev
  unfold bz_pC
  split
  · rename_i q a r
    split
    · rename_i c n rs is h
      split
      · rename_i hb
        obtain ⟨hb, hb2⟩ := bz_and hb
        obtain ⟨l', h1, h2⟩ := bz_is_eq k is (Nat.succ q) (fun is' => bz_put M a (c, n, rs, is') (fun M' => some (.inl (nx, lo, r, M'))))
        rw [h1, bz_put_eq M a _ _ (bz_at_lt h)]
        refine bz_goI (bz_set_sk (c := (c, n, rs, is)) h) fun ret go hg => ?_
        show (match aa_sh (bz_sk M) a with
          | some (c, _, _) => (match Nat.beq c ci with
            | true => q < 1000000 ∧ go nx (bz_lo lo) (bz_st r) (aa_up (bz_V M) a k (nI (q + 1)))
            | false => False)
          | none => False)
        rw [bz_sh h]
        show (match Nat.beq c ci with
            | true => q < 1000000 ∧ go nx (bz_lo lo) (bz_st r) (aa_up (bz_V M) a k (nI (q + 1)))
            | false => False)
        rw [hb]
        refine ⟨bz_lt hb2, ?_⟩
        rw [← bz_set_V (c := (c, n, rs, is)) h h2]
        exact hg
      · exact bz_no
    · exact bz_no
  · exact bz_no
-- rows
def bz_al (kd nx : Nat) : bz_Op := fun _ _ lo st M => match st with
  | .inl i :: .inr (.inl a) :: r => (match bz_at M a with
    | some (c, n, _, is) => (match Nat.beq c kd && (Nat.blt i n && (Nat.blt n 2147483648 && Nat.blt a 1000000)) with
      | true => bz_f (aa_nth is i) (fun x => some (.inl (nx, lo, .inl x :: r, M)))
      | false => none)
    | none => none)
  | _ => none
theorem bs_al {kd nx : Nat} : bz_Sim (bz_al kd nx) (aa_al kd nx) := by
  intro ev ey lo st M G L xs l d hev
  unfold bz_al
  split
  · rename_i i a r
    split
    · rename_i c n rs is h
      split
      · rename_i hb
        obtain ⟨hb, hb2⟩ := bz_and hb
        obtain ⟨hb2, hb3⟩ := bz_and hb2
        obtain ⟨hb3, hb4⟩ := bz_and hb3
        rw [bz_f_eq]
        refine bz_goI rfl fun ret go hg => ?_
        unfold aa_al
        show (match Nat.blt a 1000000 with
          | true => (match aa_sh (bz_sk M) a with
            | some (c, n, _) => (match Nat.beq c kd with
              | true => vp_in (nI i) n ∧ go nx (bz_lo lo) (.int (bz_V M a (nI i).toNatClampNeg) :: bz_st r) (bz_V M)
              | false => False)
            | none => False)
          | false => _)
        rw [hb4]
        show (match aa_sh (bz_sk M) a with
            | some (c, n, _) => (match Nat.beq c kd with
              | true => vp_in (nI i) n ∧ go nx (bz_lo lo) (.int (bz_V M a (nI i).toNatClampNeg) :: bz_st r) (bz_V M)
              | false => False)
            | none => False)
        rw [bz_sh h, bz_Vat h]
        show (match Nat.beq c kd with
              | true => vp_in (nI i) n ∧ go nx (bz_lo lo) (.int (nI (aa_nth is (nI i).toNatClampNeg)) :: bz_st r) (bz_V M)
              | false => False)
        rw [hb, nI_clamp (Nat.lt_trans (bz_lt hb2) (bz_31 hb3))]
        exact ⟨vp_in_nI (bz_lt hb2) (bz_31 hb3), hg⟩
      · exact bz_no
    · exact bz_no
  · exact bz_no
theorem bs_als {kd nx : Nat} : bz_Sim (bz_al kd nx) (aa_als kd nx) := by
  intro ev ey lo st M G L xs l d hev
  unfold bz_al
  split
  · rename_i i a r
    split
    · rename_i c n rs is h
      split
      · rename_i hb
        obtain ⟨hb, hb2⟩ := bz_and hb
        obtain ⟨hb2, hb3⟩ := bz_and hb2
        obtain ⟨hb3, hb4⟩ := bz_and hb3
        rw [bz_f_eq]
        refine bz_goI rfl fun ret go hg => ?_
        have e := Nat.eq_of_beq_eq_true hb
        subst e
        refine ⟨n, rs, bz_sh h, vp_in_nI (bz_lt hb2) (bz_31 hb3), ?_⟩
        rw [bz_Vat h, nI_clamp (Nat.lt_trans (bz_lt hb2) (bz_31 hb3))]
        exact hg
      · exact bz_no
    · exact bz_no
  · exact bz_no
def bz_as (kd : Nat) (g : Nat → Nat) (nx : Nat) : bz_Op := fun _ _ lo st M => match st with
  | .inl x :: .inl i :: .inr (.inl a) :: r => (match bz_at M a with
    | some (c, n, rs, is) => (match Nat.beq c kd && (Nat.blt i n && Nat.blt n 2147483648) with
      | true => bz_f (g x) (fun y => bz_is is i y (fun is' => bz_put M a (c, n, rs, is') (fun M' => some (.inl (nx, lo, r, M')))))
      | false => none)
    | none => none)
  | _ => none
theorem bs_as {kd nx : Nat} {g : Nat → Nat} {f : Int32 → Int32} (hf : ∀ x, nI (g x) = f (nI x)) : bz_Sim (bz_as kd g nx) (aa_as kd f nx) := by
  intro ev ey lo st M G L xs l d hev
  unfold bz_as
  split
  · rename_i x i a r
    split
    · rename_i c n rs is h
      split
      · rename_i hb
        obtain ⟨hb, hb2⟩ := bz_and hb
        obtain ⟨hb2, hb3⟩ := bz_and hb2
        rw [bz_f_eq]
        obtain ⟨l', h1, h2⟩ := bz_is_eq i is (g x) (fun is' => bz_put M a (c, n, rs, is') (fun M' => some (.inl (nx, lo, r, M'))))
        rw [h1, bz_put_eq M a _ _ (bz_at_lt h)]
        refine bz_goI (bz_set_sk (c := (c, n, rs, is)) h) fun ret go hg => ?_
        show (match aa_sh (bz_sk M) a with
          | some (c, n, _) => (match Nat.beq c kd with
            | true => vp_in (nI i) n ∧ go nx (bz_lo lo) (bz_st r) (aa_up (bz_V M) a (nI i).toNatClampNeg (f (nI x)))
            | false => False)
          | none => False)
        rw [bz_sh h]
        show (match Nat.beq c kd with
            | true => vp_in (nI i) n ∧ go nx (bz_lo lo) (bz_st r) (aa_up (bz_V M) a (nI i).toNatClampNeg (f (nI x)))
            | false => False)
        rw [hb, nI_clamp (Nat.lt_trans (bz_lt hb2) (bz_31 hb3)), ← hf, ← bz_set_V (c := (c, n, rs, is)) h h2]
        exact ⟨vp_in_nI (bz_lt hb2) (bz_31 hb3), hg⟩
      · exact bz_no
    · exact bz_no
  · exact bz_no
theorem bs_ass {kd nx : Nat} {g : Nat → Nat} {f : Int32 → Int32} (hf : ∀ x, nI (g x) = f (nI x)) : bz_Sim (bz_as kd g nx) (aa_ass kd f nx) := by
  intro ev ey lo st M G L xs l d hev
  unfold bz_as
  split
  · rename_i x i a r
    split
    · rename_i c n rs is h
      split
      · rename_i hb
        obtain ⟨hb, hb2⟩ := bz_and hb
        obtain ⟨hb2, hb3⟩ := bz_and hb2
        rw [bz_f_eq]
        obtain ⟨l', h1, h2⟩ := bz_is_eq i is (g x) (fun is' => bz_put M a (c, n, rs, is') (fun M' => some (.inl (nx, lo, r, M'))))
        rw [h1, bz_put_eq M a _ _ (bz_at_lt h)]
        refine bz_goI (bz_set_sk (c := (c, n, rs, is)) h) fun ret go hg => ?_
        have e := Nat.eq_of_beq_eq_true hb
        subst e
        refine ⟨n, rs, bz_sh h, vp_in_nI (bz_lt hb2) (bz_31 hb3), ?_⟩
        rw [nI_clamp (Nat.lt_trans (bz_lt hb2) (bz_31 hb3)), ← hf, ← bz_set_V (c := (c, n, rs, is)) h h2]
        exact hg
      · exact bz_no
    · exact bz_no
  · exact bz_no
def bz_ar (kd nx : Nat) : bz_Op := fun _ _ lo st M => match st with
  | .inl i :: .inr (.inl a) :: r => (match bz_at M a with
    | some (c, n, rs, _) => (match Nat.beq c kd && (Nat.blt i n && Nat.blt n 2147483648) with
      | true => (match aa_nth rs i with
        | 0 => none
        | q + 1 => some (.inl (nx, lo, .inr (.inl q) :: r, M)))
      | false => none)
    | none => none)
  | _ => none
theorem bs_ar {kd nx : Nat} : bz_Sim (bz_ar kd nx) (aa_ar_ kd nx) := by
  intro ev ey lo st M G L xs l d hev
  unfold bz_ar
  split
  · rename_i i a r
    split
    · rename_i c n rs is h
      split
      · rename_i hb
        obtain ⟨hb, hb2⟩ := bz_and hb
        obtain ⟨hb2, hb3⟩ := bz_and hb2
        split
        · exact bz_no
        · rename_i q hq
          have e := Nat.eq_of_beq_eq_true hb
          subst e
          refine bz_goI rfl fun ret go hg => ⟨n, rs, q, bz_sh h, vp_in_nI (bz_lt hb2) (bz_31 hb3), ?_, hg⟩
          rw [nI_clamp (Nat.lt_trans (bz_lt hb2) (bz_31 hb3))]
          exact hq
      · exact bz_no
    · exact bz_no
  · exact bz_no
def bz_len (nx : Nat) : bz_Op := fun _ _ lo st M => match st with
  | .inr (.inl a) :: r => (match bz_at M a with
    | some (c, n, _, _) => (match Nat.ble 100 c with
      | true => some (.inl (nx, lo, .inl n :: r, M))
      | false => none)
    | none => none)
  | _ => none
theorem bs_lens {nx : Nat} : bz_Sim (bz_len nx) (aa_lens nx) := by
  intro ev ey lo st M G L xs l d hev
  unfold bz_len
  split
  · rename_i a r
    split
    · rename_i c n rs is h
      split
      · rename_i hb
        exact bz_goI rfl fun ret go hg => ⟨c, n, rs, bz_sh h, Nat.le_of_ble_eq_true hb, hg⟩
      · exact bz_no
    · exact bz_no
  · exact bz_no
-- String constants
def bz_gS0 (nx : Nat) : bz_Op := fun _ _ lo st M => match st with
  | .inr (.inl a) :: r => (match Nat.ble 2000000 a && Nat.blt a 2000012 with
    | true => some (.inl (nx, lo, .inl 0 :: r, M))
    | false => none)
  | _ => none
theorem bs_gS0 {nx : Nat} : bz_Sim (bz_gS0 nx) (aa_gS 0 nx) := by
  intro ev ey lo st M G L xs l d hev
  unfold bz_gS0
  split
  · rename_i a r
    split
    · rename_i hb
      have hb1 := (bz_and hb).1
      have hb2 := (bz_and hb).2
      exact bz_goI rfl fun ret go hg => ⟨Nat.le_of_ble_eq_true hb1, bz_lt hb2, hg⟩
    · exact bz_no
  · exact bz_no
def bz_gS1 (nx : Nat) : bz_Op := fun _ _ lo st M => match st with
  | .inr (.inl a) :: r => (match Nat.ble 2000000 a && Nat.blt a 2000012 with
    | true => bz_f (a - 999900) (fun q => some (.inl (nx, lo, .inr (.inl q) :: r, M)))
    | false => none)
  | _ => none
theorem bs_gS1 {nx : Nat} : bz_Sim (bz_gS1 nx) (aa_gS 1 nx) := by
  intro ev ey lo st M G L xs l d hev
  unfold bz_gS1
  split
  · rename_i a r
    split
    · rename_i hb
      have hb1 := (bz_and hb).1
      have hb2 := (bz_and hb).2
      rw [bz_f_eq]
      exact bz_goI rfl fun ret go hg => ⟨Nat.le_of_ble_eq_true hb1, bz_lt hb2, hg⟩
    · exact bz_no
  · exact bz_no
theorem bz_STj {L : Nat} {xs : Nat → Int32} {j : Nat} (hj : j < 12) : ac_ST L xs (100 + j) = (101, aa_nth ac_len j, aa_nthI (aa_nthL2 ac_byt j)) := by
  rcases (show j = 0 ∨ j = 1 ∨ j = 2 ∨ j = 3 ∨ j = 4 ∨ j = 5 ∨ j = 6 ∨ j = 7 ∨ j = 8 ∨ j = 9 ∨ j = 10 ∨ j = 11 by omega) with rfl | rfl | rfl | rfl | rfl | rfl | rfl | rfl | rfl | rfl | rfl | rfl <;> rfl
def bz_alb (nx : Nat) : bz_Op := fun _ _ lo st M => match st with
  | .inl i :: .inr (.inl a) :: r => (match Nat.ble 1000100 a && (Nat.blt a 1000112 && (Nat.blt i (aa_nth ac_len (a - 1000100)) && Nat.blt (aa_nth ac_len (a - 1000100)) 2147483648)) with
    | true => bz_f (bz_cI (aa_nthI (aa_nthL2 ac_byt (a - 1000100)) i)) (fun x => some (.inl (nx, lo, .inl x :: r, M)))
    | false => none)
  | _ => none
theorem bs_alb {nx : Nat} : bz_Sim (bz_alb nx) (aa_alb nx) := by
  intro ev ey lo st M G L xs l d hev
  unfold bz_alb
  split
  · rename_i i a r
    generalize hj : a - 1000100 = j
    split
    · rename_i hb
      have hb1 := (bz_and hb).1
      have hb0 := (bz_and hb).2
      have hb2 := (bz_and hb0).1
      have hbx := (bz_and hb0).2
      have hb3 := (bz_and hbx).1
      have hb4 := (bz_and hbx).2
      have e1 := Nat.le_of_ble_eq_true hb1
      have e2 := bz_lt hb2
      have e3 : a = 1000000 + (100 + j) := by omega
      have e4 : j < 12 := by omega
      clear hb hb0 hb1 hb2 hbx e1 e2 hj
      rw [bz_f_eq]
      refine bz_goI rfl fun ret go hg => ⟨j, e3, e4, ?_, ?_⟩
      · rw [bz_STj e4]
        exact vp_in_nI (bz_lt hb3) (bz_31 hb4)
      · rw [bz_STj e4, nI_clamp (Nat.lt_trans (bz_lt hb3) (bz_31 hb4))]
        show go nx (bz_lo lo) (.int (aa_nthI (aa_nthL2 ac_byt j) i) :: bz_st r) (bz_V M)
        rw [← bz_cI_eq (aa_nthI (aa_nthL2 ac_byt j) i)]
        exact hg
    · exact bz_no
  · exact bz_no
def bz_lenb (nx : Nat) : bz_Op := fun _ _ lo st M => match st with
  | .inr (.inl a) :: r => (match Nat.ble 1000100 a && Nat.blt a 1000112 with
    | true => bz_f (aa_nth ac_len (a - 1000100)) (fun x => some (.inl (nx, lo, .inl x :: r, M)))
    | false => none)
  | _ => none
theorem bs_lenb {nx : Nat} : bz_Sim (bz_lenb nx) (aa_lenb nx) := by
  intro ev ey lo st M G L xs l d hev
  unfold bz_lenb
  split
  · rename_i a r
    generalize hj : a - 1000100 = j
    split
    · rename_i hb
      have hb1 := (bz_and hb).1
      have hb2 := (bz_and hb).2
      have e1 := Nat.le_of_ble_eq_true hb1
      have e2 := bz_lt hb2
      have e3 : a = 1000000 + (100 + j) := by omega
      have e4 : j < 12 := by omega
      clear hb hb1 hb2 e1 e2 hj
      rw [bz_f_eq]
      refine bz_goI rfl fun ret go hg => ⟨j, e3, e4, ?_⟩
      rw [bz_STj e4]
      exact hg
    · exact bz_no
  · exact bz_no
-- calls
def bz_pp : Nat → List bz_v → List bz_v → Option (List bz_v × List bz_v)
  | 0, st, acc => some (acc, st)
  | n + 1, v :: st, acc => bz_pp n st (v :: acc)
  | _ + 1, [], _ => none
theorem bz_pp_eq : ∀ (n : Nat) (st acc as r : List bz_v), bz_pp n st acc = some (as, r) → aa_pop n (bz_st st) (bz_st acc) = some (bz_st as, bz_st r)
  | 0, st, acc, as, r, h => by
    simp only [bz_pp, Option.some.injEq, Prod.mk.injEq] at h
    obtain ⟨rfl, rfl⟩ := h
    rfl
  | n + 1, v :: st, acc, as, r, h => bz_pp_eq n st (v :: acc) as r h
  | n + 1, [], acc, as, r, h => by simp [bz_pp] at h
/-- what kind of answer: 0 none, 1 an int, 2 a reference -/
def bz_kc (kd : Nat) (r : Option bz_v) : Bool := match kd, r with
  | 0, none => true
  | 1, some (.inl _) => true
  | 2, some (.inr (.inl _)) => true
  | _, _ => false
def bz_kk (kd : Nat) (rk : aa_Kk) : Prop := ∀ (k : List Value → aa_V → Prop) (r : Option bz_v) (V : aa_V), bz_kc kd r = true → k (bz_st r.toList) V → rk k (r.map bz_tv) V
theorem bz_k0 : bz_kk 0 aa_kV := by
  intro k r V h hk
  cases r with
  | none => exact hk
  | some v => exact absurd h (by simp [bz_kc])
theorem bz_k1 : bz_kk 1 aa_kI := by
  intro k r V h hk
  rcases r with _ | n | a | u
  · exact absurd h (by simp [bz_kc])
  · exact hk
  · exact absurd h (by simp [bz_kc])
  · exact absurd h (by simp [bz_kc])
theorem bz_k2 : bz_kk 2 aa_kR := by
  intro k r V h hk
  rcases r with _ | n | a | u
  · exact absurd h (by simp [bz_kc])
  · exact absurd h (by simp [bz_kc])
  · exact hk
  · exact absurd h (by simp [bz_kc])
/-- behind a call -/
def bz_ca (kd nx : Nat) (lo : bz_L) (r : List bz_v) (S : Option bz_R) : bz_S := match S with
  | some (res, M') => (match bz_kc kd res with
    | true => (match res with
      | none => some (.inl (nx, lo, r, M'))
      | some v => some (.inl (nx, lo, v :: r, M')))
    | false => none)
  | none => none
theorem bz_ca_ok {A : aa_Op} {G : ab_G} {ST : aa_St} {l : Launch} {d : Nat} {lo : bz_L} {st : List bz_v} {M : bz_M} {ev : bz_E} {m : Nat} {as r : List bz_v} {kd nx : Nat} {rk : aa_Kk} (hev : bz_Ev G ST l d ev) (hk : bz_kk kd rk)
    (h : ∀ (ret : aa_K) (go : aa_Go), ab_E G ST l d (bz_sk M) m (bz_st as) (bz_V M) (rk (fun pre V' => go nx (bz_lo lo) (pre ++ bz_st r) V')) → A (bz_sk M) ST (ab_E G ST l d (bz_sk M)) ret (bz_lo lo) (bz_st st) (bz_V M) go) :
    bz_Go A G ST l d lo st M (bz_ca kd nx lo r (ev m as M)) := by
  cases hS : ev m as M with
  | none => exact bz_no
  | some q =>
    obtain ⟨res, M'⟩ := q
    obtain ⟨e1, e2⟩ := hev m as M M' res hS
    unfold bz_ca
    cases hc : bz_kc kd res with
    | false => simp only [hc]; exact bz_no
    | true =>
      simp only [hc]
      cases res with
      | none => exact bz_goI e1 fun ret go hg => h ret go (e2 _ (hk _ none _ hc hg))
      | some v => exact bz_goI e1 fun ret go hg => h ret go (e2 _ (hk _ (some v) _ hc hg))
def bz_ccs (m n nl kd nx : Nat) : bz_Op := fun ev _ lo st M => match bz_pp n st [] with
  | some (as, r) => (match Nat.ble r.length 8 && Nat.ble as.length nl with
    | true => bz_ca kd nx lo r (ev m as M)
    | false => none)
  | none => none
theorem bs_ccs {m n nl kd nx : Nat} {rk : aa_Kk} (hk : bz_kk kd rk) : bz_Sim (bz_ccs m n nl kd nx) (aa_ccs m n nl rk nx) := by
  intro ev ey lo st M G L xs l d hev
  unfold bz_ccs
  split
  · rename_i as r hp
    split
    · rename_i hb
      refine bz_ca_ok hev hk fun ret go hg => ?_
      have hp' : aa_pop n (bz_st st) [] = some (bz_st as, bz_st r) := bz_pp_eq n st [] as r hp
      unfold aa_ccs
      rw [hp']
      show (match Nat.ble (aa_cat (bz_st r)) 8 && Nat.ble (aa_cat (bz_st as)) nl with
        | true => ab_E G (ac_ST L xs) l d (bz_sk M) m (bz_st as) (bz_V M) (rk (fun pre V' => go nx (bz_lo lo) (pre ++ bz_st r) V'))
        | false => False)
      rw [bz_cat, bz_cat, hb]
      exact hg
    · exact bz_no
  · exact bz_no
def bz_ccv (m n nl ci kd nx : Nat) : bz_Op := fun ev _ lo st M => match bz_pp n st [] with
  | some (as, .inr (.inl b) :: r) => (match Nat.ble r.length 8 && Nat.ble (as.length + 1) nl with
    | true => (match bz_at M b with
      | some (c, _, _, _) => (match Nat.beq c ci with
        | true => bz_ca kd nx lo r (ev m (.inr (.inl b) :: as) M)
        | false => none)
      | none => none)
    | false => none)
  | _ => none
theorem bs_ccv {m n nl ci kd nx : Nat} {rk : aa_Kk} (hk : bz_kk kd rk) : bz_Sim (bz_ccv m n nl ci kd nx) (aa_ccv m n nl ci rk nx) := by
  intro ev ey lo st M G L xs l d hev
  unfold bz_ccv
  split
  · rename_i as b r hp
    split
    · rename_i hb
      split
      · rename_i c n' rs is h
        split
        · rename_i hb2
          refine bz_ca_ok hev hk fun ret go hg => ?_
          have hp' : aa_pop n (bz_st st) [] = some (bz_st as, .ref b :: bz_st r) := bz_pp_eq n st [] as _ hp
          unfold aa_ccv
          rw [hp']
          show (match Nat.ble (aa_cat (bz_st r)) 8 && Nat.ble (aa_cat (bz_st as) + 1) nl with
            | true => (match aa_sh (bz_sk M) b with
              | some (c, _, _) => (match Nat.beq c ci with
                | true => ab_E G (ac_ST L xs) l d (bz_sk M) m (.ref b :: bz_st as) (bz_V M) (rk (fun pre V' => go nx (bz_lo lo) (pre ++ bz_st r) V'))
                | false => False)
              | none => False)
            | false => False)
          rw [bz_cat, bz_cat, hb]
          show (match aa_sh (bz_sk M) b with
              | some (c, _, _) => (match Nat.beq c ci with
                | true => ab_E G (ac_ST L xs) l d (bz_sk M) m (.ref b :: bz_st as) (bz_V M) (rk (fun pre V' => go nx (bz_lo lo) (pre ++ bz_st r) V'))
                | false => False)
              | none => False)
          rw [bz_sh h]
          show (match Nat.beq c ci with
                | true => ab_E G (ac_ST L xs) l d (bz_sk M) m (.ref b :: bz_st as) (bz_V M) (rk (fun pre V' => go nx (bz_lo lo) (pre ++ bz_st r) V'))
                | false => False)
          rw [hb2]
          exact hg
        · exact bz_no
      · exact bz_no
    · exact bz_no
  · exact bz_no
theorem bs_ccu {m n nl ci kd nx : Nat} {rk : aa_Kk} (hk : bz_kk kd rk) : bz_Sim (bz_ccv m n nl ci kd nx) (aa_ccu m n nl ci rk nx) := by
  intro ev ey lo st M G L xs l d hev
  unfold bz_ccv
  split
  · rename_i as b r hp
    split
    · rename_i hb
      split
      · rename_i c n' rs is h
        split
        · rename_i hb2
          refine bz_ca_ok hev hk fun ret go hg => ?_
          have hp' : aa_pop n (bz_st st) [] = some (bz_st as, .ref b :: bz_st r) := bz_pp_eq n st [] as _ hp
          unfold aa_ccu
          rw [hp']
          show (match Nat.ble (aa_cat (bz_st r)) 8 && Nat.ble (aa_cat (bz_st as) + 1) nl with
            | true => aa_is (bz_sk M) b ci ∧ ab_E G (ac_ST L xs) l d (bz_sk M) m (.ref b :: bz_st as) (bz_V M) (rk (fun pre V' => go nx (bz_lo lo) (pre ++ bz_st r) V'))
            | false => False)
          rw [bz_cat, bz_cat, hb]
          have e := Nat.eq_of_beq_eq_true hb2
          subst e
          exact ⟨⟨n', rs, bz_sh h⟩, hg⟩
        · exact bz_no
      · exact bz_no
    · exact bz_no
  · exact bz_no
def bz_ccS (m n nl kd nx : Nat) : bz_Op := fun ev _ lo st M => match bz_pp n st [] with
  | some (as, .inr (.inl b) :: r) => (match (Nat.ble r.length 8 && Nat.ble (as.length + 1) nl) && (Nat.ble 2000000 b && Nat.blt b 2000012) with
    | true => bz_ca kd nx lo r (ev m (.inr (.inl b) :: as) M)
    | false => none)
  | _ => none
theorem bs_ccS {m n nl kd nx : Nat} {rk : aa_Kk} (hk : bz_kk kd rk) : bz_Sim (bz_ccS m n nl kd nx) (aa_ccS m n nl rk nx) := by
  intro ev ey lo st M G L xs l d hev
  unfold bz_ccS
  split
  · rename_i as b r hp
    split
    · rename_i hb
      obtain ⟨hb, hb2⟩ := bz_and hb
      obtain ⟨hb2, hb3⟩ := bz_and hb2
      refine bz_ca_ok hev hk fun ret go hg => ?_
      have hp' : aa_pop n (bz_st st) [] = some (bz_st as, .ref b :: bz_st r) := bz_pp_eq n st [] as _ hp
      unfold aa_ccS
      rw [hp']
      show (match Nat.ble (aa_cat (bz_st r)) 8 && Nat.ble (aa_cat (bz_st as) + 1) nl with
        | true => 2000000 ≤ b ∧ b < 2000012 ∧ ab_E G (ac_ST L xs) l d (bz_sk M) m (.ref b :: bz_st as) (bz_V M) (rk (fun pre V' => go nx (bz_lo lo) (pre ++ bz_st r) V'))
        | false => False)
      rw [bz_cat, bz_cat, hb]
      exact ⟨Nat.le_of_ble_eq_true hb2, bz_lt hb3, hg⟩
    · exact bz_no
  · exact bz_no
-- ends
def bz_reti : bz_Op := fun _ _ _ st M => match st with
  | [.inl x] => some (.inr (some (.inl x), M))
  | _ => none
theorem bs_reti : bz_Sim bz_reti aa_reti := by
  intro ev ey lo st M G L xs l d hev
  unfold bz_reti
  split
  · exact bz_reI fun ret go hg => hg
  · exact bz_no
def bz_reta : bz_Op := fun _ _ _ st M => match st with
  | [.inr (.inl x)] => some (.inr (some (.inr (.inl x)), M))
  | _ => none
theorem bs_reta : bz_Sim bz_reta aa_reta := by
  intro ev ey lo st M G L xs l d hev
  unfold bz_reta
  split
  · exact bz_reI fun ret go hg => hg
  · exact bz_no
def bz_retv : bz_Op := fun _ _ _ st M => match st with
  | [] => some (.inr (none, M))
  | _ => none
theorem bs_retv : bz_Sim bz_retv aa_retv := by
  intro ev ey lo st M G L xs l d hev
  unfold bz_retv
  split
  · exact bz_reI fun ret go hg => hg
  · exact bz_no
def bz_retb (b : Nat) : bz_Op := fun _ _ _ st M => match st with
  | [.inl x] => (match Nat.blt x b with
    | true => some (.inr (some (.inl x), M))
    | false => none)
  | _ => none
theorem bs_retz : bz_Sim (bz_retb 2) aa_retz := by
  intro ev ey lo st M G L xs l d hev
  unfold bz_retb
  split
  · rename_i x
    split
    · rename_i hb
      have h := bz_lt hb
      refine bz_reI fun ret go hg => ⟨?_, hg⟩
      rcases (show x = 0 ∨ x = 1 by omega) with rfl | rfl
      · exact Or.inl rfl
      · exact Or.inr rfl
    · exact bz_no
  · exact bz_no
theorem bs_retn {b : Nat} {ty : FieldType} (h : ∀ x, x < b → narrow ty (.int (nI x)) = .int (nI x)) : bz_Sim (bz_retb b) (aa_retn ty) := by
  intro ev ey lo st M G L xs l d hev
  unfold bz_retb
  split
  · rename_i x
    split
    · rename_i hb
      exact bz_reI fun ret go hg => ⟨h x (bz_lt hb), hg⟩
    · exact bz_no
  · exact bz_no
