/-! a machine that computes over memories that are written out: for the constructors -/
abbrev bz_v : Type := Nat ⊕ (Nat ⊕ Unit)
def bz_tv : bz_v → Value
  | .inl n => .int (nI n)
  | .inr (.inl a) => .ref a
  | .inr (.inr _) => .float 0
abbrev bz_L : Type := List (Option bz_v)
def bz_lo (l : bz_L) : aa_Lo := l.map (Option.map bz_tv)
abbrev bz_st (l : List bz_v) : List Value := l.map bz_tv
abbrev bz_c : Type := Nat × Nat × List Nat × List Nat
abbrev bz_M : Type := List bz_c
def bz_sk (M : bz_M) : aa_Sk := M.map (fun c => (c.1, c.2.1, c.2.2.1))
def bz_at : bz_M → Nat → Option bz_c
  | [], _ => none
  | c :: _, 0 => some c
  | _ :: t, n + 1 => bz_at t n
def bz_V (M : bz_M) : aa_V := fun a k => match M[a]? with
  | some c => nI (aa_nth c.2.2.2 k)
  | none => 0
abbrev bz_Q : Type := Nat × bz_L × List bz_v × bz_M
abbrev bz_R : Type := Option bz_v × bz_M
abbrev bz_S : Type := Option (bz_Q ⊕ bz_R)
abbrev bz_E : Type := Nat → List bz_v → bz_M → Option bz_R
abbrev bz_Op : Type := bz_E → bz_E → bz_L → List bz_v → bz_M → bz_S
/-- a number, worked out before it is handed on -/
def bz_f (n : Nat) (k : Nat → bz_S) : bz_S := match n with
  | 0 => k 0
  | m + 1 => k (Nat.succ m)
theorem bz_f_eq (n : Nat) (k : Nat → bz_S) : bz_f n k = k n := by cases n <;> rfl
def bz_lg : bz_L → Nat → Option bz_v
  | [], _ => none
  | x :: _, 0 => x
  | _ :: t, n + 1 => bz_lg t n
theorem bz_lg_eq : ∀ (l : bz_L) (i : Nat), aa_lg (bz_lo l) i = (bz_lg l i).map bz_tv
  | [], i => by cases i <;> rfl
  | x :: t, 0 => rfl
  | x :: t, n + 1 => bz_lg_eq t n
def bz_ls : bz_L → Nat → bz_v → (bz_L → bz_S) → bz_S
  | [], _, _, k => k []
  | _ :: t, 0, v, k => k (some v :: t)
  | x :: t, n + 1, v, k => bz_ls t n v (fun t' => k (x :: t'))
theorem bz_kill (x : Option bz_v) : aa_kill (x.map bz_tv) = x.map bz_tv := by
  rcases x with _ | n | a | u <;> rfl
theorem bz_ls_eq : ∀ (l : bz_L) (i : Nat) (v : bz_v) (k : bz_L → bz_S), ∃ l', bz_ls l i v k = k l' ∧ bz_lo l' = aa_ls (bz_lo l) i (bz_tv v)
  | [], i, v, k => ⟨[], by cases i <;> rfl, by cases i <;> rfl⟩
  | x :: t, 0, v, k => ⟨some v :: t, rfl, rfl⟩
  | x :: t, 1, v, k => by
    obtain ⟨l', h1, h2⟩ := bz_ls_eq t 0 v (fun t' => k (x :: t'))
    refine ⟨x :: l', h1, ?_⟩
    show x.map bz_tv :: bz_lo l' = aa_kill (x.map bz_tv) :: aa_ls (bz_lo t) 0 (bz_tv v)
    rw [h2, bz_kill]
  | x :: t, n + 2, v, k => by
    obtain ⟨l', h1, h2⟩ := bz_ls_eq t (n + 1) v (fun t' => k (x :: t'))
    refine ⟨x :: l', h1, ?_⟩
    show x.map bz_tv :: bz_lo l' = x.map bz_tv :: aa_ls (bz_lo t) (n + 1) (bz_tv v)
    rw [h2]
def bz_put : bz_M → Nat → bz_c → (bz_M → bz_S) → bz_S
  | [], _, _, _ => none
  | _ :: t, 0, c, k => k (c :: t)
  | x :: t, n + 1, c, k => bz_put t n c (fun t' => k (x :: t'))
theorem bz_put_eq : ∀ (M : bz_M) (a : Nat) (c : bz_c) (k : bz_M → bz_S), a < M.length → bz_put M a c k = k (M.set a c)
  | [], a, c, k, h => absurd h (Nat.not_lt_zero _)
  | x :: t, 0, c, k, h => rfl
  | x :: t, n + 1, c, k, h => bz_put_eq t n c (fun t' => k (x :: t')) (Nat.lt_of_succ_lt_succ h)
theorem bz_at_eq : ∀ (M : bz_M) (a : Nat), bz_at M a = M[a]?
  | [], a => by simp [bz_at]
  | x :: t, 0 => by simp [bz_at]
  | x :: t, n + 1 => by simp [bz_at, bz_at_eq t n]
theorem bz_at_lt {M : bz_M} {a : Nat} {c : bz_c} (h : bz_at M a = some c) : a < M.length := by
  rw [bz_at_eq] at h
  exact (List.getElem?_eq_some_iff.mp h).1
theorem bz_sh {M : bz_M} {a : Nat} {c : bz_c} (h : bz_at M a = some c) : aa_sh (bz_sk M) a = some (c.1, c.2.1, c.2.2.1) := by
  rw [bz_at_eq] at h
  rw [aa_sh_eq]
  unfold bz_sk
  rw [List.getElem?_map, h]
  rfl
theorem bz_Vat {M : bz_M} {a : Nat} {c : bz_c} (h : bz_at M a = some c) : bz_V M a = fun k => nI (aa_nth c.2.2.2 k) := by
  rw [bz_at_eq] at h
  funext k
  unfold bz_V
  simp only [h]
/-- a row's ints, one of them anew -/
def bz_is : List Nat → Nat → Nat → (List Nat → bz_S) → bz_S
  | [], 0, x, k => k [x]
  | [], n + 1, x, k => bz_is [] n x (fun t => k (0 :: t))
  | _ :: t, 0, x, k => k (x :: t)
  | y :: t, n + 1, x, k => bz_is t n x (fun t' => k (y :: t'))
theorem bz_is_eq : ∀ (n : Nat) (l : List Nat) (x : Nat) (k : List Nat → bz_S), ∃ l', bz_is l n x k = k l' ∧ ∀ j, aa_nth l' j = if j = n then x else aa_nth l j
  | 0, [], x, k => ⟨[x], rfl, fun j => by cases j <;> simp [aa_nth]⟩
  | 0, y :: t, x, k => ⟨x :: t, rfl, fun j => by cases j <;> simp [aa_nth]⟩
  | n + 1, [], x, k => by
    obtain ⟨l', h1, h2⟩ := bz_is_eq n [] x (fun t => k (0 :: t))
    refine ⟨0 :: l', h1, fun j => ?_⟩
    cases j with
    | zero => simp [aa_nth]
    | succ j => simp [aa_nth, h2]
  | n + 1, y :: t, x, k => by
    obtain ⟨l', h1, h2⟩ := bz_is_eq n t x (fun t' => k (y :: t'))
    refine ⟨y :: l', h1, fun j => ?_⟩
    cases j with
    | zero => simp [aa_nth]
    | succ j => simp [aa_nth, h2]
theorem bz_set_sk {M : bz_M} {a : Nat} {c : bz_c} {is : List Nat} (h : bz_at M a = some c) : bz_sk (M.set a (c.1, c.2.1, c.2.2.1, is)) = bz_sk M := by
  rw [bz_at_eq] at h
  unfold bz_sk
  apply List.ext_getElem?
  intro k
  rw [List.getElem?_map, List.getElem?_map, List.getElem?_set]
  by_cases q : a = k
  · subst q
    rw [if_pos rfl, if_pos (List.getElem?_eq_some_iff.mp h).1, h]
    rfl
  · rw [if_neg q]
theorem bz_set_V {M : bz_M} {a n x : Nat} {c : bz_c} {is : List Nat} (h : bz_at M a = some c) (hi : ∀ j, aa_nth is j = if j = n then x else aa_nth c.2.2.2 j) : bz_V (M.set a (c.1, c.2.1, c.2.2.1, is)) = aa_up (bz_V M) a n (nI x) := by
  have hl := bz_at_lt h
  have hv := bz_Vat h
  funext b k
  unfold aa_up
  by_cases q : b = a
  · subst q
    rw [if_pos rfl, hv]
    unfold bz_V upd
    rw [List.getElem?_set, if_pos rfl, if_pos hl]
    show nI (aa_nth is k) = _
    rw [hi]
    by_cases e : k = n
    · rw [if_pos e, if_pos e]
    · rw [if_neg e, if_neg e]
  · rw [if_neg q]
    unfold bz_V
    rw [List.getElem?_set, if_neg (fun z => q z.symm)]
theorem bz_tb (n : Nat) : (nI n).toBitVec = BitVec.ofNat 32 n := rfl
/-- a number of 32 bits as a natural number -/
def bz_cI (x : Int32) : Nat := x.toBitVec.toNat
theorem bz_cI_eq (x : Int32) : nI (bz_cI x) = x := by
  apply Int32.toBitVec_inj.mp
  rw [bz_tb]
  apply BitVec.eq_of_toNat_eq
  rw [BitVec.toNat_ofNat]
  exact Nat.mod_eq_of_lt x.toBitVec.isLt
-- what a step is worth
def bz_Ev (G : ab_G) (ST : aa_St) (l : Launch) (d : Nat) (ev : bz_E) : Prop := ∀ (m : Nat) (as : List bz_v) (M M' : bz_M) (r : Option bz_v), ev m as M = some (r, M') → bz_sk M' = bz_sk M ∧ ∀ K : aa_K, K (r.map bz_tv) (bz_V M') → ab_E G ST l d (bz_sk M) m (bz_st as) (bz_V M) K
def bz_Go (A : aa_Op) (G : ab_G) (ST : aa_St) (l : Launch) (d : Nat) (lo : bz_L) (st : List bz_v) (M : bz_M) (S : bz_S) : Prop := match S with
  | none => True
  | some (.inl (pc', lo', st', M')) => bz_sk M' = bz_sk M ∧ ∀ (ret : aa_K) (go : aa_Go), go pc' (bz_lo lo') (bz_st st') (bz_V M') → A (bz_sk M) ST (ab_E G ST l d (bz_sk M)) ret (bz_lo lo) (bz_st st) (bz_V M) go
  | some (.inr (r, M')) => M' = M ∧ ∀ (ret : aa_K) (go : aa_Go), ret (r.map bz_tv) (bz_V M) → A (bz_sk M) ST (ab_E G ST l d (bz_sk M)) ret (bz_lo lo) (bz_st st) (bz_V M) go
def bz_Sim (b : bz_Op) (A : aa_Op) : Prop := ∀ (ev ey : bz_E) (lo : bz_L) (st : List bz_v) (M : bz_M) (G : ab_G) (L : Nat) (xs : Nat → Int32) (l : Launch) (d : Nat), bz_Ev G (ac_ST L xs) l d ev → bz_Go A G (ac_ST L xs) l d lo st M (b ev ey lo st M)
section
variable {A : aa_Op} {G : ab_G} {ST : aa_St} {l : Launch} {d : Nat} {lo : bz_L} {st : List bz_v} {M : bz_M}
theorem bz_no : bz_Go A G ST l d lo st M none := True.intro
theorem bz_goI {pc' : Nat} {lo' : bz_L} {st' : List bz_v} {M' : bz_M} (h1 : bz_sk M' = bz_sk M) (h2 : ∀ (ret : aa_K) (go : aa_Go), go pc' (bz_lo lo') (bz_st st') (bz_V M') → A (bz_sk M) ST (ab_E G ST l d (bz_sk M)) ret (bz_lo lo) (bz_st st) (bz_V M) go) : bz_Go A G ST l d lo st M (some (.inl (pc', lo', st', M'))) := ⟨h1, h2⟩
theorem bz_reI {r : Option bz_v} (h2 : ∀ (ret : aa_K) (go : aa_Go), ret (r.map bz_tv) (bz_V M) → A (bz_sk M) ST (ab_E G ST l d (bz_sk M)) ret (bz_lo lo) (bz_st st) (bz_V M) go) : bz_Go A G ST l d lo st M (some (.inr (r, M))) := ⟨rfl, h2⟩
end
-- locals and constants
def bz_ldi (i nx : Nat) : bz_Op := fun _ _ lo st M => match bz_lg lo i with
  | some (.inl n) => some (.inl (nx, lo, .inl n :: st, M))
  | _ => none
theorem bs_ldi {i nx : Nat} : bz_Sim (bz_ldi i nx) (aa_ldi i nx) := by
  intro ev ey lo st M G L xs l d hev
  unfold bz_ldi
  split
  · rename_i n h
    refine bz_goI rfl fun ret go hg => ?_
    unfold aa_ldi
    rw [bz_lg_eq, h]
    exact hg
  · exact bz_no
def bz_lda (i nx : Nat) : bz_Op := fun _ _ lo st M => match bz_lg lo i with
  | some (.inr (.inl n)) => some (.inl (nx, lo, .inr (.inl n) :: st, M))
  | _ => none
theorem bs_lda {i nx : Nat} : bz_Sim (bz_lda i nx) (aa_lda i nx) := by
  intro ev ey lo st M G L xs l d hev
  unfold bz_lda
  split
  · rename_i n h
    refine bz_goI rfl fun ret go hg => ?_
    unfold aa_lda
    rw [bz_lg_eq, h]
    exact hg
  · exact bz_no
def bz_sti (i nx : Nat) : bz_Op := fun _ _ lo st M => match st with
  | .inl n :: r => bz_ls lo i (.inl n) (fun lo' => some (.inl (nx, lo', r, M)))
  | _ => none
theorem bs_sti {i nx : Nat} : bz_Sim (bz_sti i nx) (aa_sti i nx) := by
  intro ev ey lo st M G L xs l d hev
  unfold bz_sti
  split
  · rename_i n r
    obtain ⟨l', h1, h2⟩ := bz_ls_eq lo i (.inl n) (fun lo' => some (.inl (nx, lo', r, M)))
    rw [h1]
    refine bz_goI rfl fun ret go hg => ?_
    rw [h2] at hg
    exact hg
  · exact bz_no
def bz_sta (i nx : Nat) : bz_Op := fun _ _ lo st M => match st with
  | .inr (.inl n) :: r => bz_ls lo i (.inr (.inl n)) (fun lo' => some (.inl (nx, lo', r, M)))
  | _ => none
theorem bs_sta {i nx : Nat} : bz_Sim (bz_sta i nx) (aa_sta i nx) := by
  intro ev ey lo st M G L xs l d hev
  unfold bz_sta
  split
  · rename_i n r
    obtain ⟨l', h1, h2⟩ := bz_ls_eq lo i (.inr (.inl n)) (fun lo' => some (.inl (nx, lo', r, M)))
    rw [h1]
    refine bz_goI rfl fun ret go hg => ?_
    rw [h2] at hg
    exact hg
  · exact bz_no
def bz_pu (v : bz_v) (nx : Nat) : bz_Op := fun _ _ lo st M => some (.inl (nx, lo, v :: st, M))
theorem bs_pu {v : bz_v} {w : Value} {nx : Nat} (h : bz_tv v = w) : bz_Sim (bz_pu v nx) (aa_pu w nx) := by
  intro ev ey lo st M G L xs l d hev
  subst h
  exact bz_goI rfl fun ret go hg => hg
def bz_inc (i z nx : Nat) : bz_Op := fun _ _ lo st M => match bz_lg lo i with
  | some (.inl n) => bz_f ((n + z) % 4294967296) (fun x => bz_ls lo i (.inl x) (fun lo' => some (.inl (nx, lo', st, M))))
  | _ => none
theorem bz_mod (n : Nat) : nI (n % 4294967296) = nI n := by
  apply Int32.toBitVec_inj.mp
  rw [bz_tb, bz_tb]
  apply BitVec.eq_of_toNat_eq
  rw [BitVec.toNat_ofNat, BitVec.toNat_ofNat]
  exact Nat.mod_mod _ _
theorem bs_inc {i z nx : Nat} {w : Int32} (hw : nI z = w) : bz_Sim (bz_inc i z nx) (aa_inc i w nx) := by
  intro ev ey lo st M G L xs l d hev
  subst hw
  unfold bz_inc
  split
  · rename_i n h
    rw [bz_f_eq]
    obtain ⟨l', h1, h2⟩ := bz_ls_eq lo i (.inl ((n + z) % 4294967296)) (fun lo' => some (.inl (nx, lo', st, M)))
    rw [h1]
    refine bz_goI rfl fun ret go hg => ?_
    rw [h2] at hg
    unfold aa_inc
    rw [bz_lg_eq, h]
    show go nx (aa_ls (bz_lo lo) i (.int (nI n + nI z))) _ _
    rw [nI_add, ← bz_mod]
    exact hg
  · exact bz_no
-- numbers
def bz_bin (g : Nat → Nat → Nat) (nx : Nat) : bz_Op := fun _ _ lo st M => match st with
  | .inl y :: .inl x :: r => bz_f (g x y) (fun z => some (.inl (nx, lo, .inl z :: r, M)))
  | _ => none
theorem bs_bin {g : Nat → Nat → Nat} {f : Int32 → Int32 → Int32} {nx : Nat} (h : ∀ x y, nI (g x y) = f (nI x) (nI y)) : bz_Sim (bz_bin g nx) (aa_bin f nx) := by
  intro ev ey lo st M G L xs l d hev
  unfold bz_bin
  split
  · rename_i y x r
    rw [bz_f_eq]
    refine bz_goI rfl fun ret go hg => ?_
    show go nx (bz_lo lo) (.int (f (nI x) (nI y)) :: bz_st r) (bz_V M)
    rw [← h]
    exact hg
  · exact bz_no
def bz_mm (g : Nat → Nat → Nat) (nx : Nat) : bz_Op := fun _ _ lo st M => match st with
  | .inl y :: .inl x :: r => (match Nat.ble r.length 8 with
    | true => bz_f (g x y) (fun z => some (.inl (nx, lo, .inl z :: r, M)))
    | false => none)
  | _ => none
theorem bz_cat : ∀ (r : List bz_v), aa_cat (bz_st r) = r.length
  | [] => rfl
  | x :: t => by
    have ih := bz_cat t
    rcases x with n | a | u <;> (show aa_cat (bz_st t) + 1 = t.length + 1; rw [ih])
theorem bs_mm {g : Nat → Nat → Nat} {f : Int32 → Int32 → Int32} {nx : Nat} (h : ∀ x y, nI (g x y) = f (nI x) (nI y)) : bz_Sim (bz_mm g nx) (aa_mm f nx) := by
  intro ev ey lo st M G L xs l d hev
  unfold bz_mm
  split
  · rename_i y x r
    split
    · rename_i hb
      rw [bz_f_eq]
      refine bz_goI rfl fun ret go hg => ?_
      show (match Nat.ble (aa_cat (bz_st r)) 8 with
        | true => go nx (bz_lo lo) (.int (f (nI x) (nI y)) :: bz_st r) (bz_V M)
        | false => False)
      rw [bz_cat, hb, ← h]
      exact hg
    · exact bz_no
  · exact bz_no
def bz_un (g : Nat → Nat) (nx : Nat) : bz_Op := fun _ _ lo st M => match st with
  | .inl x :: r => bz_f (g x) (fun z => some (.inl (nx, lo, .inl z :: r, M)))
  | _ => none
theorem bs_un {g : Nat → Nat} {f : Int32 → Int32} {nx : Nat} (h : ∀ x, nI (g x) = f (nI x)) : bz_Sim (bz_un g nx) (aa_un f nx) := by
  intro ev ey lo st M G L xs l d hev
  unfold bz_un
  split
  · rename_i x r
    rw [bz_f_eq]
    refine bz_goI rfl fun ret go hg => ?_
    show go nx (bz_lo lo) (.int (f (nI x)) :: bz_st r) (bz_V M)
    rw [← h]
    exact hg
  · exact bz_no
def bz_icmp (g : Nat → Nat → Bool) (tg nx : Nat) : bz_Op := fun _ _ lo st M => match st with
  | .inl y :: .inl x :: r => (match g x y with
    | true => some (.inl (tg, lo, r, M))
    | false => some (.inl (nx, lo, r, M)))
  | _ => none
theorem bs_icmp {g : Nat → Nat → Bool} {c : Int32 → Int32 → Prop} {tg nx : Nat} (h : ∀ x y, g x y = true ↔ c (nI x) (nI y)) : bz_Sim (bz_icmp g tg nx) (aa_icmp c tg nx) := by
  intro ev ey lo st M G L xs l d hev
  unfold bz_icmp
  split
  · rename_i y x r
    split
    · rename_i hb
      exact bz_goI rfl fun ret go hg => ⟨fun _ => hg, fun q => absurd ((h x y).mp hb) q⟩
    · rename_i hb
      exact bz_goI rfl fun ret go hg => ⟨fun q => absurd ((h x y).mpr q) (by rw [hb]; exact Bool.false_ne_true), fun _ => hg⟩
  · exact bz_no
def bz_if (g : Nat → Bool) (tg nx : Nat) : bz_Op := fun _ _ lo st M => match st with
  | .inl x :: r => (match g x with
    | true => some (.inl (tg, lo, r, M))
    | false => some (.inl (nx, lo, r, M)))
  | _ => none
theorem bs_if {g : Nat → Bool} {c : Int32 → Prop} {tg nx : Nat} (h : ∀ x, g x = true ↔ c (nI x)) : bz_Sim (bz_if g tg nx) (aa_if c tg nx) := by
  intro ev ey lo st M G L xs l d hev
  unfold bz_if
  split
  · rename_i x r
    split
    · rename_i hb
      exact bz_goI rfl fun ret go hg => ⟨fun _ => hg, fun q => absurd ((h x).mp hb) q⟩
    · rename_i hb
      exact bz_goI rfl fun ret go hg => ⟨fun q => absurd ((h x).mpr q) (by rw [hb]; exact Bool.false_ne_true), fun _ => hg⟩
  · exact bz_no
def bz_go (tg : Nat) : bz_Op := fun _ _ lo st M => some (.inl (tg, lo, st, M))
theorem bs_go {tg : Nat} : bz_Sim (bz_go tg) (aa_go tg) := fun ev ey lo st M G L xs l d hev => bz_goI rfl fun ret go hg => hg
def bz_cs (dt x : Nat) : List (Nat × Nat) → Nat
  | [] => dt
  | (v, t) :: r => (match Nat.beq x v with
    | true => t
    | false => bz_cs dt x r)
def bz_sw (dt : Nat) (ps : List (Nat × Nat)) : bz_Op := fun _ _ lo st M => match st with
  | .inl x :: r => (match Nat.blt x 2147483648 with
    | true => some (.inl (bz_cs dt x ps, lo, r, M))
    | false => none)
  | _ => none
theorem bz_cs_eq {dt x : Nat} {lo : aa_Lo} {st : List Value} {V : aa_V} {go : aa_Go} (hx : x < 2147483648) : ∀ (ps : List (Nat × Nat)), (∀ q ∈ ps, q.1 < 2147483648) → go (bz_cs dt x ps) lo st V → aa_cs dt (nI x) lo st V go (ps.map (fun q => (nI q.1, q.2)))
  | [], hp, hg => hg
  | (v, t) :: r, hp, hg => by
    have hv : v < 2147483648 := hp (v, t) List.mem_cons_self
    have ih := bz_cs_eq (dt := dt) (lo := lo) (st := st) (V := V) (go := go) hx r (fun q hq => hp q (List.mem_cons_of_mem _ hq))
    show (nI x = nI v → go t lo st V) ∧ (¬ nI x = nI v → aa_cs dt (nI x) lo st V go (r.map (fun q => (nI q.1, q.2))))
    rw [nI_eq (show x < 2 ^ 31 from hx) (show v < 2 ^ 31 from hv)]
    simp only [bz_cs] at hg
    cases hb : Nat.beq x v with
    | true =>
      rw [hb] at hg
      exact ⟨fun _ => hg, fun q => absurd (Nat.eq_of_beq_eq_true hb) q⟩
    | false =>
      rw [hb] at hg
      exact ⟨fun q => absurd q (Nat.ne_of_beq_eq_false hb), fun _ => ih hg⟩
theorem bs_sw {dt : Nat} {ps : List (Nat × Nat)} {qs : List (Int32 × Nat)} (hq : ps.map (fun q => (nI q.1, q.2)) = qs) (hp : ∀ q ∈ ps, q.1 < 2147483648) : bz_Sim (bz_sw dt ps) (aa_sw dt qs) := by
  intro ev ey lo st M G L xs l d hev
  subst hq
  unfold bz_sw
  split
  · rename_i x r
    split
    · rename_i hb
      refine bz_goI rfl fun ret go hg => ?_
      exact bz_cs_eq (Nat.lt_of_succ_le (Nat.le_of_ble_eq_true hb)) ps hp hg
    · exact bz_no
  · exact bz_no
-- the stack
def bz_dup (nx : Nat) : bz_Op := fun _ _ lo st M => match st with
  | .inl x :: r => some (.inl (nx, lo, .inl x :: .inl x :: r, M))
  | .inr (.inl x) :: r => some (.inl (nx, lo, .inr (.inl x) :: .inr (.inl x) :: r, M))
  | _ => none
theorem bs_dup {nx : Nat} : bz_Sim (bz_dup nx) (aa_dup nx) := by
  intro ev ey lo st M G L xs l d hev
  unfold bz_dup
  split
  · exact bz_goI rfl fun ret go hg => hg
  · exact bz_goI rfl fun ret go hg => hg
  · exact bz_no
def bz_pop (nx : Nat) : bz_Op := fun _ _ lo st M => match st with
  | .inl _ :: r => some (.inl (nx, lo, r, M))
  | .inr (.inl _) :: r => some (.inl (nx, lo, r, M))
  | _ => none
theorem bs_pop {nx : Nat} : bz_Sim (bz_pop nx) (aa_popo nx) := by
  intro ev ey lo st M G L xs l d hev
  unfold bz_pop
  split
  · exact bz_goI rfl fun ret go hg => hg
  · exact bz_goI rfl fun ret go hg => hg
  · exact bz_no
