/-! THE MACHINE: each instruction as a transformer of what is wanted behind it, over an abstract memory.
A cell is a number k (its address is base + k); sk says of each cell its kind, its size, the cells that it names (a number: 0 nothing, q + 1 the cell q);
V says of each cell what ints it holds. Kinds below 100: objects of that class; 100 int rows, 101 byte rows, 102 rows of Text, 103 rows of int rows.
References from 1000000 on are rows that nobody writes (ST), those from 2000000 on are String constants. -/
abbrev aa_V : Type := Nat → Nat → Int32
abbrev aa_Ce : Type := Nat × Nat × List Nat
abbrev aa_Sk : Type := List aa_Ce
abbrev aa_Lo : Type := List (Option Value)
abbrev aa_K : Type := Option Value → aa_V → Prop
abbrev aa_Go : Type := Nat → aa_Lo → List Value → aa_V → Prop
abbrev aa_Ev : Type := Nat → List Value → aa_V → aa_K → Prop
abbrev aa_St : Type := Nat → Nat × Nat × (Nat → Int32)
abbrev aa_Op : Type := aa_Sk → aa_St → aa_Ev → aa_K → aa_Lo → List Value → aa_V → aa_Go → Prop
def aa_nth : List Nat → Nat → Nat
  | [], _ => 0
  | x :: _, 0 => x
  | _ :: t, n + 1 => aa_nth t n
def aa_sh : aa_Sk → Nat → Option aa_Ce
  | [], _ => none
  | x :: _, 0 => some x
  | _ :: t, n + 1 => aa_sh t n
/-- a store into a cell -/
def aa_up (V : aa_V) (a k : Nat) (x : Int32) : aa_V := fun b => if b = a then upd (V a) k x else V b
/-- a whole row anew -/
def aa_row (V : aa_V) (a : Nat) (f : Nat → Int32) : aa_V := fun b => if b = a then f else V b
def aa_lg : aa_Lo → Nat → Option Value
  | [], _ => none
  | x :: _, 0 => x
  | _ :: t, n + 1 => aa_lg t n
def aa_kill : Option Value → Option Value
  | some (.long _) => none
  | some (.double _) => none
  | x => x
def aa_ls : aa_Lo → Nat → Value → aa_Lo
  | [], _, _ => []
  | _ :: t, 0, v => some v :: t
  | x :: t, 1, v => aa_kill x :: aa_ls t 0 v
  | x :: t, n + 2, v => x :: aa_ls t (n + 1) v
def aa_ls2 : aa_Lo → Nat → Value → aa_Lo
  | [], _, _ => []
  | _ :: [], 0, v => [some v]
  | _ :: _ :: t, 0, v => some v :: none :: t
  | x :: t, 1, v => aa_kill x :: aa_ls2 t 0 v
  | x :: t, n + 2, v => x :: aa_ls2 t (n + 1) v
def aa_pop : Nat → List Value → List Value → Option (List Value × List Value)
  | 0, st, acc => some (acc, st)
  | n + 1, v :: st, acc => aa_pop n st (v :: acc)
  | _ + 1, [], _ => none
def aa_cat : List Value → Nat
  | [] => 0
  | .long _ :: t => aa_cat t + 2
  | .double _ :: t => aa_cat t + 2
  | _ :: t => aa_cat t + 1
/-- a call's start: the arguments in the locals -/
def aa_ar : List Value → aa_Lo
  | [] => []
  | .long x :: t => some (.long x) :: none :: aa_ar t
  | .double x :: t => some (.double x) :: none :: aa_ar t
  | v :: t => some v :: aa_ar t
def aa_pad : Nat → aa_Lo → aa_Lo
  | 0, l => l
  | n + 1, [] => none :: aa_pad n []
  | n + 1, x :: t => x :: aa_pad n t
-- what a call gives back
def aa_rI (k : Int32 → aa_V → Prop) : aa_K := fun r V => match r with
  | some (.int x) => k x V
  | _ => False
def aa_rL (k : Int64 → aa_V → Prop) : aa_K := fun r V => match r with
  | some (.long x) => k x V
  | _ => False
def aa_rR (k : Nat → aa_V → Prop) : aa_K := fun r V => match r with
  | some (.ref x) => k x V
  | _ => False
def aa_rV (k : aa_V → Prop) : aa_K := fun r V => match r with
  | none => k V
  | _ => False
def aa_kI (k : List Value → aa_V → Prop) : aa_K := aa_rI (fun x V => k [.int x] V)
def aa_kL (k : List Value → aa_V → Prop) : aa_K := aa_rL (fun x V => k [.long x] V)
def aa_kR (k : List Value → aa_V → Prop) : aa_K := aa_rR (fun x V => k [.ref x] V)
def aa_kV (k : List Value → aa_V → Prop) : aa_K := aa_rV (fun V => k [] V)
abbrev aa_Kk : Type := (List Value → aa_V → Prop) → aa_K
def aa_bit (x : Int32) : Prop := x = 0 ∨ x = 1
/-- the cell a is of kind k -/
def aa_is (sk : aa_Sk) (a k : Nat) : Prop := ∃ (n : Nat) (rs : List Nat), aa_sh sk a = some (k, n, rs)
def aa_ldi (i nx : Nat) : aa_Op := fun _ _ _ _ lo st V go => match aa_lg lo i with
  | some (.int x) => go nx lo (.int x :: st) V
  | _ => False
def aa_ldl (i nx : Nat) : aa_Op := fun _ _ _ _ lo st V go => match aa_lg lo i with
  | some (.long x) => go nx lo (.long x :: st) V
  | _ => False
def aa_lda (i nx : Nat) : aa_Op := fun _ _ _ _ lo st V go => match aa_lg lo i with
  | some (.ref x) => go nx lo (.ref x :: st) V
  | _ => False
def aa_sti (i nx : Nat) : aa_Op := fun _ _ _ _ lo st V go => match st with
  | .int x :: r => go nx (aa_ls lo i (.int x)) r V
  | _ => False
def aa_sta (i nx : Nat) : aa_Op := fun _ _ _ _ lo st V go => match st with
  | .ref x :: r => go nx (aa_ls lo i (.ref x)) r V
  | _ => False
def aa_sto2 (i nx : Nat) : aa_Op := fun _ _ _ _ lo st V go => match st with
  | .long x :: r => go nx (aa_ls2 lo i (.long x)) r V
  | _ => False
def aa_pu (v : Value) (nx : Nat) : aa_Op := fun _ _ _ _ lo st V go => go nx lo (v :: st) V
def aa_bin (f : Int32 → Int32 → Int32) (nx : Nat) : aa_Op := fun _ _ _ _ lo st V go => match st with
  | .int y :: .int x :: r => go nx lo (.int (f x y) :: r) V
  | _ => False
def aa_dv (f : Int32 → Int32 → Int32) (nx : Nat) : aa_Op := fun _ _ _ _ lo st V go => match st with
  | .int y :: .int x :: r => ¬ y = 0 ∧ go nx lo (.int (f x y) :: r) V
  | _ => False
def aa_un (f : Int32 → Int32) (nx : Nat) : aa_Op := fun _ _ _ _ lo st V go => match st with
  | .int x :: r => go nx lo (.int (f x) :: r) V
  | _ => False
def aa_lbin (f : Int64 → Int64 → Int64) (nx : Nat) : aa_Op := fun _ _ _ _ lo st V go => match st with
  | .long y :: .long x :: r => go nx lo (.long (f x y) :: r) V
  | _ => False
def aa_ldv (f : Int64 → Int64 → Int64) (nx : Nat) : aa_Op := fun _ _ _ _ lo st V go => match st with
  | .long y :: .long x :: r => ¬ y = 0 ∧ go nx lo (.long (f x y) :: r) V
  | _ => False
def aa_lsh (f : Int64 → Int32 → Int64) (nx : Nat) : aa_Op := fun _ _ _ _ lo st V go => match st with
  | .int y :: .long x :: r => go nx lo (.long (f x y) :: r) V
  | _ => False
def aa_i2l (nx : Nat) : aa_Op := fun _ _ _ _ lo st V go => match st with
  | .int x :: r => go nx lo (.long x.toInt64 :: r) V
  | _ => False
def aa_l2i (nx : Nat) : aa_Op := fun _ _ _ _ lo st V go => match st with
  | .long x :: r => go nx lo (.int x.toInt32 :: r) V
  | _ => False
def aa_lcmp (nx : Nat) : aa_Op := fun _ _ _ _ lo st V go => match st with
  | .long y :: .long x :: r => go nx lo (.int (lg_cmp x y) :: r) V
  | _ => False
def aa_icmp (c : Int32 → Int32 → Prop) (tg nx : Nat) : aa_Op := fun _ _ _ _ lo st V go => match st with
  | .int y :: .int x :: r => (c x y → go tg lo r V) ∧ (¬ c x y → go nx lo r V)
  | _ => False
def aa_if (c : Int32 → Prop) (tg nx : Nat) : aa_Op := fun _ _ _ _ lo st V go => match st with
  | .int x :: r => (c x → go tg lo r V) ∧ (¬ c x → go nx lo r V)
  | _ => False
def aa_go (tg : Nat) : aa_Op := fun _ _ _ _ lo st V go => go tg lo st V
def aa_cs (d : Nat) (x : Int32) (lo : aa_Lo) (st : List Value) (V : aa_V) (go : aa_Go) : List (Int32 × Nat) → Prop
  | [] => go d lo st V
  | (v, t) :: r => (x = v → go t lo st V) ∧ (¬ x = v → aa_cs d x lo st V go r)
def aa_sw (d : Nat) (l : List (Int32 × Nat)) : aa_Op := fun _ _ _ _ lo st V go => match st with
  | .int x :: r => aa_cs d x lo r V go l
  | _ => False
def aa_inc (i : Nat) (n : Int32) (nx : Nat) : aa_Op := fun _ _ _ _ lo st V go => match aa_lg lo i with
  | some (.int x) => go nx (aa_ls lo i (.int (x + n))) st V
  | _ => False
def aa_dup (nx : Nat) : aa_Op := fun _ _ _ _ lo st V go => match st with
  | .int x :: r => go nx lo (.int x :: .int x :: r) V
  | .ref x :: r => go nx lo (.ref x :: .ref x :: r) V
  | _ => False
def aa_dup2 (nx : Nat) : aa_Op := fun _ _ _ _ lo st V go => match st with
  | .int x :: .ref y :: r => go nx lo (.int x :: .ref y :: .int x :: .ref y :: r) V
  | _ => False
def aa_popo (nx : Nat) : aa_Op := fun _ _ _ _ lo st V go => match st with
  | .int _ :: r => go nx lo r V
  | .ref _ :: r => go nx lo r V
  | _ => False
-- fields: of the cell a of kind ci, the slot k
def aa_gI (ci k nx : Nat) : aa_Op := fun sk _ _ _ lo st V go => match st with
  | .ref a :: r => (match aa_sh sk a with
    | some (c, _, _) => (match Nat.beq c ci with
      | true => go nx lo (.int (V a k) :: r) V
      | false => False)
    | none => False)
  | _ => False
def aa_gIs (ci k nx : Nat) : aa_Op := fun sk _ _ _ lo st V go => match st with
  | .ref a :: r => aa_is sk a ci ∧ go nx lo (.int (V a k) :: r) V
  | _ => False
def aa_gR (ci k nx : Nat) : aa_Op := fun sk _ _ _ lo st V go => match st with
  | .ref a :: r => (match aa_sh sk a with
    | some (c, _, rs) => (match Nat.beq c ci with
      | true => (match aa_nth rs k with
        | 0 => False
        | q + 1 => go nx lo (.ref q :: r) V)
      | false => False)
    | none => False)
  | _ => False
def aa_gRs (ci k nx : Nat) : aa_Op := fun sk _ _ _ lo st V go => match st with
  | .ref a :: r => ∃ (n : Nat) (rs : List Nat) (q : Nat), aa_sh sk a = some (ci, n, rs) ∧ aa_nth rs k = q + 1 ∧ go nx lo (.ref q :: r) V
  | _ => False
/-- a field that names a cell and changes: its number stands in V -/
def aa_gC (ci k nx : Nat) : aa_Op := fun sk _ _ _ lo st V go => match st with
  | .ref a :: r => (match aa_sh sk a with
    | some (c, _, _) => (match Nat.beq c ci with
      | true => ∃ q : Nat, (V a k).toNatClampNeg = q + 1 ∧ go nx lo (.ref q :: r) V
      | false => False)
    | none => False)
  | _ => False
def aa_pI (ci k nx : Nat) : aa_Op := fun sk _ _ _ lo st V go => match st with
  | .int x :: .ref a :: r => (match aa_sh sk a with
    | some (c, _, _) => (match Nat.beq c ci with
      | true => go nx lo r (aa_up V a k x)
      | false => False)
    | none => False)
  | _ => False
def aa_pIs (ci k nx : Nat) : aa_Op := fun sk _ _ _ lo st V go => match st with
  | .int x :: .ref a :: r => aa_is sk a ci ∧ go nx lo r (aa_up V a k x)
  | _ => False
def aa_pC (ci k nx : Nat) : aa_Op := fun sk _ _ _ lo st V go => match st with
  | .ref q :: .ref a :: r => (match aa_sh sk a with
    | some (c, _, _) => (match Nat.beq c ci with
      | true => q < 1000000 ∧ go nx lo r (aa_up V a k (nI (q + 1)))
      | false => False)
    | none => False)
  | _ => False
-- rows
def aa_al (kd nx : Nat) : aa_Op := fun sk ST _ _ lo st V go => match st with
  | .int i :: .ref a :: r => (match Nat.blt a 1000000 with
    | true => (match aa_sh sk a with
      | some (c, n, _) => (match Nat.beq c kd with
        | true => vp_in i n ∧ go nx lo (.int (V a i.toNatClampNeg) :: r) V
        | false => False)
      | none => False)
    | false => (match Nat.blt a 2000000 with
      | true => (match Nat.beq kd (ST (a - 1000000)).1 with
        | true => vp_in i (ST (a - 1000000)).2.1 ∧ go nx lo (.int ((ST (a - 1000000)).2.2 i.toNatClampNeg) :: r) V
        | false => False)
      | false => False))
  | _ => False
def aa_als (kd nx : Nat) : aa_Op := fun sk _ _ _ lo st V go => match st with
  | .int i :: .ref a :: r => ∃ (n : Nat) (rs : List Nat), aa_sh sk a = some (kd, n, rs) ∧ vp_in i n ∧ go nx lo (.int (V a i.toNatClampNeg) :: r) V
  | _ => False
def aa_as (kd : Nat) (f : Int32 → Int32) (nx : Nat) : aa_Op := fun sk _ _ _ lo st V go => match st with
  | .int x :: .int i :: .ref a :: r => (match aa_sh sk a with
    | some (c, n, _) => (match Nat.beq c kd with
      | true => vp_in i n ∧ go nx lo r (aa_up V a i.toNatClampNeg (f x))
      | false => False)
    | none => False)
  | _ => False
def aa_ass (kd : Nat) (f : Int32 → Int32) (nx : Nat) : aa_Op := fun sk _ _ _ lo st V go => match st with
  | .int x :: .int i :: .ref a :: r => ∃ (n : Nat) (rs : List Nat), aa_sh sk a = some (kd, n, rs) ∧ vp_in i n ∧ go nx lo r (aa_up V a i.toNatClampNeg (f x))
  | _ => False
/-- a row of references, read: what is read is a name q with what is known of it -/
def aa_ar_ (kd nx : Nat) : aa_Op := fun sk _ _ _ lo st V go => match st with
  | .int i :: .ref a :: r => ∃ (n : Nat) (rs : List Nat) (q : Nat), aa_sh sk a = some (kd, n, rs) ∧ vp_in i n ∧ aa_nth rs i.toNatClampNeg = q + 1 ∧ go nx lo (.ref q :: r) V
  | _ => False
def aa_len (nx : Nat) : aa_Op := fun sk ST _ _ lo st V go => match st with
  | .ref a :: r => (match Nat.blt a 1000000 with
    | true => (match aa_sh sk a with
      | some (c, n, _) => (match Nat.ble 100 c with
        | true => go nx lo (.int (nI n) :: r) V
        | false => False)
      | none => False)
    | false => (match Nat.blt a 2000000 with
      | true => (a - 1000000 < 3 ∨ 100 ≤ a - 1000000 ∧ a - 1000000 < 112) ∧ go nx lo (.int (nI (ST (a - 1000000)).2.1) :: r) V
      | false => False))
  | _ => False
/-- a String's own fields: 0 the coder, 1 the bytes -/
def aa_gS (k nx : Nat) : aa_Op := fun _ _ _ _ lo st V go => match st with
  | .ref a :: r => 2000000 ≤ a ∧ a < 2000012 ∧ (match k with
    | 0 => go nx lo (.int 0 :: r) V
    | _ => go nx lo (.ref (a - 999900) :: r) V)
  | _ => False
/-- the bytes of a String -/
def aa_alb (nx : Nat) : aa_Op := fun _ ST _ _ lo st V go => match st with
  | .int i :: .ref a :: r => ∃ j : Nat, a = 1000000 + (100 + j) ∧ j < 12 ∧ vp_in i (ST (100 + j)).2.1 ∧ go nx lo (.int ((ST (100 + j)).2.2 i.toNatClampNeg) :: r) V
  | _ => False
def aa_lenb (nx : Nat) : aa_Op := fun _ ST _ _ lo st V go => match st with
  | .ref a :: r => ∃ j : Nat, a = 1000000 + (100 + j) ∧ j < 12 ∧ go nx lo (.int (nI (ST (100 + j)).2.1) :: r) V
  | _ => False
def aa_lens (nx : Nat) : aa_Op := fun sk _ _ _ lo st V go => match st with
  | .ref a :: r => ∃ (c n : Nat) (rs : List Nat), aa_sh sk a = some (c, n, rs) ∧ 100 ≤ c ∧ go nx lo (.int (nI n) :: r) V
  | _ => False
-- calls: the method m, of n arguments; nl: its locals
def aa_ccs (m n nl : Nat) (rk : aa_Kk) (nx : Nat) : aa_Op := fun _ _ ev _ lo st V go => match aa_pop n st [] with
  | some (as, r) => (match Nat.ble (aa_cat r) 8 && Nat.ble (aa_cat as) nl with
    | true => ev m as V (rk (fun pre V' => go nx lo (pre ++ r) V'))
    | false => False)
  | none => False
def aa_ccv (m n nl ci : Nat) (rk : aa_Kk) (nx : Nat) : aa_Op := fun sk _ ev _ lo st V go => match aa_pop n st [] with
  | some (as, .ref b :: r) => (match Nat.ble (aa_cat r) 8 && Nat.ble (aa_cat as + 1) nl with
    | true => (match aa_sh sk b with
      | some (c, _, _) => (match Nat.beq c ci with
        | true => ev m (.ref b :: as) V (rk (fun pre V' => go nx lo (pre ++ r) V'))
        | false => False)
      | none => False)
    | false => False)
  | _ => False
def aa_ccu (m n nl ci : Nat) (rk : aa_Kk) (nx : Nat) : aa_Op := fun sk _ ev _ lo st V go => match aa_pop n st [] with
  | some (as, .ref b :: r) => (match Nat.ble (aa_cat r) 8 && Nat.ble (aa_cat as + 1) nl with
    | true => aa_is sk b ci ∧ ev m (.ref b :: as) V (rk (fun pre V' => go nx lo (pre ++ r) V'))
    | false => False)
  | _ => False
def aa_ccS (m n nl : Nat) (rk : aa_Kk) (nx : Nat) : aa_Op := fun _ _ ev _ lo st V go => match aa_pop n st [] with
  | some (as, .ref b :: r) => (match Nat.ble (aa_cat r) 8 && Nat.ble (aa_cat as + 1) nl with
    | true => 2000000 ≤ b ∧ b < 2000012 ∧ ev m (.ref b :: as) V (rk (fun pre V' => go nx lo (pre ++ r) V'))
    | false => False)
  | _ => False
/-- System.arraycopy between int rows -/
def aa_acp (nx : Nat) : aa_Op := fun sk _ _ _ lo st V go => match st with
  | .int n :: .int dp :: .ref b :: .int sp :: .ref a :: r => ∃ (n0 n1 : Nat) (r0 r1 : List Nat), aa_sh sk a = some (100, n0, r0) ∧ aa_sh sk b = some (100, n1, r1) ∧
      ¬ sp < 0 ∧ ¬ dp < 0 ∧ ¬ n < 0 ∧ sp.toNatClampNeg + n.toNatClampNeg ≤ n0 ∧ dp.toNatClampNeg + n.toNatClampNeg ≤ n1 ∧ aa_cat r ≤ 8 ∧ 151 ≤ sk.length ∧
      go nx lo r (aa_row V b (va_cpy (V a) (V b) sp.toNatClampNeg dp.toNatClampNeg n.toNatClampNeg))
  | _ => False
-- the end
def aa_reti : aa_Op := fun _ _ _ ret _ st V _ => match st with
  | [.int x] => ret (some (.int x)) V
  | _ => False
def aa_retl : aa_Op := fun _ _ _ ret _ st V _ => match st with
  | [.long x] => ret (some (.long x)) V
  | _ => False
def aa_reta : aa_Op := fun _ _ _ ret _ st V _ => match st with
  | [.ref x] => ret (some (.ref x)) V
  | _ => False
def aa_retz : aa_Op := fun _ _ _ ret _ st V _ => match st with
  | [.int x] => aa_bit x ∧ ret (some (.int x)) V
  | _ => False
/-- a byte's or a char's end -/
def aa_retn (ty : FieldType) : aa_Op := fun _ _ _ ret _ st V _ => match st with
  | [.int x] => narrow ty (.int x) = .int x ∧ ret (some (.int x)) V
  | _ => False
def aa_retv : aa_Op := fun _ _ _ ret _ st V _ => match st with
  | [] => ret none V
  | _ => False
-- many instructions
def aa_find : List (Nat × aa_Op) → Nat → Option aa_Op
  | [], _ => none
  | q :: t, n => (match Nat.beq q.1 n with
    | true => some q.2
    | false => aa_find t n)
def aa_mem : List Nat → Nat → Bool
  | [], _ => false
  | q :: t, n => (match Nat.beq q n with
    | true => true
    | false => aa_mem t n)
/-- what is wanted ahead of n instructions at most, up to the places of stops, where inv is wanted -/
def aa_wp (cd : List (Nat × aa_Op)) (stops : List Nat) (sk : aa_Sk) (ST : aa_St) (ev : aa_Ev) (ret : aa_K) (inv : aa_Go) : Nat → aa_Go
  | 0 => fun _ _ _ _ => False
  | f + 1 => fun pc lo st V => (match aa_find cd pc with
    | some op => op sk ST ev ret lo st V (fun pc' lo' st' V' => match aa_mem stops pc' with
      | true => inv pc' lo' st' V'
      | false => aa_wp cd stops sk ST ev ret inv f pc' lo' st' V')
    | none => False)
