/-! a text's reading, pure: the reference's stack, and what waits on it -/
abbrev pp_S := Int32 × Int32
abbrev pp_X := List Nat × List pp_S × Nat
def pp_wk : List pp_S → List Nat → List pp_S
  | m, [] => m
  | m, c :: p => pp_wk ((nI c, 0) :: m) p
def pp_ct : List Nat → Nat
  | [] => 0
  | c :: p => (if c = 4 ∨ c = 10 then 1 else 0) + pp_ct p
def pp_w (l : Nat) : List Nat → List pp_S → Nat → pp_X
  | [], m, o => ([], m, o)
  | c :: S, m, o => if l ≤ c then pp_w l S ((nI c, 0) :: m) (if c = 4 ∨ c = 10 then o - 1 else o) else (c :: S, m, o)
def pp_t (k : Nat) : List Nat → Prop
  | [] => True
  | c :: _ => c < k
theorem pp_wk_app : ∀ (p q : List Nat) (m : List pp_S), pp_wk m (p ++ q) = pp_wk (pp_wk m p) q
  | [], _, _ => rfl
  | c :: p, q, m => pp_wk_app p q ((nI c, 0) :: m)
theorem pp_wk_len : ∀ (p : List Nat) (m : List pp_S), (pp_wk m p).length = m.length + p.length
  | [], _ => rfl
  | c :: p, m => by
    show (pp_wk ((nI c, 0) :: m) p).length = _
    rw [pp_wk_len p, List.length_cons, List.length_cons]
    omega
theorem pp_ct_app : ∀ (p q : List Nat), pp_ct (p ++ q) = pp_ct p + pp_ct q
  | [], q => (Nat.zero_add _).symm
  | c :: p, q => by
    show _ + pp_ct (p ++ q) = (_ + pp_ct p) + pp_ct q
    rw [pp_ct_app p q, Nat.add_assoc]
theorem pp_w_app {l : Nat} {S : List Nat} (hS : pp_t l S) : ∀ (p : List Nat) (m : List pp_S) (o : Nat), (∀ c, c ∈ p → l ≤ c) → pp_w l (p ++ S) m (o + pp_ct p) = (S, pp_wk m p, o)
  | [], m, o, _ => by
    cases S with
    | nil => rfl
    | cons c S => exact if_neg (Nat.not_le.mpr hS)
  | c :: p, m, o, h => by
    have e := pp_w_app hS p ((nI c, 0) :: m) o (fun c hc => h c (List.mem_cons_of_mem _ hc))
    show (if l ≤ c then pp_w l (p ++ S) ((nI c, 0) :: m) (if c = 4 ∨ c = 10 then (o + ((if c = 4 ∨ c = 10 then 1 else 0) + pp_ct p)) - 1 else (o + ((if c = 4 ∨ c = 10 then 1 else 0) + pp_ct p))) else _) = _
    rw [if_pos (h c (List.mem_cons_self ..))]
    by_cases q : c = 4 ∨ c = 10
    · rw [if_pos q, if_pos q, show o + (1 + pp_ct p) - 1 = o + pp_ct p by omega]
      exact e
    · rw [if_neg q, if_neg q, show o + (0 + pp_ct p) = o + pp_ct p by omega]
      exact e
def pp_W (l : Nat) (x : pp_X) : pp_X := pp_w l x.1 x.2.1 x.2.2
theorem pp_W_W {l k : Nat} (h : l ≤ k) : ∀ (S : List Nat) (m : List pp_S) (o : Nat), pp_W l (pp_w k S m o) = pp_w l S m o
  | [], _, _ => rfl
  | c :: S, m, o => by
    by_cases q : k ≤ c
    · have e1 : pp_w k (c :: S) m o = pp_w k S ((nI c, 0) :: m) (if c = 4 ∨ c = 10 then o - 1 else o) := if_pos q
      have e2 : pp_w l (c :: S) m o = pp_w l S ((nI c, 0) :: m) (if c = 4 ∨ c = 10 then o - 1 else o) := if_pos (Nat.le_trans h q)
      rw [e1, e2]
      exact pp_W_W h S _ _
    · have e1 : pp_w k (c :: S) m o = (c :: S, m, o) := if_neg q
      rw [e1]
      rfl
abbrev pp_r := (Nat × List pp_S) ⊕ Int32
abbrev pp_P := Nat → Nat → pp_X → Bool → pp_r → Prop
/-- what a token opens: its code, and whether 'not' may follow -/
def pp_op (x : Int32) (mn : Bool) (c : Nat) (mn' : Bool) : Prop := (x = 40 ∧ c = 1 ∧ mn' = true) ∨ (x = 45 ∧ c = 10 ∧ mn' = false) ∨ (x = 310 ∧ mn = true ∧ c = 4 ∧ mn' = true)
/-- a sign of two: what must be worked off, its code, and whether 'not' may follow -/
def pp_bn (x : Int32) (l c : Nat) (mn : Bool) : Prop := (x = 42 ∧ l = 9 ∧ c = 9 ∧ mn = false) ∨ (x = 43 ∧ l = 7 ∧ c = 7 ∧ mn = false) ∨ (x = 45 ∧ l = 7 ∧ c = 8 ∧ mn = false) ∨ (x = 308 ∧ l = 2 ∧ c = 2 ∧ mn = true) ∨ (x = 309 ∧ l = 3 ∧ c = 3 ∧ mn = true)
def pp_cm (x : Int32) (c : Nat) : Prop := (x = 60 ∧ c = 5) ∨ (x = 61 ∧ c = 6)
def pp_56 : List Nat → Prop
  | [] => False
  | c :: _ => c = 5 ∨ c = 6
def pp_cls (tk nb pl : Nat → Int32) (P : pp_P) : Prop :=
  (∀ (i : Nat) (S : List Nat) (m : List pp_S) (o : Nat) (mn : Bool) (r : pp_r), (tk i = 258) → (P 1 (i + 1) (S, (0, nb i) :: m, o) false r) → P 0 i (S, m, o) mn r) ∧
  (∀ (i : Nat) (S : List Nat) (m : List pp_S) (o : Nat) (mn : Bool) (r : pp_r), (¬ tk i < 300) → (¬ 305 < tk i) → (P 1 (i + 1) (S, (1, tk i - 300) :: m, o) false r) → P 0 i (S, m, o) mn r) ∧
  (∀ (i : Nat) (S : List Nat) (m : List pp_S) (o : Nat) (mn : Bool) (r : pp_r) (c : Nat) (mn' : Bool), (pp_op (tk i) mn c mn') → (o < 5) → (P 0 (i + 1) (c :: S, m, o + 1) mn' r) → P 0 i (S, m, o) mn r) ∧
  (∀ (i : Nat) (S : List Nat) (m : List pp_S) (mn : Bool) (c : Nat) (mn' : Bool), (pp_op (tk i) mn c mn') → P 0 i (S, m, 5) mn (.inr (pl i))) ∧
  (∀ (i : Nat) (S : List Nat) (m : List pp_S) (o : Nat) (mn : Bool), (tk i ≠ 258) → (tk i < 300 ∨ 305 < tk i) → (tk i ≠ 40) → (tk i ≠ 45) → (tk i = 310 → mn = false) → P 0 i (S, m, o) mn (.inr (pl i))) ∧
  (∀ (i : Nat) (x : pp_X) (mn : Bool) (r : pp_r), (P 2 i (pp_W 10 x) false r) → P 1 i x mn r) ∧
  (∀ (i : Nat) (x : pp_X) (mn : Bool) (c : Nat) (S : List Nat) (m : List pp_S) (o : Nat) (r : pp_r), (tk i = 41) → (pp_W 2 x = (c :: S, m, o)) → (P 1 (i + 1) (S, m, o - 1) false r) → P 2 i x mn r) ∧
  (∀ (i : Nat) (x : pp_X) (mn : Bool) (m : List pp_S) (o : Nat), (tk i = 41) → (pp_W 2 x = ([], m, o)) → P 2 i x mn (.inr (pl i))) ∧
  (∀ (i : Nat) (x : pp_X) (mn : Bool) (m : List pp_S) (o : Nat), (tk i = 59) → (pp_W 2 x = ([], m, o)) → P 2 i x mn (.inl (i, m))) ∧
  (∀ (i : Nat) (x : pp_X) (mn : Bool) (c : Nat) (S : List Nat) (m : List pp_S) (o : Nat), (tk i = 59) → (pp_W 2 x = (c :: S, m, o)) → P 2 i x mn (.inr (pl i))) ∧
  (∀ (i : Nat) (x : pp_X) (mn : Bool) (l : Nat) (c : Nat) (mn' : Bool) (S : List Nat) (m : List pp_S) (o : Nat) (r : pp_r), (pp_bn (tk i) l c mn') → (pp_W l x = (S, m, o)) → (P 0 (i + 1) (c :: S, m, o) mn' r) → P 2 i x mn r) ∧
  (∀ (i : Nat) (x : pp_X) (mn : Bool) (c : Nat) (S : List Nat) (m : List pp_S) (o : Nat) (r : pp_r), (pp_cm (tk i) c) → (pp_W 7 x = (S, m, o)) → (¬ pp_56 S) → (P 0 (i + 1) (c :: S, m, o) false r) → P 2 i x mn r) ∧
  (∀ (i : Nat) (x : pp_X) (mn : Bool) (c : Nat) (S : List Nat) (m : List pp_S) (o : Nat), (pp_cm (tk i) c) → (pp_W 7 x = (S, m, o)) → (pp_56 S) → P 2 i x mn (.inr (pl i))) ∧
  (∀ (i : Nat) (x : pp_X) (mn : Bool), (tk i ≠ 41) → (tk i ≠ 59) → (tk i ≠ 42) → (tk i ≠ 43) → (tk i ≠ 45) → (tk i ≠ 60) → (tk i ≠ 61) → (tk i ≠ 308) → (tk i ≠ 309) → P 2 i x mn (.inr (pl i)))
def pp_mr (tk nb pl : Nat → Int32) (g i : Nat) (x : pp_X) (mn : Bool) (r : pp_r) : Prop := ∀ P, pp_cls tk nb pl P → P g i x mn r
theorem pp_c_num {tk nb pl : Nat → Int32} {i : Nat} {S : List Nat} {m : List pp_S} {o : Nat} {mn : Bool} {r : pp_r} (h0 : tk i = 258) (hr : pp_mr tk nb pl 1 (i + 1) (S, (0, nb i) :: m, o) false r) : pp_mr tk nb pl 0 i (S, m, o) mn r := fun P h => h.1 _ _ _ _ _ _ h0 (hr P h)
theorem pp_c_nam {tk nb pl : Nat → Int32} {i : Nat} {S : List Nat} {m : List pp_S} {o : Nat} {mn : Bool} {r : pp_r} (h0 : ¬ tk i < 300) (h1 : ¬ 305 < tk i) (hr : pp_mr tk nb pl 1 (i + 1) (S, (1, tk i - 300) :: m, o) false r) : pp_mr tk nb pl 0 i (S, m, o) mn r := fun P h => h.2.1 _ _ _ _ _ _ h0 h1 (hr P h)
theorem pp_c_opn {tk nb pl : Nat → Int32} {i : Nat} {S : List Nat} {m : List pp_S} {o : Nat} {mn : Bool} {r : pp_r} {c : Nat} {mn' : Bool} (h0 : pp_op (tk i) mn c mn') (h1 : o < 5) (hr : pp_mr tk nb pl 0 (i + 1) (c :: S, m, o + 1) mn' r) : pp_mr tk nb pl 0 i (S, m, o) mn r := fun P h => h.2.2.1 _ _ _ _ _ _ _ _ h0 h1 (hr P h)
theorem pp_c_ful {tk nb pl : Nat → Int32} {i : Nat} {S : List Nat} {m : List pp_S} {mn : Bool} {c : Nat} {mn' : Bool} (h0 : pp_op (tk i) mn c mn') : pp_mr tk nb pl 0 i (S, m, 5) mn (.inr (pl i)) := fun P h => h.2.2.2.1 _ _ _ _ _ _ h0
theorem pp_c_no {tk nb pl : Nat → Int32} {i : Nat} {S : List Nat} {m : List pp_S} {o : Nat} {mn : Bool} (h0 : tk i ≠ 258) (h1 : tk i < 300 ∨ 305 < tk i) (h2 : tk i ≠ 40) (h3 : tk i ≠ 45) (h4 : tk i = 310 → mn = false) : pp_mr tk nb pl 0 i (S, m, o) mn (.inr (pl i)) := fun P h => h.2.2.2.2.1 _ _ _ _ _ h0 h1 h2 h3 h4
theorem pp_c_a {tk nb pl : Nat → Int32} {i : Nat} {x : pp_X} {mn : Bool} {r : pp_r} (hr : pp_mr tk nb pl 2 i (pp_W 10 x) false r) : pp_mr tk nb pl 1 i x mn r := fun P h => h.2.2.2.2.2.1 _ _ _ _ (hr P h)
theorem pp_c_cl {tk nb pl : Nat → Int32} {i : Nat} {x : pp_X} {mn : Bool} {c : Nat} {S : List Nat} {m : List pp_S} {o : Nat} {r : pp_r} (h0 : tk i = 41) (h1 : pp_W 2 x = (c :: S, m, o)) (hr : pp_mr tk nb pl 1 (i + 1) (S, m, o - 1) false r) : pp_mr tk nb pl 2 i x mn r := fun P h => h.2.2.2.2.2.2.1 _ _ _ _ _ _ _ _ h0 h1 (hr P h)
theorem pp_c_cl0 {tk nb pl : Nat → Int32} {i : Nat} {x : pp_X} {mn : Bool} {m : List pp_S} {o : Nat} (h0 : tk i = 41) (h1 : pp_W 2 x = ([], m, o)) : pp_mr tk nb pl 2 i x mn (.inr (pl i)) := fun P h => h.2.2.2.2.2.2.2.1 _ _ _ _ _ h0 h1
theorem pp_c_se {tk nb pl : Nat → Int32} {i : Nat} {x : pp_X} {mn : Bool} {m : List pp_S} {o : Nat} (h0 : tk i = 59) (h1 : pp_W 2 x = ([], m, o)) : pp_mr tk nb pl 2 i x mn (.inl (i, m)) := fun P h => h.2.2.2.2.2.2.2.2.1 _ _ _ _ _ h0 h1
theorem pp_c_se0 {tk nb pl : Nat → Int32} {i : Nat} {x : pp_X} {mn : Bool} {c : Nat} {S : List Nat} {m : List pp_S} {o : Nat} (h0 : tk i = 59) (h1 : pp_W 2 x = (c :: S, m, o)) : pp_mr tk nb pl 2 i x mn (.inr (pl i)) := fun P h => h.2.2.2.2.2.2.2.2.2.1 _ _ _ _ _ _ _ h0 h1
theorem pp_c_bin {tk nb pl : Nat → Int32} {i : Nat} {x : pp_X} {mn : Bool} {l : Nat} {c : Nat} {mn' : Bool} {S : List Nat} {m : List pp_S} {o : Nat} {r : pp_r} (h0 : pp_bn (tk i) l c mn') (h1 : pp_W l x = (S, m, o)) (hr : pp_mr tk nb pl 0 (i + 1) (c :: S, m, o) mn' r) : pp_mr tk nb pl 2 i x mn r := fun P h => h.2.2.2.2.2.2.2.2.2.2.1 _ _ _ _ _ _ _ _ _ _ h0 h1 (hr P h)
theorem pp_c_cmp {tk nb pl : Nat → Int32} {i : Nat} {x : pp_X} {mn : Bool} {c : Nat} {S : List Nat} {m : List pp_S} {o : Nat} {r : pp_r} (h0 : pp_cm (tk i) c) (h1 : pp_W 7 x = (S, m, o)) (h2 : ¬ pp_56 S) (hr : pp_mr tk nb pl 0 (i + 1) (c :: S, m, o) false r) : pp_mr tk nb pl 2 i x mn r := fun P h => h.2.2.2.2.2.2.2.2.2.2.2.1 _ _ _ _ _ _ _ _ h0 h1 h2 (hr P h)
theorem pp_c_cmp0 {tk nb pl : Nat → Int32} {i : Nat} {x : pp_X} {mn : Bool} {c : Nat} {S : List Nat} {m : List pp_S} {o : Nat} (h0 : pp_cm (tk i) c) (h1 : pp_W 7 x = (S, m, o)) (h2 : pp_56 S) : pp_mr tk nb pl 2 i x mn (.inr (pl i)) := fun P h => h.2.2.2.2.2.2.2.2.2.2.2.2.1 _ _ _ _ _ _ _ h0 h1 h2
theorem pp_c_oth {tk nb pl : Nat → Int32} {i : Nat} {x : pp_X} {mn : Bool} (h0 : tk i ≠ 41) (h1 : tk i ≠ 59) (h2 : tk i ≠ 42) (h3 : tk i ≠ 43) (h4 : tk i ≠ 45) (h5 : tk i ≠ 60) (h6 : tk i ≠ 61) (h7 : tk i ≠ 308) (h8 : tk i ≠ 309) : pp_mr tk nb pl 2 i x mn (.inr (pl i)) := fun P h => h.2.2.2.2.2.2.2.2.2.2.2.2.2 _ _ _ h0 h1 h2 h3 h4 h5 h6 h7 h8
theorem pp_W10 {l k i : Nat} {tk nb pl : Nat → Int32} (h : l ≤ 10) {S : List Nat} (hS : pp_t l S) {p : List Nat} {m : List pp_S} {o : Nat} (hp : ∀ c, c ∈ p → l ≤ c) : pp_W l (pp_W 10 (p ++ S, m, o + pp_ct p)) = (S, pp_wk m p, o) := by
  show pp_W l (pp_w 10 (p ++ S) m (o + pp_ct p)) = _
  rw [pp_W_W h]
  exact pp_w_app hS p m o hp
section
variable {tk nb pl : Nat → Int32} {i o l c : Nat} {S p : List Nat} {m : List pp_S} {mn : Bool} {r : pp_r}
theorem pp_bin (hb : pp_bn (tk i) l c mn) (hl : l ≤ 10) (hS : pp_t l S) (hp : ∀ c, c ∈ p → l ≤ c) (h : pp_mr tk nb pl 0 (i + 1) (c :: S, pp_wk m p, o) mn r) : pp_mr tk nb pl 1 i (p ++ S, m, o + pp_ct p) false r :=
  pp_c_a (pp_c_bin hb (pp_W10 (k := 0) (i := 0) (tk := tk) (nb := nb) (pl := pl) hl hS hp) h)
theorem pp_cmp (hb : pp_cm (tk i) c) (hS : pp_t 5 S) (hp : ∀ c, c ∈ p → 7 ≤ c) (h : pp_mr tk nb pl 0 (i + 1) (c :: S, pp_wk m p, o) false r) : pp_mr tk nb pl 1 i (p ++ S, m, o + pp_ct p) false r := by
  have h7 : pp_t 7 S := by
    cases S with
    | nil => trivial
    | cons a S => exact (show a < 7 by have : a < 5 := hS; omega)
  have h5 : ¬ pp_56 S := by
    cases S with
    | nil => exact fun q => q
    | cons a S => exact fun q => by have : a < 5 := hS; rcases q with q | q <;> omega
  exact pp_c_a (pp_c_cmp hb (pp_W10 (k := 0) (i := 0) (tk := tk) (nb := nb) (pl := pl) (by omega) h7 hp) h5 h)
/-- what waits holds a comparison, with nothing that is weaker above it -/
def pp_N (p : List Nat) : Prop := ∃ p1 c p2, p = p1 ++ c :: p2 ∧ (∀ c, c ∈ p1 → 7 ≤ c) ∧ (c = 5 ∨ c = 6)
theorem pp_N_app (h : pp_N p) (q : List Nat) : pp_N (p ++ q) := by
  obtain ⟨p1, c, p2, e, h1, h2⟩ := h
  exact ⟨p1, c, p2 ++ q, by rw [e, List.append_assoc]; rfl, h1, h2⟩
theorem pp_w_ge {k : Nat} : ∀ (p1 : List Nat) (c : Nat) (S : List Nat) (m : List pp_S) (o : Nat), (∀ c, c ∈ p1 → k ≤ c) → c < k → ∃ m' o', pp_w k (p1 ++ c :: S) m o = (c :: S, m', o')
  | [], c, S, m, o, _, h => ⟨m, o, if_neg (Nat.not_le.mpr h)⟩
  | a :: p1, c, S, m, o, h1, h => by
    obtain ⟨m', o', e⟩ := pp_w_ge p1 c S ((nI a, 0) :: m) (if a = 4 ∨ a = 10 then o - 1 else o) (fun c hc => h1 c (List.mem_cons_of_mem _ hc)) h
    exact ⟨m', o', (if_pos (h1 a (List.mem_cons_self ..)) : pp_w k (a :: (p1 ++ c :: S)) m o = _).trans e⟩
theorem pp_cmp0 (hb : pp_cm (tk i) c) (hp : pp_N p) : pp_mr tk nb pl 1 i (p ++ S, m, o) false (.inr (pl i)) := by
  obtain ⟨p1, c', p2, e, h1, h2⟩ := hp
  refine pp_c_a ?_
  have e2 : pp_W 7 (pp_W 10 (p ++ S, m, o)) = pp_w 7 (p ++ S) m o := pp_W_W (by omega) _ _ _
  have e3 : p ++ S = p1 ++ c' :: (p2 ++ S) := by rw [e, List.append_assoc]; rfl
  obtain ⟨m', o', e4⟩ := pp_w_ge (k := 7) p1 c' (p2 ++ S) m o h1 (by omega)
  rw [e3] at e2
  rw [e4] at e2
  rw [e3]
  exact pp_c_cmp0 hb e2 h2
/-- behind what is read at a level, no sign that this level takes up -/
def pp_T1 (_ : Int32) (_ : List Nat) : Prop := True
def pp_Tm (x : Int32) (_ : List Nat) : Prop := x ≠ 42
def pp_Ts (x : Int32) (_ : List Nat) : Prop := x ≠ 42 ∧ x ≠ 43 ∧ x ≠ 45
def pp_Tn (x : Int32) (p : List Nat) : Prop := x ≠ 42 ∧ x ≠ 43 ∧ x ≠ 45 ∧ (x = 60 ∨ x = 61 → pp_N p)
def pp_Ta (x : Int32) (p : List Nat) : Prop := x ≠ 42 ∧ x ≠ 43 ∧ x ≠ 45 ∧ (x = 60 ∨ x = 61 → pp_N p) ∧ x ≠ 309
def pp_To (x : Int32) (p : List Nat) : Prop := x ≠ 42 ∧ x ≠ 43 ∧ x ≠ 45 ∧ (x = 60 ∨ x = 61 → pp_N p) ∧ x ≠ 309 ∧ x ≠ 308
/-- behind a whole: all but ')' and ';' is a fault there -/
theorem pp_end (hT : pp_To (tk i) p) (h1 : tk i ≠ 41) (h2 : tk i ≠ 59) : pp_mr tk nb pl 1 i (p ++ S, m, o) false (.inr (pl i)) := by
  obtain ⟨a1, a2, a3, a4, a5, a6⟩ := hT
  by_cases q : tk i = 60
  · exact pp_cmp0 (c := 5) (Or.inl ⟨q, rfl⟩) (a4 (Or.inl q))
  by_cases q' : tk i = 61
  · exact pp_cmp0 (c := 6) (Or.inr ⟨q', rfl⟩) (a4 (Or.inr q'))
  exact pp_c_a (pp_c_oth h1 h2 a1 a2 a3 q q' a6 a5)
theorem pp_t2 {k l : Nat} (h : k ≤ l) (hS : pp_t k S) : pp_t l S := by
  cases S with
  | nil => trivial
  | cons a S => exact Nat.lt_of_lt_of_le hS h
theorem pp_cl (hp : ∀ c, c ∈ p → 2 ≤ c) (ht : tk i = 41) (h : pp_mr tk nb pl 1 (i + 1) (S, pp_wk m p, o) false r) : pp_mr tk nb pl 1 i (p ++ 1 :: S, m, o + 1 + pp_ct p) false r :=
  pp_c_a (pp_c_cl ht (pp_W10 (k := 0) (i := 0) (tk := tk) (nb := nb) (pl := pl) (l := 2) (by omega) (S := 1 :: S) (show 1 < 2 by omega) hp) h)
theorem pp_clb (hp : ∀ c, c ∈ p → 2 ≤ c) (ht : tk i = 59) : pp_mr tk nb pl 1 i (p ++ 1 :: S, m, o + pp_ct p) false (.inr (pl i)) :=
  pp_c_a (pp_c_se0 ht (pp_W10 (k := 0) (i := 0) (tk := tk) (nb := nb) (pl := pl) (l := 2) (by omega) (S := 1 :: S) (show 1 < 2 by omega) hp))
theorem pp_se (hp : ∀ c, c ∈ p → 2 ≤ c) (ht : tk i = 59) : pp_mr tk nb pl 1 i (p ++ [], m, o + pp_ct p) false (.inl (i, pp_wk m p)) :=
  pp_c_a (pp_c_se ht (pp_W10 (k := 0) (i := 0) (tk := tk) (nb := nb) (pl := pl) (l := 2) (by omega) (S := []) trivial hp))
theorem pp_seb (hp : ∀ c, c ∈ p → 2 ≤ c) (ht : tk i = 41) : pp_mr tk nb pl 1 i (p ++ [], m, o + pp_ct p) false (.inr (pl i)) :=
  pp_c_a (pp_c_cl0 ht (pp_W10 (k := 0) (i := 0) (tk := tk) (nb := nb) (pl := pl) (l := 2) (by omega) (S := []) trivial hp))
end
/-- how many values a step eats -/
def pp_e (s : pp_S) : Nat := if s.1 = 0 ∨ s.1 = 1 then 0 else if s.1 = 4 ∨ s.1 = 10 then 1 else 2
def pp_h (b : List pp_S) (m : List pp_S) (h : Nat) : Prop := ∀ P : List pp_S → Nat → Prop, P b 0 → (∀ m h s, P m h → pp_e s ≤ h → h - pp_e s < 64 → P (s :: m) (h - pp_e s + 1)) → P m h
theorem pp_h_z {b : List pp_S} : pp_h b b 0 := fun _ h _ => h
theorem pp_h_s {b m : List pp_S} {h : Nat} {s : pp_S} (q : pp_h b m h) (h1 : pp_e s ≤ h) (h2 : h - pp_e s < 64) : pp_h b (s :: m) (h - pp_e s + 1) := fun P a c => c _ _ _ (q P a c) h1 h2
theorem pp_h0 {b m : List pp_S} {h : Nat} {s : pp_S} (q : pp_h b m h) (he : pp_e s = 0) (hh : h < 64) : pp_h b (s :: m) (h + 1) := by
  have := pp_h_s (s := s) q (by omega) (by omega)
  rw [he] at this
  exact this
theorem pp_h1 {b m : List pp_S} {h : Nat} {s : pp_S} (q : pp_h b m (h + 1)) (he : pp_e s = 1) (hh : h < 64) : pp_h b (s :: m) (h + 1) := by
  have := pp_h_s (s := s) q (by omega) (by omega)
  rw [he] at this
  exact this
theorem pp_h2 {b m : List pp_S} {h : Nat} {s : pp_S} (q : pp_h b m (h + 2)) (he : pp_e s = 2) (hh : h < 64) : pp_h b (s :: m) (h + 1) := by
  have := pp_h_s (s := s) q (by omega) (by omega)
  rw [he] at this
  exact this
/-- the steps that a row holds -/
def pp_p (r : Nat → Int32) : List pp_S → Prop
  | [] => True
  | s :: m => nv_c s.1 s.2 (r m.length) ∧ pp_p r m
theorem pp_p_c {r r' : Nat → Int32} : ∀ {m : List pp_S}, (∀ j, j < m.length → r' j = r j) → pp_p r m → pp_p r' m
  | [], _, _ => trivial
  | s :: m, h, q => ⟨by rw [h m.length (by rw [List.length_cons]; omega)]; exact q.1, pp_p_c (fun j hj => h j (by rw [List.length_cons]; omega)) q.2⟩
