/-! the law: each case, and its loop (printed by law.py) -/
theorem aa_mI {k k' : Int32 → aa_V → Prop} (h : ∀ x V, k x V → k' x V) : ∀ r V, aa_rI k r V → aa_rI k' r V := fun r V q => by
  cases r with
  | none => exact q
  | some v => cases v <;> first | exact h _ _ q | exact q
theorem aa_mL {k k' : Int64 → aa_V → Prop} (h : ∀ x V, k x V → k' x V) : ∀ r V, aa_rL k r V → aa_rL k' r V := fun r V q => by
  cases r with
  | none => exact q
  | some v => cases v <;> first | exact h _ _ q | exact q
theorem lg_cmp_r (x : Int64) : lg_cmp x x = 0 := by
  unfold lg_cmp
  rw [if_neg (by show ¬ x < x; rw [Int64.lt_iff_toInt_lt]; omega), if_pos rfl]
section
variable {G : ab_G} {L : Nat} {xs : Nat → Int32} {l : Launch} {d : Nat} {i3 : Int32} {V : aa_V}
/-- the script's ints of a call -/
def lawv (L : Nat) (xs : Nat → Int32) (i3 : Int32) : Prop := ∀ j : Nat, j < 6 → vp_in (i3 + nI j) (ac_ST L xs 2).2.1
theorem lc_138 (hI : nv V) (hv : lawv L xs i3) {K : aa_K} (hgo : ∀ W, nv W → ab_J G (ac_ST L xs) l (d + 61) 301 1770 [some (.ref 1000002), some (.ref 0), some (.ref 105), some (.int i3)] [] ac_SK W ac_SK K) :
    ab_J G (ac_ST L xs) l (d + 61) 301 224 [some (.ref 1000002), some (.ref 0), some (.ref 105), some (.int i3)] [] ac_SK V ac_SK K := by
  refine vc_301_224 (d := d + 60) ⟨(hv 1 (by decide)), ?_⟩
  refine ab_EmI (k := fun (x : Int32) V1 => ab_E G (ac_ST L xs) l (d + 60) ac_SK 195 [.ref 105, .int ((ac_ST L xs 2).2.2 ((i3 + (1 : Int32))).toNatClampNeg)] V1 (aa_rI fun (y : Int32) W => x = y ∧ nv W)) (fun x V1 h => ⟨(hv 1 (by decide)), ab_EmI (fun y W g => ⟨fun _ => hgo W g.2, fun z => absurd (by rw [g.1]) z⟩) h⟩) ?_
  exact ab_J.mono (cs_138 (d := d + 58) (Q := fun x y W => x = y ∧ nv W) hI (fun x W g => ⟨rfl, g⟩)) (by omega) (aa_mI fun x V1 h => ab_J.mono h (by omega) (fun _ _ h => h))
theorem lc_139 (hI : nv V) (hv : lawv L xs i3) {K : aa_K} (hgo : ∀ W, nv W → ab_J G (ac_ST L xs) l (d + 61) 301 1770 [some (.ref 1000002), some (.ref 0), some (.ref 105), some (.int i3)] [] ac_SK W ac_SK K) :
    ab_J G (ac_ST L xs) l (d + 61) 301 247 [some (.ref 1000002), some (.ref 0), some (.ref 105), some (.int i3)] [] ac_SK V ac_SK K := by
  refine vc_301_247 (d := d + 60) ⟨(hv 1 (by decide)), (hv 2 (by decide)), (hv 3 (by decide)), ?_⟩
  refine ab_EmI (k := fun (x : Int32) V1 => ab_E G (ac_ST L xs) l (d + 60) ac_SK 196 [.ref 105, .int ((ac_ST L xs 2).2.2 ((i3 + (1 : Int32))).toNatClampNeg), .int ((ac_ST L xs 2).2.2 ((i3 + (2 : Int32))).toNatClampNeg), .int ((ac_ST L xs 2).2.2 ((i3 + (3 : Int32))).toNatClampNeg)] V1 (aa_rI fun (y : Int32) W => x = y ∧ nv W)) (fun x V1 h => ⟨(hv 1 (by decide)), (hv 2 (by decide)), (hv 3 (by decide)), ab_EmI (fun y W g => ⟨fun _ => hgo W g.2, fun z => absurd (by rw [g.1]) z⟩) h⟩) ?_
  exact ab_J.mono (cs_139 (d := d + 57) (Q := fun x y W => x = y ∧ nv W) hI (fun x W g => ⟨rfl, g⟩)) (by omega) (aa_mI fun x V1 h => ab_J.mono h (by omega) (fun _ _ h => h))
theorem lc_140 (hI : nv V) (hv : lawv L xs i3) {K : aa_K} (hgo : ∀ W, nv W → ab_J G (ac_ST L xs) l (d + 61) 301 1770 [some (.ref 1000002), some (.ref 0), some (.ref 105), some (.int i3)] [] ac_SK W ac_SK K) :
    ab_J G (ac_ST L xs) l (d + 61) 301 290 [some (.ref 1000002), some (.ref 0), some (.ref 105), some (.int i3)] [] ac_SK V ac_SK K := by
  refine vc_301_290 (d := d + 60) ⟨(hv 1 (by decide)), (hv 2 (by decide)), (hv 3 (by decide)), ?_⟩
  refine ab_EmI (k := fun (x : Int32) V1 => ab_E G (ac_ST L xs) l (d + 60) ac_SK 198 [.ref 105, .int ((ac_ST L xs 2).2.2 ((i3 + (1 : Int32))).toNatClampNeg), .int ((ac_ST L xs 2).2.2 ((i3 + (2 : Int32))).toNatClampNeg), .int ((ac_ST L xs 2).2.2 ((i3 + (3 : Int32))).toNatClampNeg)] V1 (aa_rI fun (y : Int32) W => x = y ∧ nv W)) (fun x V1 h => ⟨(hv 1 (by decide)), (hv 2 (by decide)), (hv 3 (by decide)), ab_EmI (fun y W g => ⟨fun _ => hgo W g.2, fun z => absurd (by rw [g.1]) z⟩) h⟩) ?_
  exact ab_J.mono (cs_140 (d := d + 57) (Q := fun x y W => x = y ∧ nv W) hI (fun x W g => ⟨rfl, g⟩)) (by omega) (aa_mI fun x V1 h => ab_J.mono h (by omega) (fun _ _ h => h))
theorem lc_141 (hI : nv V) (hv : lawv L xs i3) {K : aa_K} (hgo : ∀ W, nv W → ab_J G (ac_ST L xs) l (d + 61) 301 1770 [some (.ref 1000002), some (.ref 0), some (.ref 105), some (.int i3)] [] ac_SK W ac_SK K) :
    ab_J G (ac_ST L xs) l (d + 61) 301 333 [some (.ref 1000002), some (.ref 0), some (.ref 105), some (.int i3)] [] ac_SK V ac_SK K := by
  refine vc_301_333 (d := d + 60) ⟨(hv 1 (by decide)), (hv 2 (by decide)), ?_⟩
  refine ab_EmI (k := fun (x : Int32) V1 => ab_E G (ac_ST L xs) l (d + 60) ac_SK 201 [.ref 105, .int ((ac_ST L xs 2).2.2 ((i3 + (1 : Int32))).toNatClampNeg), .int ((ac_ST L xs 2).2.2 ((i3 + (2 : Int32))).toNatClampNeg)] V1 (aa_rI fun (y : Int32) W => x = y ∧ nv W)) (fun x V1 h => ⟨(hv 1 (by decide)), (hv 2 (by decide)), ab_EmI (fun y W g => ⟨fun _ => hgo W g.2, fun z => absurd (by rw [g.1]) z⟩) h⟩) ?_
  exact ab_J.mono (cs_141 (d := d + 57) (Q := fun x y W => x = y ∧ nv W) hI (fun x W g => ⟨rfl, g⟩)) (by omega) (aa_mI fun x V1 h => ab_J.mono h (by omega) (fun _ _ h => h))
theorem lc_142 (hI : nv V) (hv : lawv L xs i3) {K : aa_K} (hgo : ∀ W, nv W → ab_J G (ac_ST L xs) l (d + 61) 301 1770 [some (.ref 1000002), some (.ref 0), some (.ref 105), some (.int i3)] [] ac_SK W ac_SK K) :
    ab_J G (ac_ST L xs) l (d + 61) 301 366 [some (.ref 1000002), some (.ref 0), some (.ref 105), some (.int i3)] [] ac_SK V ac_SK K := by
  refine vc_301_366 (d := d + 60) ⟨(hv 1 (by decide)), (hv 2 (by decide)), ?_⟩
  refine ab_EmI (k := fun (x : Int32) V1 => ab_E G (ac_ST L xs) l (d + 60) ac_SK 202 [.ref 105, .int ((ac_ST L xs 2).2.2 ((i3 + (1 : Int32))).toNatClampNeg), .int ((ac_ST L xs 2).2.2 ((i3 + (2 : Int32))).toNatClampNeg)] V1 (aa_rI fun (y : Int32) W => x = y ∧ nv W)) (fun x V1 h => ⟨(hv 1 (by decide)), (hv 2 (by decide)), ab_EmI (fun y W g => ⟨fun _ => hgo W g.2, fun z => absurd (by rw [g.1]) z⟩) h⟩) ?_
  exact ab_J.mono (cs_142 (d := d + 57) (Q := fun x y W => x = y ∧ nv W) hI (fun x W g => ⟨rfl, g⟩)) (by omega) (aa_mI fun x V1 h => ab_J.mono h (by omega) (fun _ _ h => h))
theorem lc_143 (hI : nv V) (hv : lawv L xs i3) {K : aa_K} (hgo : ∀ W, nv W → ab_J G (ac_ST L xs) l (d + 61) 301 1770 [some (.ref 1000002), some (.ref 0), some (.ref 105), some (.int i3)] [] ac_SK W ac_SK K) :
    ab_J G (ac_ST L xs) l (d + 61) 301 399 [some (.ref 1000002), some (.ref 0), some (.ref 105), some (.int i3)] [] ac_SK V ac_SK K := by
  refine vc_301_399 (d := d + 60) ⟨(hv 1 (by decide)), (hv 2 (by decide)), (hv 3 (by decide)), (hv 4 (by decide)), ?_⟩
  refine ab_EmI (k := fun (x : Int32) V1 => ab_E G (ac_ST L xs) l (d + 60) ac_SK 203 [.ref 105, .int ((ac_ST L xs 2).2.2 ((i3 + (1 : Int32))).toNatClampNeg), .int ((ac_ST L xs 2).2.2 ((i3 + (2 : Int32))).toNatClampNeg), .int ((ac_ST L xs 2).2.2 ((i3 + (3 : Int32))).toNatClampNeg), .int ((ac_ST L xs 2).2.2 ((i3 + (4 : Int32))).toNatClampNeg)] V1 (aa_rI fun (y : Int32) W => x = y ∧ nv W)) (fun x V1 h => ⟨(hv 1 (by decide)), (hv 2 (by decide)), (hv 3 (by decide)), (hv 4 (by decide)), ab_EmI (fun y W g => ⟨fun _ => hgo W g.2, fun z => absurd (by rw [g.1]) z⟩) h⟩) ?_
  exact ab_J.mono (cs_143 (d := d + 57) (Q := fun x y W => x = y ∧ nv W) hI (fun x W g => ⟨rfl, g⟩)) (by omega) (aa_mI fun x V1 h => ab_J.mono h (by omega) (fun _ _ h => h))
theorem lc_144 (hI : nv V) (hv : lawv L xs i3) {K : aa_K} (hgo : ∀ W, nv W → ab_J G (ac_ST L xs) l (d + 61) 301 1770 [some (.ref 1000002), some (.ref 0), some (.ref 105), some (.int i3)] [] ac_SK W ac_SK K) :
    ab_J G (ac_ST L xs) l (d + 61) 301 452 [some (.ref 1000002), some (.ref 0), some (.ref 105), some (.int i3)] [] ac_SK V ac_SK K := by
  refine vc_301_452 (d := d + 60) ⟨(hv 1 (by decide)), (hv 2 (by decide)), ?_⟩
  refine ab_EmL (k := fun (x : Int64) V1 => ab_E G (ac_ST L xs) l (d + 60) ac_SK 207 [.ref 105, .int ((ac_ST L xs 2).2.2 ((i3 + (1 : Int32))).toNatClampNeg), .int ((ac_ST L xs 2).2.2 ((i3 + (2 : Int32))).toNatClampNeg)] V1 (aa_rL fun (y : Int64) W => x = y ∧ nv W)) (fun x V1 h => ⟨(hv 1 (by decide)), (hv 2 (by decide)), ab_EmL (fun y W g => ⟨fun _ => hgo W g.2, fun z => absurd (by rw [g.1]; exact lg_cmp_r _) z⟩) h⟩) ?_
  exact ab_J.mono (cs_144 (d := d + 56) (Q := fun x y W => x = y ∧ nv W) hI (fun x W g => ⟨rfl, g⟩)) (by omega) (aa_mL fun x V1 h => ab_J.mono h (by omega) (fun _ _ h => h))
theorem lc_145 (hI : nv V) (hv : lawv L xs i3) {K : aa_K} (hgo : ∀ W, nv W → ab_J G (ac_ST L xs) l (d + 61) 301 1770 [some (.ref 1000002), some (.ref 0), some (.ref 105), some (.int i3)] [] ac_SK W ac_SK K) :
    ab_J G (ac_ST L xs) l (d + 61) 301 486 [some (.ref 1000002), some (.ref 0), some (.ref 105), some (.int i3)] [] ac_SK V ac_SK K := by
  refine vc_301_486 (d := d + 60) ⟨(hv 1 (by decide)), (hv 2 (by decide)), ?_⟩
  refine ab_EmI (k := fun (x : Int32) V1 => ab_E G (ac_ST L xs) l (d + 60) ac_SK 208 [.ref 105, .int ((ac_ST L xs 2).2.2 ((i3 + (1 : Int32))).toNatClampNeg), .int ((ac_ST L xs 2).2.2 ((i3 + (2 : Int32))).toNatClampNeg)] V1 (aa_rI fun (y : Int32) W => x = y ∧ nv W)) (fun x V1 h => ⟨(hv 1 (by decide)), (hv 2 (by decide)), ab_EmI (fun y W g => ⟨fun _ => hgo W g.2, fun z => absurd (by rw [g.1]) z⟩) h⟩) ?_
  exact ab_J.mono (cs_145 (d := d + 57) (Q := fun x y W => x = y ∧ nv W) hI (fun x W g => ⟨rfl, g⟩)) (by omega) (aa_mI fun x V1 h => ab_J.mono h (by omega) (fun _ _ h => h))
theorem lc_146 (hI : nv V) (hv : lawv L xs i3) {K : aa_K} (hgo : ∀ W, nv W → ab_J G (ac_ST L xs) l (d + 61) 301 1770 [some (.ref 1000002), some (.ref 0), some (.ref 105), some (.int i3)] [] ac_SK W ac_SK K) :
    ab_J G (ac_ST L xs) l (d + 61) 301 519 [some (.ref 1000002), some (.ref 0), some (.ref 105), some (.int i3)] [] ac_SK V ac_SK K := by
  refine vc_301_519 (d := d + 60) ⟨(hv 1 (by decide)), ?_⟩
  refine ab_EmI (k := fun (x : Int32) V1 => ab_E G (ac_ST L xs) l (d + 60) ac_SK 209 [.ref 105, .int ((ac_ST L xs 2).2.2 ((i3 + (1 : Int32))).toNatClampNeg)] V1 (aa_rI fun (y : Int32) W => x = y ∧ nv W)) (fun x V1 h => ⟨(hv 1 (by decide)), ab_EmI (fun y W g => ⟨fun _ => hgo W g.2, fun z => absurd (by rw [g.1]) z⟩) h⟩) ?_
  exact ab_J.mono (cs_146 (d := d + 54) (Q := fun x y W => x = y ∧ nv W) hI (fun x W g => ⟨rfl, g⟩)) (by omega) (aa_mI fun x V1 h => ab_J.mono h (by omega) (fun _ _ h => h))
theorem lc_147 (hI : nv V) (hv : lawv L xs i3) {K : aa_K} (hgo : ∀ W, nv W → ab_J G (ac_ST L xs) l (d + 61) 301 1770 [some (.ref 1000002), some (.ref 0), some (.ref 105), some (.int i3)] [] ac_SK W ac_SK K) :
    ab_J G (ac_ST L xs) l (d + 61) 301 542 [some (.ref 1000002), some (.ref 0), some (.ref 105), some (.int i3)] [] ac_SK V ac_SK K := by
  refine vc_301_542 (d := d + 60) ⟨(hv 1 (by decide)), ?_⟩
  refine ab_EmL (k := fun (x : Int64) V1 => ab_E G (ac_ST L xs) l (d + 60) ac_SK 210 [.ref 105, .int ((ac_ST L xs 2).2.2 ((i3 + (1 : Int32))).toNatClampNeg)] V1 (aa_rL fun (y : Int64) W => x = y ∧ nv W)) (fun x V1 h => ⟨(hv 1 (by decide)), ab_EmL (fun y W g => ⟨fun _ => hgo W g.2, fun z => absurd (by rw [g.1]; exact lg_cmp_r _) z⟩) h⟩) ?_
  exact ab_J.mono (cs_147 (d := d + 56) (Q := fun x y W => x = y ∧ nv W) hI (fun x W g => ⟨rfl, g⟩)) (by omega) (aa_mL fun x V1 h => ab_J.mono h (by omega) (fun _ _ h => h))
theorem lc_148 (hI : nv V) (hv : lawv L xs i3) {K : aa_K} (hgo : ∀ W, nv W → ab_J G (ac_ST L xs) l (d + 61) 301 1770 [some (.ref 1000002), some (.ref 0), some (.ref 105), some (.int i3)] [] ac_SK W ac_SK K) :
    ab_J G (ac_ST L xs) l (d + 61) 301 566 [some (.ref 1000002), some (.ref 0), some (.ref 105), some (.int i3)] [] ac_SK V ac_SK K := by
  refine vc_301_566 (d := d + 60) ⟨(hv 1 (by decide)), (hv 2 (by decide)), (hv 3 (by decide)), ?_⟩
  refine ab_EmI (k := fun (x : Int32) V1 => ab_E G (ac_ST L xs) l (d + 60) ac_SK 213 [.ref 105, .int ((ac_ST L xs 2).2.2 ((i3 + (1 : Int32))).toNatClampNeg), .long (((((ac_ST L xs 2).2.2 ((i3 + (2 : Int32))).toNatClampNeg).toInt64) <<< ((32 : Int32).toInt64 &&& 63)) ||| ((((ac_ST L xs 2).2.2 ((i3 + (3 : Int32))).toNatClampNeg).toInt64) &&& (4294967295 : Int64)))] V1 (aa_rI fun (y : Int32) W => x = y ∧ nv W)) (fun x V1 h => ⟨(hv 1 (by decide)), (hv 2 (by decide)), (hv 3 (by decide)), ab_EmI (fun y W g => ⟨fun _ => hgo W g.2, fun z => absurd (by rw [g.1]) z⟩) h⟩) ?_
  exact ab_J.mono (cs_148 (d := d + 58) (Q := fun x y W => x = y ∧ nv W) hI (fun x W g => ⟨rfl, g⟩)) (by omega) (aa_mI fun x V1 h => ab_J.mono h (by omega) (fun _ _ h => h))
theorem lc_149 (hI : nv V) (hv : lawv L xs i3) (ht : ∀ {V : aa_V} {Q : Int32 → Int32 → aa_V → Prop}, nv V → (∀ x W, nv W → Q x x W) → ab_E G (ac_ST L xs) l (d + 60) ac_SK 149 [.ref 0] V (aa_rI fun x V1 => ab_E G (ac_ST L xs) l (d + 60) ac_SK 223 [.ref 105] V1 (aa_rI fun y W => Q x y W))) {K : aa_K} (hgo : ∀ W, nv W → ab_J G (ac_ST L xs) l (d + 61) 301 1770 [some (.ref 1000002), some (.ref 0), some (.ref 105), some (.int i3)] [] ac_SK W ac_SK K) :
    ab_J G (ac_ST L xs) l (d + 61) 301 629 [some (.ref 1000002), some (.ref 0), some (.ref 105), some (.int i3)] [] ac_SK V ac_SK K := by
  refine vc_301_629 (d := d + 60) ?_
  refine ab_EmI (k := fun (x : Int32) V1 => ab_E G (ac_ST L xs) l (d + 60) ac_SK 223 [.ref 105] V1 (aa_rI fun (y : Int32) W => x = y ∧ nv W)) (fun x V1 h => ab_EmI (fun y W g => ⟨fun _ => hgo W g.2, fun z => absurd (by rw [g.1]) z⟩) h) ?_
  exact ht hI (fun x W g => ⟨rfl, g⟩)
theorem lc_150 (hI : nv V) (hv : lawv L xs i3) {K : aa_K} (hgo : ∀ W, nv W → ab_J G (ac_ST L xs) l (d + 61) 301 1770 [some (.ref 1000002), some (.ref 0), some (.ref 105), some (.int i3)] [] ac_SK W ac_SK K) :
    ab_J G (ac_ST L xs) l (d + 61) 301 642 [some (.ref 1000002), some (.ref 0), some (.ref 105), some (.int i3)] [] ac_SK V ac_SK K := by
  refine vc_301_642 (d := d + 60) ⟨(hv 1 (by decide)), ?_⟩
  refine ab_EmI (k := fun (x : Int32) V1 => ab_E G (ac_ST L xs) l (d + 60) ac_SK 224 [.ref 105, .int ((ac_ST L xs 2).2.2 ((i3 + (1 : Int32))).toNatClampNeg)] V1 (aa_rI fun (y : Int32) W => x = y ∧ nv W)) (fun x V1 h => ⟨(hv 1 (by decide)), ab_EmI (fun y W g => ⟨fun _ => hgo W g.2, fun z => absurd (by rw [g.1]) z⟩) h⟩) ?_
  exact ab_J.mono (cs_150 (d := d + 58) (Q := fun x y W => x = y ∧ nv W) hI (fun x W g => ⟨rfl, g⟩)) (by omega) (aa_mI fun x V1 h => ab_J.mono h (by omega) (fun _ _ h => h))
theorem lc_151 (hI : nv V) (hv : lawv L xs i3) {K : aa_K} (hgo : ∀ W, nv W → ab_J G (ac_ST L xs) l (d + 61) 301 1770 [some (.ref 1000002), some (.ref 0), some (.ref 105), some (.int i3)] [] ac_SK W ac_SK K) :
    ab_J G (ac_ST L xs) l (d + 61) 301 665 [some (.ref 1000002), some (.ref 0), some (.ref 105), some (.int i3)] [] ac_SK V ac_SK K := by
  refine vc_301_665 (d := d + 60) ⟨(hv 1 (by decide)), (hv 2 (by decide)), ?_⟩
  refine ab_EmL (k := fun (x : Int64) V1 => ab_E G (ac_ST L xs) l (d + 60) ac_SK 228 [.ref 105, .int ((ac_ST L xs 2).2.2 ((i3 + (1 : Int32))).toNatClampNeg), .int ((ac_ST L xs 2).2.2 ((i3 + (2 : Int32))).toNatClampNeg)] V1 (aa_rL fun (y : Int64) W => x = y ∧ nv W)) (fun x V1 h => ⟨(hv 1 (by decide)), (hv 2 (by decide)), ab_EmL (fun y W g => ⟨fun _ => hgo W g.2, fun z => absurd (by rw [g.1]; exact lg_cmp_r _) z⟩) h⟩) ?_
  exact ab_J.mono (cs_151 (d := d + 53) (Q := fun x y W => x = y ∧ nv W) hI (fun x W g => ⟨rfl, g⟩)) (by omega) (aa_mL fun x V1 h => ab_J.mono h (by omega) (fun _ _ h => h))
theorem lc_152 (hI : nv V) (hv : lawv L xs i3) {K : aa_K} (hgo : ∀ W, nv W → ab_J G (ac_ST L xs) l (d + 61) 301 1770 [some (.ref 1000002), some (.ref 0), some (.ref 105), some (.int i3)] [] ac_SK W ac_SK K) :
    ab_J G (ac_ST L xs) l (d + 61) 301 699 [some (.ref 1000002), some (.ref 0), some (.ref 105), some (.int i3)] [] ac_SK V ac_SK K := by
  refine vc_301_699 (d := d + 60) ⟨(hv 1 (by decide)), (hv 2 (by decide)), ?_⟩
  refine ab_EmI (k := fun (x : Int32) V1 => ab_E G (ac_ST L xs) l (d + 60) ac_SK 229 [.ref 105, .int ((ac_ST L xs 2).2.2 ((i3 + (1 : Int32))).toNatClampNeg), .int ((ac_ST L xs 2).2.2 ((i3 + (2 : Int32))).toNatClampNeg)] V1 (aa_rI fun (y : Int32) W => x = y ∧ nv W)) (fun x V1 h => ⟨(hv 1 (by decide)), (hv 2 (by decide)), ab_EmI (fun y W g => ⟨fun _ => hgo W g.2, fun z => absurd (by rw [g.1]) z⟩) h⟩) ?_
  exact ab_J.mono (cs_152 (d := d + 57) (Q := fun x y W => x = y ∧ nv W) hI (fun x W g => ⟨rfl, g⟩)) (by omega) (aa_mI fun x V1 h => ab_J.mono h (by omega) (fun _ _ h => h))
theorem lc_153 (hI : nv V) (hv : lawv L xs i3) {K : aa_K} (hgo : ∀ W, nv W → ab_J G (ac_ST L xs) l (d + 61) 301 1770 [some (.ref 1000002), some (.ref 0), some (.ref 105), some (.int i3)] [] ac_SK W ac_SK K) :
    ab_J G (ac_ST L xs) l (d + 61) 301 732 [some (.ref 1000002), some (.ref 0), some (.ref 105), some (.int i3)] [] ac_SK V ac_SK K := by
  refine vc_301_732 (d := d + 60) ⟨(hv 1 (by decide)), ?_⟩
  refine ab_EmI (k := fun (x : Int32) V1 => ab_E G (ac_ST L xs) l (d + 60) ac_SK 234 [.ref 105, .int ((ac_ST L xs 2).2.2 ((i3 + (1 : Int32))).toNatClampNeg)] V1 (aa_rI fun (y : Int32) W => x = y ∧ nv W)) (fun x V1 h => ⟨(hv 1 (by decide)), ab_EmI (fun y W g => ⟨fun _ => hgo W g.2, fun z => absurd (by rw [g.1]) z⟩) h⟩) ?_
  exact ab_J.mono (cs_153 (d := d + 56) (Q := fun x y W => x = y ∧ nv W) hI (fun x W g => ⟨rfl, g⟩)) (by omega) (aa_mI fun x V1 h => ab_J.mono h (by omega) (fun _ _ h => h))
theorem lc_154 (hI : nv V) (hv : lawv L xs i3) {K : aa_K} (hgo : ∀ W, nv W → ab_J G (ac_ST L xs) l (d + 61) 301 1770 [some (.ref 1000002), some (.ref 0), some (.ref 105), some (.int i3)] [] ac_SK W ac_SK K) :
    ab_J G (ac_ST L xs) l (d + 61) 301 755 [some (.ref 1000002), some (.ref 0), some (.ref 105), some (.int i3)] [] ac_SK V ac_SK K := by
  refine vc_301_755 (d := d + 60) ?_
  refine ab_EmI (k := fun (x : Int32) V1 => ab_E G (ac_ST L xs) l (d + 60) ac_SK 237 [.ref 105] V1 (aa_rI fun (y : Int32) W => x = y ∧ nv W)) (fun x V1 h => ab_EmI (fun y W g => ⟨fun _ => hgo W g.2, fun z => absurd (by rw [g.1]) z⟩) h) ?_
  exact ab_J.mono (cs_154 (d := d + 56) (Q := fun x y W => x = y ∧ nv W) hI (fun x W g => ⟨rfl, g⟩)) (by omega) (aa_mI fun x V1 h => ab_J.mono h (by omega) (fun _ _ h => h))
theorem lc_155 (hI : nv V) (hv : lawv L xs i3) {K : aa_K} (hgo : ∀ W, nv W → ab_J G (ac_ST L xs) l (d + 61) 301 1770 [some (.ref 1000002), some (.ref 0), some (.ref 105), some (.int i3)] [] ac_SK W ac_SK K) :
    ab_J G (ac_ST L xs) l (d + 61) 301 768 [some (.ref 1000002), some (.ref 0), some (.ref 105), some (.int i3)] [] ac_SK V ac_SK K := by
  refine vc_301_768 (d := d + 60) ⟨(hv 1 (by decide)), ?_⟩
  refine ab_EmI (k := fun (x : Int32) V1 => ab_E G (ac_ST L xs) l (d + 60) ac_SK 238 [.ref 105, .int ((ac_ST L xs 2).2.2 ((i3 + (1 : Int32))).toNatClampNeg)] V1 (aa_rI fun (y : Int32) W => x = y ∧ nv W)) (fun x V1 h => ⟨(hv 1 (by decide)), ab_EmI (fun y W g => ⟨fun _ => hgo W g.2, fun z => absurd (by rw [g.1]) z⟩) h⟩) ?_
  exact ab_J.mono (cs_155 (d := d + 56) (Q := fun x y W => x = y ∧ nv W) hI (fun x W g => ⟨rfl, g⟩)) (by omega) (aa_mI fun x V1 h => ab_J.mono h (by omega) (fun _ _ h => h))
theorem lc_156 (hI : nv V) (hv : lawv L xs i3) {K : aa_K} (hgo : ∀ W, nv W → ab_J G (ac_ST L xs) l (d + 61) 301 1770 [some (.ref 1000002), some (.ref 0), some (.ref 105), some (.int i3)] [] ac_SK W ac_SK K) :
    ab_J G (ac_ST L xs) l (d + 61) 301 791 [some (.ref 1000002), some (.ref 0), some (.ref 105), some (.int i3)] [] ac_SK V ac_SK K := by
  refine vc_301_791 (d := d + 60) ⟨(hv 1 (by decide)), ?_⟩
  refine ab_EmI (k := fun (x : Int32) V1 => ab_E G (ac_ST L xs) l (d + 60) ac_SK 239 [.ref 105, .int ((ac_ST L xs 2).2.2 ((i3 + (1 : Int32))).toNatClampNeg)] V1 (aa_rI fun (y : Int32) W => x = y ∧ nv W)) (fun x V1 h => ⟨(hv 1 (by decide)), ab_EmI (fun y W g => ⟨fun _ => hgo W g.2, fun z => absurd (by rw [g.1]) z⟩) h⟩) ?_
  exact ab_J.mono (cs_156 (d := d + 55) (Q := fun x y W => x = y ∧ nv W) hI (fun x W g => ⟨rfl, g⟩)) (by omega) (aa_mI fun x V1 h => ab_J.mono h (by omega) (fun _ _ h => h))
theorem lc_157 (hI : nv V) (hv : lawv L xs i3) {K : aa_K} (hgo : ∀ W, nv W → ab_J G (ac_ST L xs) l (d + 61) 301 1770 [some (.ref 1000002), some (.ref 0), some (.ref 105), some (.int i3)] [] ac_SK W ac_SK K) :
    ab_J G (ac_ST L xs) l (d + 61) 301 814 [some (.ref 1000002), some (.ref 0), some (.ref 105), some (.int i3)] [] ac_SK V ac_SK K := by
  refine vc_301_814 (d := d + 60) ⟨(hv 1 (by decide)), ?_⟩
  refine ab_EmI (k := fun (x : Int32) V1 => ab_E G (ac_ST L xs) l (d + 60) ac_SK 241 [.ref 105, .int ((ac_ST L xs 2).2.2 ((i3 + (1 : Int32))).toNatClampNeg)] V1 (aa_rI fun (y : Int32) W => x = y ∧ nv W)) (fun x V1 h => ⟨(hv 1 (by decide)), ab_EmI (fun y W g => ⟨fun _ => hgo W g.2, fun z => absurd (by rw [g.1]) z⟩) h⟩) ?_
  exact ab_J.mono (cs_157 (d := d + 57) (Q := fun x y W => x = y ∧ nv W) hI (fun x W g => ⟨rfl, g⟩)) (by omega) (aa_mI fun x V1 h => ab_J.mono h (by omega) (fun _ _ h => h))
theorem lc_158 (hI : nv V) (hv : lawv L xs i3) {K : aa_K} (hgo : ∀ W, nv W → ab_J G (ac_ST L xs) l (d + 61) 301 1770 [some (.ref 1000002), some (.ref 0), some (.ref 105), some (.int i3)] [] ac_SK W ac_SK K) :
    ab_J G (ac_ST L xs) l (d + 61) 301 837 [some (.ref 1000002), some (.ref 0), some (.ref 105), some (.int i3)] [] ac_SK V ac_SK K := by
  refine vc_301_837 (d := d + 60) ⟨(hv 1 (by decide)), (hv 2 (by decide)), (hv 3 (by decide)), (hv 4 (by decide)), ?_⟩
  refine ab_EmI (k := fun (x : Int32) V1 => ab_E G (ac_ST L xs) l (d + 60) ac_SK 242 [.ref 105, .int ((ac_ST L xs 2).2.2 ((i3 + (1 : Int32))).toNatClampNeg), .int ((ac_ST L xs 2).2.2 ((i3 + (2 : Int32))).toNatClampNeg), .int ((ac_ST L xs 2).2.2 ((i3 + (3 : Int32))).toNatClampNeg), .int ((ac_ST L xs 2).2.2 ((i3 + (4 : Int32))).toNatClampNeg)] V1 (aa_rI fun (y : Int32) W => x = y ∧ nv W)) (fun x V1 h => ⟨(hv 1 (by decide)), (hv 2 (by decide)), (hv 3 (by decide)), (hv 4 (by decide)), ab_EmI (fun y W g => ⟨fun _ => hgo W g.2, fun z => absurd (by rw [g.1]) z⟩) h⟩) ?_
  exact ab_J.mono (cs_158 (d := d + 57) (Q := fun x y W => x = y ∧ nv W) hI (fun x W g => ⟨rfl, g⟩)) (by omega) (aa_mI fun x V1 h => ab_J.mono h (by omega) (fun _ _ h => h))
theorem lc_159 (hI : nv V) (hv : lawv L xs i3) {K : aa_K} (hgo : ∀ W, nv W → ab_J G (ac_ST L xs) l (d + 61) 301 1770 [some (.ref 1000002), some (.ref 0), some (.ref 105), some (.int i3)] [] ac_SK W ac_SK K) :
    ab_J G (ac_ST L xs) l (d + 61) 301 890 [some (.ref 1000002), some (.ref 0), some (.ref 105), some (.int i3)] [] ac_SK V ac_SK K := by
  refine vc_301_890 (d := d + 60) ⟨(hv 1 (by decide)), (hv 2 (by decide)), (hv 3 (by decide)), (hv 4 (by decide)), ?_⟩
  refine ab_EmI (k := fun (x : Int32) V1 => ab_E G (ac_ST L xs) l (d + 60) ac_SK 246 [.ref 105, .int ((ac_ST L xs 2).2.2 ((i3 + (1 : Int32))).toNatClampNeg), .int ((ac_ST L xs 2).2.2 ((i3 + (2 : Int32))).toNatClampNeg), .int ((ac_ST L xs 2).2.2 ((i3 + (3 : Int32))).toNatClampNeg), .int ((ac_ST L xs 2).2.2 ((i3 + (4 : Int32))).toNatClampNeg)] V1 (aa_rI fun (y : Int32) W => x = y ∧ nv W)) (fun x V1 h => ⟨(hv 1 (by decide)), (hv 2 (by decide)), (hv 3 (by decide)), (hv 4 (by decide)), ab_EmI (fun y W g => ⟨fun _ => hgo W g.2, fun z => absurd (by rw [g.1]) z⟩) h⟩) ?_
  exact ab_J.mono (cs_159 (d := d + 56) (Q := fun x y W => x = y ∧ nv W) hI (fun x W g => ⟨rfl, g⟩)) (by omega) (aa_mI fun x V1 h => ab_J.mono h (by omega) (fun _ _ h => h))
theorem lc_160 (hI : nv V) (hv : lawv L xs i3) {K : aa_K} (hgo : ∀ W, nv W → ab_J G (ac_ST L xs) l (d + 61) 301 1770 [some (.ref 1000002), some (.ref 0), some (.ref 105), some (.int i3)] [] ac_SK W ac_SK K) :
    ab_J G (ac_ST L xs) l (d + 61) 301 943 [some (.ref 1000002), some (.ref 0), some (.ref 105), some (.int i3)] [] ac_SK V ac_SK K := by
  refine vc_301_943 (d := d + 60) ⟨(hv 1 (by decide)), (hv 2 (by decide)), ?_⟩
  refine ab_EmI (k := fun (x : Int32) V1 => ab_E G (ac_ST L xs) l (d + 60) ac_SK 248 [.ref 105, .int ((ac_ST L xs 2).2.2 ((i3 + (1 : Int32))).toNatClampNeg), .int ((ac_ST L xs 2).2.2 ((i3 + (2 : Int32))).toNatClampNeg)] V1 (aa_rI fun (y : Int32) W => x = y ∧ nv W)) (fun x V1 h => ⟨(hv 1 (by decide)), (hv 2 (by decide)), ab_EmI (fun y W g => ⟨fun _ => hgo W g.2, fun z => absurd (by rw [g.1]) z⟩) h⟩) ?_
  exact ab_J.mono (cs_160 (d := d + 54) (Q := fun x y W => x = y ∧ nv W) hI (fun x W g => ⟨rfl, g⟩)) (by omega) (aa_mI fun x V1 h => ab_J.mono h (by omega) (fun _ _ h => h))
theorem lc_161 (hI : nv V) (hv : lawv L xs i3) {K : aa_K} (hgo : ∀ W, nv W → ab_J G (ac_ST L xs) l (d + 61) 301 1770 [some (.ref 1000002), some (.ref 0), some (.ref 105), some (.int i3)] [] ac_SK W ac_SK K) :
    ab_J G (ac_ST L xs) l (d + 61) 301 976 [some (.ref 1000002), some (.ref 0), some (.ref 105), some (.int i3)] [] ac_SK V ac_SK K := by
  refine vc_301_976 (d := d + 60) ⟨(hv 1 (by decide)), (hv 2 (by decide)), (hv 3 (by decide)), (hv 4 (by decide)), ?_⟩
  refine ab_EmI (k := fun (x : Int32) V1 => ab_E G (ac_ST L xs) l (d + 60) ac_SK 249 [.ref 105, .int ((ac_ST L xs 2).2.2 ((i3 + (1 : Int32))).toNatClampNeg), .int ((ac_ST L xs 2).2.2 ((i3 + (2 : Int32))).toNatClampNeg), .int ((ac_ST L xs 2).2.2 ((i3 + (3 : Int32))).toNatClampNeg), .int ((ac_ST L xs 2).2.2 ((i3 + (4 : Int32))).toNatClampNeg)] V1 (aa_rI fun (y : Int32) W => x = y ∧ nv W)) (fun x V1 h => ⟨(hv 1 (by decide)), (hv 2 (by decide)), (hv 3 (by decide)), (hv 4 (by decide)), ab_EmI (fun y W g => ⟨fun _ => hgo W g.2, fun z => absurd (by rw [g.1]) z⟩) h⟩) ?_
  exact ab_J.mono (cs_161 (d := d + 57) (Q := fun x y W => x = y ∧ nv W) hI (fun x W g => ⟨rfl, g⟩)) (by omega) (aa_mI fun x V1 h => ab_J.mono h (by omega) (fun _ _ h => h))
theorem lc_162 (hI : nv V) (hv : lawv L xs i3) {K : aa_K} (hgo : ∀ W, nv W → ab_J G (ac_ST L xs) l (d + 61) 301 1770 [some (.ref 1000002), some (.ref 0), some (.ref 105), some (.int i3)] [] ac_SK W ac_SK K) :
    ab_J G (ac_ST L xs) l (d + 61) 301 1029 [some (.ref 1000002), some (.ref 0), some (.ref 105), some (.int i3)] [] ac_SK V ac_SK K := by
  refine vc_301_1029 (d := d + 60) ⟨(hv 1 (by decide)), ?_⟩
  refine ab_EmI (k := fun (x : Int32) V1 => ab_E G (ac_ST L xs) l (d + 60) ac_SK 251 [.ref 105, .int ((ac_ST L xs 2).2.2 ((i3 + (1 : Int32))).toNatClampNeg)] V1 (aa_rI fun (y : Int32) W => x = y ∧ nv W)) (fun x V1 h => ⟨(hv 1 (by decide)), ab_EmI (fun y W g => ⟨fun _ => hgo W g.2, fun z => absurd (by rw [g.1]) z⟩) h⟩) ?_
  exact ab_J.mono (cs_162 (d := d + 54) (Q := fun x y W => x = y ∧ nv W) hI (fun x W g => ⟨rfl, g⟩)) (by omega) (aa_mI fun x V1 h => ab_J.mono h (by omega) (fun _ _ h => h))
theorem lc_163 (hI : nv V) (hv : lawv L xs i3) {K : aa_K} (hgo : ∀ W, nv W → ab_J G (ac_ST L xs) l (d + 61) 301 1770 [some (.ref 1000002), some (.ref 0), some (.ref 105), some (.int i3)] [] ac_SK W ac_SK K) :
    ab_J G (ac_ST L xs) l (d + 61) 301 1052 [some (.ref 1000002), some (.ref 0), some (.ref 105), some (.int i3)] [] ac_SK V ac_SK K := by
  refine vc_301_1052 (d := d + 60) ⟨(hv 1 (by decide)), (hv 2 (by decide)), (hv 3 (by decide)), ?_⟩
  refine ab_EmL (k := fun (x : Int64) V1 => ab_E G (ac_ST L xs) l (d + 60) ac_SK 252 [.ref 105, .int ((ac_ST L xs 2).2.2 ((i3 + (1 : Int32))).toNatClampNeg), .int ((ac_ST L xs 2).2.2 ((i3 + (2 : Int32))).toNatClampNeg), .int ((ac_ST L xs 2).2.2 ((i3 + (3 : Int32))).toNatClampNeg)] V1 (aa_rL fun (y : Int64) W => x = y ∧ nv W)) (fun x V1 h => ⟨(hv 1 (by decide)), (hv 2 (by decide)), (hv 3 (by decide)), ab_EmL (fun y W g => ⟨fun _ => hgo W g.2, fun z => absurd (by rw [g.1]; exact lg_cmp_r _) z⟩) h⟩) ?_
  exact ab_J.mono (cs_163 (d := d + 54) (Q := fun x y W => x = y ∧ nv W) hI (fun x W g => ⟨rfl, g⟩)) (by omega) (aa_mL fun x V1 h => ab_J.mono h (by omega) (fun _ _ h => h))
theorem lc_164 (hI : nv V) (hv : lawv L xs i3) {K : aa_K} (hgo : ∀ W, nv W → ab_J G (ac_ST L xs) l (d + 61) 301 1770 [some (.ref 1000002), some (.ref 0), some (.ref 105), some (.int i3)] [] ac_SK W ac_SK K) :
    ab_J G (ac_ST L xs) l (d + 61) 301 1096 [some (.ref 1000002), some (.ref 0), some (.ref 105), some (.int i3)] [] ac_SK V ac_SK K := by
  refine vc_301_1096 (d := d + 60) ⟨(hv 1 (by decide)), ?_⟩
  refine ab_EmI (k := fun (x : Int32) V1 => ab_E G (ac_ST L xs) l (d + 60) ac_SK 255 [.ref 105, .int ((ac_ST L xs 2).2.2 ((i3 + (1 : Int32))).toNatClampNeg)] V1 (aa_rI fun (y : Int32) W => x = y ∧ nv W)) (fun x V1 h => ⟨(hv 1 (by decide)), ab_EmI (fun y W g => ⟨fun _ => hgo W g.2, fun z => absurd (by rw [g.1]) z⟩) h⟩) ?_
  exact ab_J.mono (cs_164 (d := d + 52) (Q := fun x y W => x = y ∧ nv W) hI (fun x W g => ⟨rfl, g⟩)) (by omega) (aa_mI fun x V1 h => ab_J.mono h (by omega) (fun _ _ h => h))
theorem lc_165 (hI : nv V) (hv : lawv L xs i3) {K : aa_K} (hgo : ∀ W, nv W → ab_J G (ac_ST L xs) l (d + 61) 301 1770 [some (.ref 1000002), some (.ref 0), some (.ref 105), some (.int i3)] [] ac_SK W ac_SK K) :
    ab_J G (ac_ST L xs) l (d + 61) 301 1119 [some (.ref 1000002), some (.ref 0), some (.ref 105), some (.int i3)] [] ac_SK V ac_SK K := by
  refine vc_301_1119 (d := d + 60) ⟨(hv 1 (by decide)), (hv 2 (by decide)), ?_⟩
  refine ab_EmI (k := fun (x : Int32) V1 => ab_E G (ac_ST L xs) l (d + 60) ac_SK 256 [.ref 105, .int ((ac_ST L xs 2).2.2 ((i3 + (1 : Int32))).toNatClampNeg), .int ((ac_ST L xs 2).2.2 ((i3 + (2 : Int32))).toNatClampNeg)] V1 (aa_rI fun (y : Int32) W => x = y ∧ nv W)) (fun x V1 h => ⟨(hv 1 (by decide)), (hv 2 (by decide)), ab_EmI (fun y W g => ⟨fun _ => hgo W g.2, fun z => absurd (by rw [g.1]) z⟩) h⟩) ?_
  exact ab_J.mono (cs_165 (d := d + 52) (Q := fun x y W => x = y ∧ nv W) hI (fun x W g => ⟨rfl, g⟩)) (by omega) (aa_mI fun x V1 h => ab_J.mono h (by omega) (fun _ _ h => h))
theorem lc_166 (hI : nv V) (hv : lawv L xs i3) {K : aa_K} (hgo : ∀ W, nv W → ab_J G (ac_ST L xs) l (d + 61) 301 1770 [some (.ref 1000002), some (.ref 0), some (.ref 105), some (.int i3)] [] ac_SK W ac_SK K) :
    ab_J G (ac_ST L xs) l (d + 61) 301 1152 [some (.ref 1000002), some (.ref 0), some (.ref 105), some (.int i3)] [] ac_SK V ac_SK K := by
  refine vc_301_1152 (d := d + 60) ⟨(hv 1 (by decide)), (hv 2 (by decide)), (hv 3 (by decide)), ?_⟩
  refine ab_EmI (k := fun (x : Int32) V1 => ab_E G (ac_ST L xs) l (d + 60) ac_SK 257 [.ref 105, .int ((ac_ST L xs 2).2.2 ((i3 + (1 : Int32))).toNatClampNeg), .int ((ac_ST L xs 2).2.2 ((i3 + (2 : Int32))).toNatClampNeg), .int ((ac_ST L xs 2).2.2 ((i3 + (3 : Int32))).toNatClampNeg)] V1 (aa_rI fun (y : Int32) W => x = y ∧ nv W)) (fun x V1 h => ⟨(hv 1 (by decide)), (hv 2 (by decide)), (hv 3 (by decide)), ab_EmI (fun y W g => ⟨fun _ => hgo W g.2, fun z => absurd (by rw [g.1]) z⟩) h⟩) ?_
  exact ab_J.mono (cs_166 (d := d + 57) (Q := fun x y W => x = y ∧ nv W) hI (fun x W g => ⟨rfl, g⟩)) (by omega) (aa_mI fun x V1 h => ab_J.mono h (by omega) (fun _ _ h => h))
theorem lc_167 (hI : nv V) (hv : lawv L xs i3) {K : aa_K} (hgo : ∀ W, nv W → ab_J G (ac_ST L xs) l (d + 61) 301 1770 [some (.ref 1000002), some (.ref 0), some (.ref 105), some (.int i3)] [] ac_SK W ac_SK K) :
    ab_J G (ac_ST L xs) l (d + 61) 301 1195 [some (.ref 1000002), some (.ref 0), some (.ref 105), some (.int i3)] [] ac_SK V ac_SK K := by
  refine vc_301_1195 (d := d + 60) ⟨(hv 1 (by decide)), (hv 2 (by decide)), ?_⟩
  refine ab_EmI (k := fun (x : Int32) V1 => ab_E G (ac_ST L xs) l (d + 60) ac_SK 258 [.ref 105, .int ((ac_ST L xs 2).2.2 ((i3 + (1 : Int32))).toNatClampNeg), .int ((ac_ST L xs 2).2.2 ((i3 + (2 : Int32))).toNatClampNeg)] V1 (aa_rI fun (y : Int32) W => x = y ∧ nv W)) (fun x V1 h => ⟨(hv 1 (by decide)), (hv 2 (by decide)), ab_EmI (fun y W g => ⟨fun _ => hgo W g.2, fun z => absurd (by rw [g.1]) z⟩) h⟩) ?_
  exact ab_J.mono (cs_167 (d := d + 57) (Q := fun x y W => x = y ∧ nv W) hI (fun x W g => ⟨rfl, g⟩)) (by omega) (aa_mI fun x V1 h => ab_J.mono h (by omega) (fun _ _ h => h))
theorem lc_168 (hI : nv V) (hv : lawv L xs i3) {K : aa_K} (hgo : ∀ W, nv W → ab_J G (ac_ST L xs) l (d + 61) 301 1770 [some (.ref 1000002), some (.ref 0), some (.ref 105), some (.int i3)] [] ac_SK W ac_SK K) :
    ab_J G (ac_ST L xs) l (d + 61) 301 1228 [some (.ref 1000002), some (.ref 0), some (.ref 105), some (.int i3)] [] ac_SK V ac_SK K := by
  refine vc_301_1228 (d := d + 60) ⟨(hv 1 (by decide)), (hv 2 (by decide)), ?_⟩
  refine ab_EmI (k := fun (x : Int32) V1 => ab_E G (ac_ST L xs) l (d + 60) ac_SK 260 [.ref 105, .int ((ac_ST L xs 2).2.2 ((i3 + (1 : Int32))).toNatClampNeg), .int ((ac_ST L xs 2).2.2 ((i3 + (2 : Int32))).toNatClampNeg)] V1 (aa_rI fun (y : Int32) W => x = y ∧ nv W)) (fun x V1 h => ⟨(hv 1 (by decide)), (hv 2 (by decide)), ab_EmI (fun y W g => ⟨fun _ => hgo W g.2, fun z => absurd (by rw [g.1]) z⟩) h⟩) ?_
  exact ab_J.mono (cs_168 (d := d + 57) (Q := fun x y W => x = y ∧ nv W) hI (fun x W g => ⟨rfl, g⟩)) (by omega) (aa_mI fun x V1 h => ab_J.mono h (by omega) (fun _ _ h => h))
theorem lc_169 (hI : nv V) (hv : lawv L xs i3) {K : aa_K} (hgo : ∀ W, nv W → ab_J G (ac_ST L xs) l (d + 61) 301 1770 [some (.ref 1000002), some (.ref 0), some (.ref 105), some (.int i3)] [] ac_SK W ac_SK K) :
    ab_J G (ac_ST L xs) l (d + 61) 301 1261 [some (.ref 1000002), some (.ref 0), some (.ref 105), some (.int i3)] [] ac_SK V ac_SK K := by
  refine vc_301_1261 (d := d + 60) ?_
  refine ab_EmI (k := fun (x : Int32) V1 => ab_E G (ac_ST L xs) l (d + 60) ac_SK 263 [.ref 105] V1 (aa_rI fun (y : Int32) W => x = y ∧ nv W)) (fun x V1 h => ab_EmI (fun y W g => ⟨fun _ => hgo W g.2, fun z => absurd (by rw [g.1]) z⟩) h) ?_
  exact ab_J.mono (cs_169 (d := d + 56) (Q := fun x y W => x = y ∧ nv W) hI (fun x W g => ⟨rfl, g⟩)) (by omega) (aa_mI fun x V1 h => ab_J.mono h (by omega) (fun _ _ h => h))
theorem lc_170 (hI : nv V) (hv : lawv L xs i3) {K : aa_K} (hgo : ∀ W, nv W → ab_J G (ac_ST L xs) l (d + 61) 301 1770 [some (.ref 1000002), some (.ref 0), some (.ref 105), some (.int i3)] [] ac_SK W ac_SK K) :
    ab_J G (ac_ST L xs) l (d + 61) 301 1274 [some (.ref 1000002), some (.ref 0), some (.ref 105), some (.int i3)] [] ac_SK V ac_SK K := by
  refine vc_301_1274 (d := d + 60) ⟨(hv 1 (by decide)), (hv 2 (by decide)), (hv 3 (by decide)), (hv 4 (by decide)), ?_⟩
  refine ab_EmI (k := fun (x : Int32) V1 => ab_E G (ac_ST L xs) l (d + 60) ac_SK 264 [.ref 105, .int ((ac_ST L xs 2).2.2 ((i3 + (1 : Int32))).toNatClampNeg), .int ((ac_ST L xs 2).2.2 ((i3 + (2 : Int32))).toNatClampNeg), .int ((ac_ST L xs 2).2.2 ((i3 + (3 : Int32))).toNatClampNeg), .int ((ac_ST L xs 2).2.2 ((i3 + (4 : Int32))).toNatClampNeg)] V1 (aa_rI fun (y : Int32) W => x = y ∧ nv W)) (fun x V1 h => ⟨(hv 1 (by decide)), (hv 2 (by decide)), (hv 3 (by decide)), (hv 4 (by decide)), ab_EmI (fun y W g => ⟨fun _ => hgo W g.2, fun z => absurd (by rw [g.1]) z⟩) h⟩) ?_
  exact ab_J.mono (cs_170 (d := d + 55) (Q := fun x y W => x = y ∧ nv W) hI (fun x W g => ⟨rfl, g⟩)) (by omega) (aa_mI fun x V1 h => ab_J.mono h (by omega) (fun _ _ h => h))
theorem lc_171 (hI : nv V) (hv : lawv L xs i3) {K : aa_K} (hgo : ∀ W, nv W → ab_J G (ac_ST L xs) l (d + 61) 301 1770 [some (.ref 1000002), some (.ref 0), some (.ref 105), some (.int i3)] [] ac_SK W ac_SK K) :
    ab_J G (ac_ST L xs) l (d + 61) 301 1327 [some (.ref 1000002), some (.ref 0), some (.ref 105), some (.int i3)] [] ac_SK V ac_SK K := by
  refine vc_301_1327 (d := d + 60) ⟨(hv 1 (by decide)), (hv 2 (by decide)), ?_⟩
  refine ab_EmI (k := fun (x : Int32) V1 => ab_E G (ac_ST L xs) l (d + 60) ac_SK 266 [.ref 105, .int ((ac_ST L xs 2).2.2 ((i3 + (1 : Int32))).toNatClampNeg), .int ((ac_ST L xs 2).2.2 ((i3 + (2 : Int32))).toNatClampNeg)] V1 (aa_rI fun (y : Int32) W => x = y ∧ nv W)) (fun x V1 h => ⟨(hv 1 (by decide)), (hv 2 (by decide)), ab_EmI (fun y W g => ⟨fun _ => hgo W g.2, fun z => absurd (by rw [g.1]) z⟩) h⟩) ?_
  exact ab_J.mono (cs_171 (d := d + 58) (Q := fun x y W => x = y ∧ nv W) hI (fun x W g => ⟨rfl, g⟩)) (by omega) (aa_mI fun x V1 h => ab_J.mono h (by omega) (fun _ _ h => h))
theorem lc_172 (hI : nv V) (hv : lawv L xs i3) {K : aa_K} (hgo : ∀ W, nv W → ab_J G (ac_ST L xs) l (d + 61) 301 1770 [some (.ref 1000002), some (.ref 0), some (.ref 105), some (.int i3)] [] ac_SK W ac_SK K) :
    ab_J G (ac_ST L xs) l (d + 61) 301 1360 [some (.ref 1000002), some (.ref 0), some (.ref 105), some (.int i3)] [] ac_SK V ac_SK K := by
  refine vc_301_1360 (d := d + 60) ⟨(hv 1 (by decide)), (hv 2 (by decide)), ?_⟩
  refine ab_EmI (k := fun (x : Int32) V1 => ab_E G (ac_ST L xs) l (d + 60) ac_SK 267 [.ref 105, .int ((ac_ST L xs 2).2.2 ((i3 + (1 : Int32))).toNatClampNeg), .int ((ac_ST L xs 2).2.2 ((i3 + (2 : Int32))).toNatClampNeg)] V1 (aa_rI fun (y : Int32) W => x = y ∧ nv W)) (fun x V1 h => ⟨(hv 1 (by decide)), (hv 2 (by decide)), ab_EmI (fun y W g => ⟨fun _ => hgo W g.2, fun z => absurd (by rw [g.1]) z⟩) h⟩) ?_
  exact ab_J.mono (cs_172 (d := d + 57) (Q := fun x y W => x = y ∧ nv W) hI (fun x W g => ⟨rfl, g⟩)) (by omega) (aa_mI fun x V1 h => ab_J.mono h (by omega) (fun _ _ h => h))
theorem lc_173 (hI : nv V) (hv : lawv L xs i3) {K : aa_K} (hgo : ∀ W, nv W → ab_J G (ac_ST L xs) l (d + 61) 301 1770 [some (.ref 1000002), some (.ref 0), some (.ref 105), some (.int i3)] [] ac_SK W ac_SK K) :
    ab_J G (ac_ST L xs) l (d + 61) 301 1393 [some (.ref 1000002), some (.ref 0), some (.ref 105), some (.int i3)] [] ac_SK V ac_SK K := by
  refine vc_301_1393 (d := d + 60) ⟨(hv 1 (by decide)), (hv 2 (by decide)), ?_⟩
  refine ab_EmI (k := fun (x : Int32) V1 => ab_E G (ac_ST L xs) l (d + 60) ac_SK 268 [.ref 105, .int ((ac_ST L xs 2).2.2 ((i3 + (1 : Int32))).toNatClampNeg), .int ((ac_ST L xs 2).2.2 ((i3 + (2 : Int32))).toNatClampNeg)] V1 (aa_rI fun (y : Int32) W => x = y ∧ nv W)) (fun x V1 h => ⟨(hv 1 (by decide)), (hv 2 (by decide)), ab_EmI (fun y W g => ⟨fun _ => hgo W g.2, fun z => absurd (by rw [g.1]) z⟩) h⟩) ?_
  exact ab_J.mono (cs_173 (d := d + 56) (Q := fun x y W => x = y ∧ nv W) hI (fun x W g => ⟨rfl, g⟩)) (by omega) (aa_mI fun x V1 h => ab_J.mono h (by omega) (fun _ _ h => h))
theorem lc_174 (hI : nv V) (hv : lawv L xs i3) {K : aa_K} (hgo : ∀ W, nv W → ab_J G (ac_ST L xs) l (d + 61) 301 1770 [some (.ref 1000002), some (.ref 0), some (.ref 105), some (.int i3)] [] ac_SK W ac_SK K) :
    ab_J G (ac_ST L xs) l (d + 61) 301 1426 [some (.ref 1000002), some (.ref 0), some (.ref 105), some (.int i3)] [] ac_SK V ac_SK K := by
  refine vc_301_1426 (d := d + 60) ⟨(hv 1 (by decide)), (hv 2 (by decide)), ?_⟩
  refine ab_EmI (k := fun (x : Int32) V1 => ab_E G (ac_ST L xs) l (d + 60) ac_SK 269 [.ref 105, .long (((((ac_ST L xs 2).2.2 ((i3 + (1 : Int32))).toNatClampNeg).toInt64) <<< ((32 : Int32).toInt64 &&& 63)) ||| ((((ac_ST L xs 2).2.2 ((i3 + (2 : Int32))).toNatClampNeg).toInt64) &&& (4294967295 : Int64)))] V1 (aa_rI fun (y : Int32) W => x = y ∧ nv W)) (fun x V1 h => ⟨(hv 1 (by decide)), (hv 2 (by decide)), ab_EmI (fun y W g => ⟨fun _ => hgo W g.2, fun z => absurd (by rw [g.1]) z⟩) h⟩) ?_
  exact ab_J.mono (cs_174 (d := d + 58) (Q := fun x y W => x = y ∧ nv W) hI (fun x W g => ⟨rfl, g⟩)) (by omega) (aa_mI fun x V1 h => ab_J.mono h (by omega) (fun _ _ h => h))
theorem lc_175 (hI : nv V) (hv : lawv L xs i3) {K : aa_K} (hgo : ∀ W, nv W → ab_J G (ac_ST L xs) l (d + 61) 301 1770 [some (.ref 1000002), some (.ref 0), some (.ref 105), some (.int i3)] [] ac_SK W ac_SK K) :
    ab_J G (ac_ST L xs) l (d + 61) 301 1479 [some (.ref 1000002), some (.ref 0), some (.ref 105), some (.int i3)] [] ac_SK V ac_SK K := by
  refine vc_301_1479 (d := d + 60) ⟨(hv 1 (by decide)), (hv 2 (by decide)), ?_⟩
  refine ab_EmI (k := fun (x : Int32) V1 => ab_E G (ac_ST L xs) l (d + 60) ac_SK 274 [.ref 105, .int ((ac_ST L xs 2).2.2 ((i3 + (1 : Int32))).toNatClampNeg), .int ((ac_ST L xs 2).2.2 ((i3 + (2 : Int32))).toNatClampNeg)] V1 (aa_rI fun (y : Int32) W => x = y ∧ nv W)) (fun x V1 h => ⟨(hv 1 (by decide)), (hv 2 (by decide)), ab_EmI (fun y W g => ⟨fun _ => hgo W g.2, fun z => absurd (by rw [g.1]) z⟩) h⟩) ?_
  exact ab_J.mono (cs_175 (d := d + 55) (Q := fun x y W => x = y ∧ nv W) hI (fun x W g => ⟨rfl, g⟩)) (by omega) (aa_mI fun x V1 h => ab_J.mono h (by omega) (fun _ _ h => h))
theorem lc_176 (hI : nv V) (hv : lawv L xs i3) {K : aa_K} (hgo : ∀ W, nv W → ab_J G (ac_ST L xs) l (d + 61) 301 1770 [some (.ref 1000002), some (.ref 0), some (.ref 105), some (.int i3)] [] ac_SK W ac_SK K) :
    ab_J G (ac_ST L xs) l (d + 61) 301 1512 [some (.ref 1000002), some (.ref 0), some (.ref 105), some (.int i3)] [] ac_SK V ac_SK K := by
  refine vc_301_1512 (d := d + 60) ⟨(hv 1 (by decide)), ?_⟩
  refine ab_EmI (k := fun (x : Int32) V1 => ab_E G (ac_ST L xs) l (d + 60) ac_SK 276 [.ref 105, .int ((ac_ST L xs 2).2.2 ((i3 + (1 : Int32))).toNatClampNeg)] V1 (aa_rI fun (y : Int32) W => x = y ∧ nv W)) (fun x V1 h => ⟨(hv 1 (by decide)), ab_EmI (fun y W g => ⟨fun _ => hgo W g.2, fun z => absurd (by rw [g.1]) z⟩) h⟩) ?_
  exact ab_J.mono (cs_176 (d := d + 57) (Q := fun x y W => x = y ∧ nv W) hI (fun x W g => ⟨rfl, g⟩)) (by omega) (aa_mI fun x V1 h => ab_J.mono h (by omega) (fun _ _ h => h))
theorem lc_177 (hI : nv V) (hv : lawv L xs i3) {K : aa_K} (hgo : ∀ W, nv W → ab_J G (ac_ST L xs) l (d + 61) 301 1770 [some (.ref 1000002), some (.ref 0), some (.ref 105), some (.int i3)] [] ac_SK W ac_SK K) :
    ab_J G (ac_ST L xs) l (d + 61) 301 1535 [some (.ref 1000002), some (.ref 0), some (.ref 105), some (.int i3)] [] ac_SK V ac_SK K := by
  refine vc_301_1535 (d := d + 60) ⟨(hv 1 (by decide)), (hv 2 (by decide)), (hv 3 (by decide)), ?_⟩
  refine ab_EmI (k := fun (x : Int32) V1 => ab_E G (ac_ST L xs) l (d + 60) ac_SK 278 [.ref 105, .int ((ac_ST L xs 2).2.2 ((i3 + (1 : Int32))).toNatClampNeg), .int ((ac_ST L xs 2).2.2 ((i3 + (2 : Int32))).toNatClampNeg), .int ((ac_ST L xs 2).2.2 ((i3 + (3 : Int32))).toNatClampNeg)] V1 (aa_rI fun (y : Int32) W => x = y ∧ nv W)) (fun x V1 h => ⟨(hv 1 (by decide)), (hv 2 (by decide)), (hv 3 (by decide)), ab_EmI (fun y W g => ⟨fun _ => hgo W g.2, fun z => absurd (by rw [g.1]) z⟩) h⟩) ?_
  exact ab_J.mono (cs_177 (d := d + 57) (Q := fun x y W => x = y ∧ nv W) hI (fun x W g => ⟨rfl, g⟩)) (by omega) (aa_mI fun x V1 h => ab_J.mono h (by omega) (fun _ _ h => h))
theorem lc_178 (hI : nv V) (hv : lawv L xs i3) {K : aa_K} (hgo : ∀ W, nv W → ab_J G (ac_ST L xs) l (d + 61) 301 1770 [some (.ref 1000002), some (.ref 0), some (.ref 105), some (.int i3)] [] ac_SK W ac_SK K) :
    ab_J G (ac_ST L xs) l (d + 61) 301 1578 [some (.ref 1000002), some (.ref 0), some (.ref 105), some (.int i3)] [] ac_SK V ac_SK K := by
  refine vc_301_1578 (d := d + 60) ⟨(hv 1 (by decide)), (hv 2 (by decide)), (hv 3 (by decide)), ?_⟩
  refine ab_EmI (k := fun (x : Int32) V1 => ab_E G (ac_ST L xs) l (d + 60) ac_SK 280 [.ref 105, .int ((ac_ST L xs 2).2.2 ((i3 + (1 : Int32))).toNatClampNeg), .int ((ac_ST L xs 2).2.2 ((i3 + (2 : Int32))).toNatClampNeg), .int ((ac_ST L xs 2).2.2 ((i3 + (3 : Int32))).toNatClampNeg)] V1 (aa_rI fun (y : Int32) W => x = y ∧ nv W)) (fun x V1 h => ⟨(hv 1 (by decide)), (hv 2 (by decide)), (hv 3 (by decide)), ab_EmI (fun y W g => ⟨fun _ => hgo W g.2, fun z => absurd (by rw [g.1]) z⟩) h⟩) ?_
  exact ab_J.mono (cs_178 (d := d + 57) (Q := fun x y W => x = y ∧ nv W) hI (fun x W g => ⟨rfl, g⟩)) (by omega) (aa_mI fun x V1 h => ab_J.mono h (by omega) (fun _ _ h => h))
theorem lc_179 (hI : nv V) (hv : lawv L xs i3) {K : aa_K} (hgo : ∀ W, nv W → ab_J G (ac_ST L xs) l (d + 61) 301 1770 [some (.ref 1000002), some (.ref 0), some (.ref 105), some (.int i3)] [] ac_SK W ac_SK K) :
    ab_J G (ac_ST L xs) l (d + 61) 301 1621 [some (.ref 1000002), some (.ref 0), some (.ref 105), some (.int i3)] [] ac_SK V ac_SK K := by
  refine vc_301_1621 (d := d + 60) ⟨(hv 1 (by decide)), (hv 2 (by decide)), (hv 3 (by decide)), (hv 4 (by decide)), (hv 5 (by decide)), ?_⟩
  refine ab_EmI (k := fun (x : Int32) V1 => ab_E G (ac_ST L xs) l (d + 60) ac_SK 281 [.ref 105, .int ((ac_ST L xs 2).2.2 ((i3 + (1 : Int32))).toNatClampNeg), .int ((ac_ST L xs 2).2.2 ((i3 + (2 : Int32))).toNatClampNeg), .int ((ac_ST L xs 2).2.2 ((i3 + (3 : Int32))).toNatClampNeg), .int ((ac_ST L xs 2).2.2 ((i3 + (4 : Int32))).toNatClampNeg), .int ((ac_ST L xs 2).2.2 ((i3 + (5 : Int32))).toNatClampNeg)] V1 (aa_rI fun (y : Int32) W => x = y ∧ nv W)) (fun x V1 h => ⟨(hv 1 (by decide)), (hv 2 (by decide)), (hv 3 (by decide)), (hv 4 (by decide)), (hv 5 (by decide)), ab_EmI (fun y W g => ⟨fun _ => hgo W g.2, fun z => absurd (by rw [g.1]) z⟩) h⟩) ?_
  exact ab_J.mono (cs_179 (d := d + 56) (Q := fun x y W => x = y ∧ nv W) hI (fun x W g => ⟨rfl, g⟩)) (by omega) (aa_mI fun x V1 h => ab_J.mono h (by omega) (fun _ _ h => h))
theorem lc_180 (hI : nv V) (hv : lawv L xs i3) {K : aa_K} (hgo : ∀ W, nv W → ab_J G (ac_ST L xs) l (d + 61) 301 1770 [some (.ref 1000002), some (.ref 0), some (.ref 105), some (.int i3)] [] ac_SK W ac_SK K) :
    ab_J G (ac_ST L xs) l (d + 61) 301 1684 [some (.ref 1000002), some (.ref 0), some (.ref 105), some (.int i3)] [] ac_SK V ac_SK K := by
  refine vc_301_1684 (d := d + 60) ⟨(hv 1 (by decide)), (hv 2 (by decide)), (hv 3 (by decide)), (hv 4 (by decide)), ?_⟩
  refine ab_EmI (k := fun (x : Int32) V1 => ab_E G (ac_ST L xs) l (d + 60) ac_SK 282 [.ref 105, .int ((ac_ST L xs 2).2.2 ((i3 + (1 : Int32))).toNatClampNeg), .int ((ac_ST L xs 2).2.2 ((i3 + (2 : Int32))).toNatClampNeg), .int ((ac_ST L xs 2).2.2 ((i3 + (3 : Int32))).toNatClampNeg), .int ((ac_ST L xs 2).2.2 ((i3 + (4 : Int32))).toNatClampNeg)] V1 (aa_rI fun (y : Int32) W => x = y ∧ nv W)) (fun x V1 h => ⟨(hv 1 (by decide)), (hv 2 (by decide)), (hv 3 (by decide)), (hv 4 (by decide)), ab_EmI (fun y W g => ⟨fun _ => hgo W g.2, fun z => absurd (by rw [g.1]) z⟩) h⟩) ?_
  exact ab_J.mono (cs_180 (d := d + 57) (Q := fun x y W => x = y ∧ nv W) hI (fun x W g => ⟨rfl, g⟩)) (by omega) (aa_mI fun x V1 h => ab_J.mono h (by omega) (fun _ _ h => h))
theorem lc_181 (hI : nv V) (hv : lawv L xs i3) {K : aa_K} (hgo : ∀ W, nv W → ab_J G (ac_ST L xs) l (d + 61) 301 1770 [some (.ref 1000002), some (.ref 0), some (.ref 105), some (.int i3)] [] ac_SK W ac_SK K) :
    ab_J G (ac_ST L xs) l (d + 61) 301 1737 [some (.ref 1000002), some (.ref 0), some (.ref 105), some (.int i3)] [] ac_SK V ac_SK K := by
  refine vc_301_1737 (d := d + 60) ⟨(hv 1 (by decide)), (hv 2 (by decide)), ?_⟩
  refine ab_EmI (k := fun (x : Int32) V1 => ab_E G (ac_ST L xs) l (d + 60) ac_SK 284 [.ref 105, .int ((ac_ST L xs 2).2.2 ((i3 + (1 : Int32))).toNatClampNeg), .int ((ac_ST L xs 2).2.2 ((i3 + (2 : Int32))).toNatClampNeg)] V1 (aa_rI fun (y : Int32) W => x = y ∧ nv W)) (fun x V1 h => ⟨(hv 1 (by decide)), (hv 2 (by decide)), ab_EmI (fun y W g => ⟨fun _ => hgo W g.2, fun z => absurd (by rw [g.1]) z⟩) h⟩) ?_
  exact ab_J.mono (cs_181 (d := d + 57) (Q := fun x y W => x = y ∧ nv W) hI (fun x W g => ⟨rfl, g⟩)) (by omega) (aa_mI fun x V1 h => ab_J.mono h (by omega) (fun _ _ h => h))
set_option maxRecDepth 100000 in
/-- from one call of the script to the next -/
theorem law_step (hI : nv V) (hv : lawv L xs i3) (hg : ¬ ((nI L) - (6 : Int32)) < i3) (ht : ∀ {V : aa_V} {Q : Int32 → Int32 → aa_V → Prop}, nv V → (∀ x W, nv W → Q x x W) → ab_E G (ac_ST L xs) l (d + 60) ac_SK 149 [.ref 0] V (aa_rI fun x V1 => ab_E G (ac_ST L xs) l (d + 60) ac_SK 223 [.ref 105] V1 (aa_rI fun y W => Q x y W))) {K : aa_K} (hgo : ∀ W, nv W → ab_J G (ac_ST L xs) l (d + 61) 301 1770 [some (.ref 1000002), some (.ref 0), some (.ref 105), some (.int i3)] [] ac_SK W ac_SK K) :
    ab_J G (ac_ST L xs) l (d + 61) 301 18 [some (.ref 1000002), some (.ref 0), some (.ref 105), some (.int i3)] [] ac_SK V ac_SK K := by
  refine vc_301_18 (d := d + 60) ⟨Or.inl (by decide), fun q => absurd q hg, fun _ => ⟨by have := hv 0 (by decide); rw [show i3 + nI 0 = i3 from Int32.add_zero i3] at this; exact this, ?_⟩⟩
  refine ⟨fun _ => lc_138 hI hv hgo, fun _ => ?_⟩
  refine ⟨fun _ => lc_139 hI hv hgo, fun _ => ?_⟩
  refine ⟨fun _ => lc_140 hI hv hgo, fun _ => ?_⟩
  refine ⟨fun _ => lc_141 hI hv hgo, fun _ => ?_⟩
  refine ⟨fun _ => lc_142 hI hv hgo, fun _ => ?_⟩
  refine ⟨fun _ => lc_143 hI hv hgo, fun _ => ?_⟩
  refine ⟨fun _ => lc_144 hI hv hgo, fun _ => ?_⟩
  refine ⟨fun _ => lc_145 hI hv hgo, fun _ => ?_⟩
  refine ⟨fun _ => lc_146 hI hv hgo, fun _ => ?_⟩
  refine ⟨fun _ => lc_147 hI hv hgo, fun _ => ?_⟩
  refine ⟨fun _ => lc_148 hI hv hgo, fun _ => ?_⟩
  refine ⟨fun _ => lc_149 hI hv ht hgo, fun _ => ?_⟩
  refine ⟨fun _ => lc_150 hI hv hgo, fun _ => ?_⟩
  refine ⟨fun _ => lc_151 hI hv hgo, fun _ => ?_⟩
  refine ⟨fun _ => lc_152 hI hv hgo, fun _ => ?_⟩
  refine ⟨fun _ => lc_153 hI hv hgo, fun _ => ?_⟩
  refine ⟨fun _ => lc_154 hI hv hgo, fun _ => ?_⟩
  refine ⟨fun _ => lc_155 hI hv hgo, fun _ => ?_⟩
  refine ⟨fun _ => lc_156 hI hv hgo, fun _ => ?_⟩
  refine ⟨fun _ => lc_157 hI hv hgo, fun _ => ?_⟩
  refine ⟨fun _ => lc_158 hI hv hgo, fun _ => ?_⟩
  refine ⟨fun _ => lc_159 hI hv hgo, fun _ => ?_⟩
  refine ⟨fun _ => lc_160 hI hv hgo, fun _ => ?_⟩
  refine ⟨fun _ => lc_161 hI hv hgo, fun _ => ?_⟩
  refine ⟨fun _ => lc_162 hI hv hgo, fun _ => ?_⟩
  refine ⟨fun _ => lc_163 hI hv hgo, fun _ => ?_⟩
  refine ⟨fun _ => lc_164 hI hv hgo, fun _ => ?_⟩
  refine ⟨fun _ => lc_165 hI hv hgo, fun _ => ?_⟩
  refine ⟨fun _ => lc_166 hI hv hgo, fun _ => ?_⟩
  refine ⟨fun _ => lc_167 hI hv hgo, fun _ => ?_⟩
  refine ⟨fun _ => lc_168 hI hv hgo, fun _ => ?_⟩
  refine ⟨fun _ => lc_169 hI hv hgo, fun _ => ?_⟩
  refine ⟨fun _ => lc_170 hI hv hgo, fun _ => ?_⟩
  refine ⟨fun _ => lc_171 hI hv hgo, fun _ => ?_⟩
  refine ⟨fun _ => lc_172 hI hv hgo, fun _ => ?_⟩
  refine ⟨fun _ => lc_173 hI hv hgo, fun _ => ?_⟩
  refine ⟨fun _ => lc_174 hI hv hgo, fun _ => ?_⟩
  refine ⟨fun _ => lc_175 hI hv hgo, fun _ => ?_⟩
  refine ⟨fun _ => lc_176 hI hv hgo, fun _ => ?_⟩
  refine ⟨fun _ => lc_177 hI hv hgo, fun _ => ?_⟩
  refine ⟨fun _ => lc_178 hI hv hgo, fun _ => ?_⟩
  refine ⟨fun _ => lc_179 hI hv hgo, fun _ => ?_⟩
  refine ⟨fun _ => lc_180 hI hv hgo, fun _ => ?_⟩
  refine ⟨fun _ => lc_181 hI hv hgo, fun _ => ?_⟩
  exact hgo V hI
/-- the law's loop -/
theorem law_loop (hL : L ≤ 3072) (ht : ∀ {V : aa_V} {Q : Int32 → Int32 → aa_V → Prop}, nv V → (∀ x W, nv W → Q x x W) → ab_E G (ac_ST L xs) l (d + 60) ac_SK 149 [.ref 0] V (aa_rI fun x V1 => ab_E G (ac_ST L xs) l (d + 60) ac_SK 223 [.ref 105] V1 (aa_rI fun y W => Q x y W))) {K : aa_K} (hK : ∀ W, K (some (.int (1 : Int32))) W) :
    ∀ (k j : Nat) {V : aa_V}, L ≤ j + 6 * k → j ≤ L + 6 → nv V → ab_J G (ac_ST L xs) l (d + 61) 301 18 [some (.ref 1000002), some (.ref 0), some (.ref 105), some (.int (nI j))] [] ac_SK V ac_SK K := by
  have e6 : ((nI L) - (6 : Int32)).toInt = (L : Int) - 6 := by
    rw [Int32.toInt_sub, nI_toInt (by omega), show (6 : Int32).toInt = 6 by decide]
    apply Int.bmod_eq_of_le <;> omega
  have stop : ∀ (j : Nat) (V : aa_V), j ≤ L + 6 → L < j + 6 → ab_J G (ac_ST L xs) l (d + 61) 301 18 [some (.ref 1000002), some (.ref 0), some (.ref 105), some (.int (nI j))] [] ac_SK V ac_SK K := fun j V hj hj2 => by
    refine vc_301_18 (d := d + 60) ⟨Or.inl (by decide), fun _ => ⟨Or.inr rfl, hK V⟩, fun q => absurd ?_ q⟩
    show ((nI L) - (6 : Int32)) < nI j
    rw [zz_lt, e6, nI_toInt (by omega)]
    omega
  intro k
  induction k with
  | zero =>
    intro j V h1 h2 hI
    exact stop j V h2 (by omega)
  | succ k ih =>
    intro j V h1 h2 hI
    rcases Nat.lt_or_ge L (j + 6) with q | q
    · exact stop j V h2 q
    · refine law_step hI (fun i hi => ?_) ?_ ht (fun W hW => ?_)
      · rw [nI_plus]
        exact vp_in_nI (show j + i < L by omega) (by show L < 2 ^ 31; omega)
      · rw [zz_lt, e6, nI_toInt (by omega)]
        omega
      · refine vc_301_1770 (d := d + 60) ?_
        have := ih (j + 6) (V := W) (by omega) (by omega) hW
        rw [← nI_plus] at this
        exact this
end
