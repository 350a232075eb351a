/-! Math's min, max, abs -/
def aa_mm (f : Int32 → Int32 → Int32) (nx : Nat) : aa_Op := fun _ _ _ _ lo st V go => match st with
  | .int y :: .int x :: r => (match Nat.ble (aa_cat r) 8 with
    | true => go nx lo (.int (f x y) :: r) V
    | false => False)
  | _ => False
def aa_ma (f : Int32 → Int32) (nx : Nat) : aa_Op := fun _ _ _ _ lo st V go => match st with
  | .int x :: r => (match Nat.ble (aa_cat r) 8 with
    | true => go nx lo (.int (f x) :: r) V
    | false => False)
  | _ => False
def ac_mw (own : String) (ix : Nat) (y : MethodName) (cc : ByteArray) (nl : Nat) : Prop := Cond.methodLink own ix y ∈ aa_BW ∧ Cond.static y ∈ aa_BW ∧ Cond.initialized "java/lang/Math" ∈ aa_BW ∧ Cond.code y cc nl (some .int) ∈ aa_BW
theorem as_mmin {mm pc : Nat} {M : ac_R} (hM : ac_M mm = some M) {ix nx : Nat} (hd : decode M.2.1 pc = .ok (.invokestatic ix, 3)) (hw : ac_mw M.1.cls ix Lib.Math.min.name Lib.Math.min.code 2) (hn : pc + 3 = nx) : ab_Snd mm pc (aa_mm (fun x y => if y < x then y else x) nx) := by
  intro G ST l d lo st sk V skr K ret go hrt h hk M' p e R s m args below meth c Qw H locs cells slots ls hM' hC hH hL hc hs hret
  cases hM.symm.trans hM'
  subst hn
  cases st with
  | nil => exact h.elim
  | cons v st =>
    cases v with
    | int y =>
      cases st with
      | nil => exact h.elim
      | cons v st =>
        cases v with
        | int x =>
          simp only [aa_mm] at h
          cases hb : Nat.ble (aa_cat st) 8 with
          | false => simp only [hb] at h
          | true =>
            simp only [hb] at h
            have kk := hk _ _ _ _ h M p e R s m args below meth c Qw H locs cells slots ls hM hC hH hL hc hs hret
            obtain ⟨c1, c2, c3, c4, c5, c6, c7, c8, c9, c10, c11, c12, c13⟩ := hC
            have hb2 := Nat.le_of_ble_eq_true hb
            exact va_mmin c1 c2 (by rw [c3, hL.1]) c4 (c5 _ hw.1) (c5 _ hw.2.1) (c5 _ hw.2.2.1) (c5 _ hw.2.2.2) (by omega) (by rw [aa_cat_eq c10.2.2.2.2.2.1]; omega) (by omega) (by omega) hd kk
        | _ => exact h.elim
    | _ => exact h.elim
theorem as_mmax {mm pc : Nat} {M : ac_R} (hM : ac_M mm = some M) {ix nx : Nat} (hd : decode M.2.1 pc = .ok (.invokestatic ix, 3)) (hw : ac_mw M.1.cls ix Lib.Math.max.name Lib.Math.max.code 2) (hn : pc + 3 = nx) : ab_Snd mm pc (aa_mm (fun x y => if x < y then y else x) nx) := by
  intro G ST l d lo st sk V skr K ret go hrt h hk M' p e R s m args below meth c Qw H locs cells slots ls hM' hC hH hL hc hs hret
  cases hM.symm.trans hM'
  subst hn
  cases st with
  | nil => exact h.elim
  | cons v st =>
    cases v with
    | int y =>
      cases st with
      | nil => exact h.elim
      | cons v st =>
        cases v with
        | int x =>
          simp only [aa_mm] at h
          cases hb : Nat.ble (aa_cat st) 8 with
          | false => simp only [hb] at h
          | true =>
            simp only [hb] at h
            have kk := hk _ _ _ _ h M p e R s m args below meth c Qw H locs cells slots ls hM hC hH hL hc hs hret
            obtain ⟨c1, c2, c3, c4, c5, c6, c7, c8, c9, c10, c11, c12, c13⟩ := hC
            have hb2 := Nat.le_of_ble_eq_true hb
            exact va_mmax c1 c2 (by rw [c3, hL.1]) c4 (c5 _ hw.1) (c5 _ hw.2.1) (c5 _ hw.2.2.1) (c5 _ hw.2.2.2) (by omega) (by rw [aa_cat_eq c10.2.2.2.2.2.1]; omega) (by omega) (by omega) hd kk
        | _ => exact h.elim
    | _ => exact h.elim
theorem as_mabs {mm pc : Nat} {M : ac_R} (hM : ac_M mm = some M) {ix nx : Nat} (hd : decode M.2.1 pc = .ok (.invokestatic ix, 3)) (hw : ac_mw M.1.cls ix Lib.Math.abs.name Lib.Math.abs.code 1) (hn : pc + 3 = nx) : ab_Snd mm pc (aa_ma (fun x => if 0 ≤ x then x else 0 - x) nx) := by
  intro G ST l d lo st sk V skr K ret go hrt h hk M' p e R s m args below meth c Qw H locs cells slots ls hM' hC hH hL hc hs hret
  cases hM.symm.trans hM'
  subst hn
  cases st with
  | nil => exact h.elim
  | cons v st =>
    cases v with
    | int x =>
      simp only [aa_ma] at h
      cases hb : Nat.ble (aa_cat st) 8 with
      | false => simp only [hb] at h
      | true =>
        simp only [hb] at h
        have kk := hk _ _ _ _ h M p e R s m args below meth c Qw H locs cells slots ls hM hC hH hL hc hs hret
        obtain ⟨c1, c2, c3, c4, c5, c6, c7, c8, c9, c10, c11, c12, c13⟩ := hC
        have hb2 := Nat.le_of_ble_eq_true hb
        exact va_mabs c1 c2 (by rw [c3, hL.1]) c4 (c5 _ hw.1) (c5 _ hw.2.1) (c5 _ hw.2.2.1) (c5 _ hw.2.2.2) (by omega) (by rw [aa_cat_eq c10.2.2.2.2.2.1]; omega) (by omega) (by omega) hd kk
    | _ => exact h.elim
