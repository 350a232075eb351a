/-! each plain instruction -/
theorem as_iconst {mm pc : Nat} {M : ac_R} (hM : ac_M mm = some M) {n : Int} {v : Int32} {nx : Nat} (hd : decode M.2.1 pc = .ok (.iconst n, 1)) (hv : Int32.ofInt n = v) (hn : pc + 1 = nx) : ab_Snd mm pc (aa_pu (.int v) nx) := by
  intro G ST l d lo st sk V skr K ret go hrt h hk M' p e R s m args below meth c Qw H locs cells slots ls hM' hC hH hL hc hs hret
  cases hM.symm.trans hM'
  have hx := hC.1
  have hb := hC.2.1
  subst hn
  exact lv_iconst hx hb hd hv (hk _ _ _ _ h M p e R s m args below meth c Qw H locs cells slots ls hM hC hH hL hc hs hret)

theorem as_bipush {mm pc : Nat} {M : ac_R} (hM : ac_M mm = some M) {n : Int} {v : Int32} {nx : Nat} (hd : decode M.2.1 pc = .ok (.bipush n, 2)) (hv : (Int8.ofInt n).toInt32 = v) (hn : pc + 2 = nx) : ab_Snd mm pc (aa_pu (.int v) nx) := by
  intro G ST l d lo st sk V skr K ret go hrt h hk M' p e R s m args below meth c Qw H locs cells slots ls hM' hC hH hL hc hs hret
  cases hM.symm.trans hM'
  have hx := hC.1
  have hb := hC.2.1
  subst hn
  exact lv_bipush hx hb hd hv (hk _ _ _ _ h M p e R s m args below meth c Qw H locs cells slots ls hM hC hH hL hc hs hret)

theorem as_sipush {mm pc : Nat} {M : ac_R} (hM : ac_M mm = some M) {n : Int} {v : Int32} {nx : Nat} (hd : decode M.2.1 pc = .ok (.sipush n, 3)) (hv : (Int16.ofInt n).toInt32 = v) (hn : pc + 3 = nx) : ab_Snd mm pc (aa_pu (.int v) nx) := by
  intro G ST l d lo st sk V skr K ret go hrt h hk M' p e R s m args below meth c Qw H locs cells slots ls hM' hC hH hL hc hs hret
  cases hM.symm.trans hM'
  have hx := hC.1
  have hb := hC.2.1
  subst hn
  exact lv_sipush hx hb hd hv (hk _ _ _ _ h M p e R s m args below meth c Qw H locs cells slots ls hM hC hH hL hc hs hret)

theorem as_lconst {mm pc : Nat} {M : ac_R} (hM : ac_M mm = some M) {n : Fin 2} {v : Int64} {nx : Nat} (hd : decode M.2.1 pc = .ok (.lconst n, 1)) (hv : Int64.ofNat (n : Nat) = v) (hn : pc + 1 = nx) : ab_Snd mm pc (aa_pu (.long v) nx) := by
  intro G ST l d lo st sk V skr K ret go hrt h hk M' p e R s m args below meth c Qw H locs cells slots ls hM' hC hH hL hc hs hret
  cases hM.symm.trans hM'
  have hx := hC.1
  have hb := hC.2.1
  subst hn
  exact lv_lconst hx hb hd hv (hk _ _ _ _ h M p e R s m args below meth c Qw H locs cells slots ls hM hC hH hL hc hs hret)

theorem as_ldc {mm pc : Nat} {M : ac_R} (hM : ac_M mm = some M) {ix : Nat} {v : Int32} {nx : Nat} (hd : decode M.2.1 pc = .ok (.ldc ix, 2)) (hw : Cond.constant M.1.cls ix v ∈ aa_BW) (hn : pc + 2 = nx) : ab_Snd mm pc (aa_pu (.int v) nx) := by
  intro G ST l d lo st sk V skr K ret go hrt h hk M' p e R s m args below meth c Qw H locs cells slots ls hM' hC hH hL hc hs hret
  cases hM.symm.trans hM'
  have hx := hC.1
  have hb := hC.2.1
  subst hn
  exact lv_ldc hx hb hC.2.2.2.1 (hC.2.2.2.2.1 _ hw) hd (hk _ _ _ _ h M p e R s m args below meth c Qw H locs cells slots ls hM hC hH hL hc hs hret)

theorem as_ldcw {mm pc : Nat} {M : ac_R} (hM : ac_M mm = some M) {ix : Nat} {v : Int32} {nx : Nat} (hd : decode M.2.1 pc = .ok (.ldc_w ix, 3)) (hw : Cond.constant M.1.cls ix v ∈ aa_BW) (hn : pc + 3 = nx) : ab_Snd mm pc (aa_pu (.int v) nx) := by
  intro G ST l d lo st sk V skr K ret go hrt h hk M' p e R s m args below meth c Qw H locs cells slots ls hM' hC hH hL hc hs hret
  cases hM.symm.trans hM'
  have hx := hC.1
  have hb := hC.2.1
  subst hn
  exact lv_ldcw hx hb hC.2.2.2.1 (hC.2.2.2.2.1 _ hw) hd (hk _ _ _ _ h M p e R s m args below meth c Qw H locs cells slots ls hM hC hH hL hc hs hret)

theorem as_ldc2 {mm pc : Nat} {M : ac_R} (hM : ac_M mm = some M) {ix : Nat} {v : Int64} {nx : Nat} (hd : decode M.2.1 pc = .ok (.ldc2_w ix, 3)) (hw : Cond.constantLong M.1.cls ix v ∈ aa_BW) (hn : pc + 3 = nx) : ab_Snd mm pc (aa_pu (.long v) nx) := by
  intro G ST l d lo st sk V skr K ret go hrt h hk M' p e R s m args below meth c Qw H locs cells slots ls hM' hC hH hL hc hs hret
  cases hM.symm.trans hM'
  have hx := hC.1
  have hb := hC.2.1
  subst hn
  exact lv_ldc2 hx hb hC.2.2.2.1 (hC.2.2.2.2.1 _ hw) hd (hk _ _ _ _ h M p e R s m args below meth c Qw H locs cells slots ls hM hC hH hL hc hs hret)

theorem as_iload_n {mm pc : Nat} {M : ac_R} (hM : ac_M mm = some M) {k : Fin 4} {i nx : Nat} (hd : decode M.2.1 pc = .ok (.iload_n k, 1)) (hi : (k : Nat) = i) (hn : pc + 1 = nx) : ab_Snd mm pc (aa_ldi i nx) := by
  intro G ST l d lo st sk V skr K ret go hrt h hk M' p e R s m args below meth c Qw H locs cells slots ls hM' hC hH hL hc hs hret
  cases hM.symm.trans hM'
  have hx := hC.1
  have hb := hC.2.1
  subst hn
  simp only [aa_ldi] at h
  cases hg : aa_lg lo i with
  | none => rw [hg] at h; exact h.elim
  | some v =>
    rw [hg] at h
    cases v with
    | int x =>
      have hl := hL.2.2.2 i _ hg
      exact lv_iload_n hx hb hd hi hl (hk _ _ _ _ h M p e R s m args below meth c Qw H locs cells slots ls hM hC hH hL hc hs hret)
    | _ => exact h.elim

theorem as_iload {mm pc : Nat} {M : ac_R} (hM : ac_M mm = some M) {i nx : Nat} (hd : decode M.2.1 pc = .ok (.iload i, 2)) (hn : pc + 2 = nx) : ab_Snd mm pc (aa_ldi i nx) := by
  intro G ST l d lo st sk V skr K ret go hrt h hk M' p e R s m args below meth c Qw H locs cells slots ls hM' hC hH hL hc hs hret
  cases hM.symm.trans hM'
  have hx := hC.1
  have hb := hC.2.1
  subst hn
  simp only [aa_ldi] at h
  cases hg : aa_lg lo i with
  | none => rw [hg] at h; exact h.elim
  | some v =>
    rw [hg] at h
    cases v with
    | int x =>
      have hl := hL.2.2.2 i _ hg
      exact lv_iload hx hb hd hl (hk _ _ _ _ h M p e R s m args below meth c Qw H locs cells slots ls hM hC hH hL hc hs hret)
    | _ => exact h.elim

theorem as_aload_n {mm pc : Nat} {M : ac_R} (hM : ac_M mm = some M) {k : Fin 4} {i nx : Nat} (hd : decode M.2.1 pc = .ok (.aload_n k, 1)) (hi : (k : Nat) = i) (hn : pc + 1 = nx) : ab_Snd mm pc (aa_lda i nx) := by
  intro G ST l d lo st sk V skr K ret go hrt h hk M' p e R s m args below meth c Qw H locs cells slots ls hM' hC hH hL hc hs hret
  cases hM.symm.trans hM'
  have hx := hC.1
  have hb := hC.2.1
  subst hn
  simp only [aa_lda] at h
  cases hg : aa_lg lo i with
  | none => rw [hg] at h; exact h.elim
  | some v =>
    rw [hg] at h
    cases v with
    | ref x =>
      have hl := hL.2.2.2 i _ hg
      exact lv_aload_n hx hb hd hi hl (hk _ _ _ _ h M p e R s m args below meth c Qw H locs cells slots ls hM hC hH hL hc hs hret)
    | _ => exact h.elim

theorem as_aload {mm pc : Nat} {M : ac_R} (hM : ac_M mm = some M) {i nx : Nat} (hd : decode M.2.1 pc = .ok (.aload i, 2)) (hn : pc + 2 = nx) : ab_Snd mm pc (aa_lda i nx) := by
  intro G ST l d lo st sk V skr K ret go hrt h hk M' p e R s m args below meth c Qw H locs cells slots ls hM' hC hH hL hc hs hret
  cases hM.symm.trans hM'
  have hx := hC.1
  have hb := hC.2.1
  subst hn
  simp only [aa_lda] at h
  cases hg : aa_lg lo i with
  | none => rw [hg] at h; exact h.elim
  | some v =>
    rw [hg] at h
    cases v with
    | ref x =>
      have hl := hL.2.2.2 i _ hg
      exact lv_aload hx hb hd hl (hk _ _ _ _ h M p e R s m args below meth c Qw H locs cells slots ls hM hC hH hL hc hs hret)
    | _ => exact h.elim

theorem as_lload_n {mm pc : Nat} {M : ac_R} (hM : ac_M mm = some M) {k : Fin 4} {i nx : Nat} (hd : decode M.2.1 pc = .ok (.lload_n k, 1)) (hi : (k : Nat) = i) (hn : pc + 1 = nx) : ab_Snd mm pc (aa_ldl i nx) := by
  intro G ST l d lo st sk V skr K ret go hrt h hk M' p e R s m args below meth c Qw H locs cells slots ls hM' hC hH hL hc hs hret
  cases hM.symm.trans hM'
  have hx := hC.1
  have hb := hC.2.1
  subst hn
  simp only [aa_ldl] at h
  cases hg : aa_lg lo i with
  | none => rw [hg] at h; exact h.elim
  | some v =>
    rw [hg] at h
    cases v with
    | long x =>
      have hl := hL.2.2.2 i _ hg
      exact lv_lload_n hx hb hd hi hl (hk _ _ _ _ h M p e R s m args below meth c Qw H locs cells slots ls hM hC hH hL hc hs hret)
    | _ => exact h.elim

theorem as_lload {mm pc : Nat} {M : ac_R} (hM : ac_M mm = some M) {i nx : Nat} (hd : decode M.2.1 pc = .ok (.lload i, 2)) (hn : pc + 2 = nx) : ab_Snd mm pc (aa_ldl i nx) := by
  intro G ST l d lo st sk V skr K ret go hrt h hk M' p e R s m args below meth c Qw H locs cells slots ls hM' hC hH hL hc hs hret
  cases hM.symm.trans hM'
  have hx := hC.1
  have hb := hC.2.1
  subst hn
  simp only [aa_ldl] at h
  cases hg : aa_lg lo i with
  | none => rw [hg] at h; exact h.elim
  | some v =>
    rw [hg] at h
    cases v with
    | long x =>
      have hl := hL.2.2.2 i _ hg
      exact lv_lload hx hb hd hl (hk _ _ _ _ h M p e R s m args below meth c Qw H locs cells slots ls hM hC hH hL hc hs hret)
    | _ => exact h.elim

theorem as_istore_n {mm pc : Nat} {M : ac_R} (hM : ac_M mm = some M) {k : Fin 4} {i nx : Nat} (hd : decode M.2.1 pc = .ok (.istore_n k, 1)) (hi : (k : Nat) = i) (hl : i < M.2.2.1) (hn : pc + 1 = nx) : ab_Snd mm pc (aa_sti i nx) := by
  intro G ST l d lo st sk V skr K ret go hrt h hk M' p e R s m args below meth c Qw H locs cells slots ls hM' hC hH hL hc hs hret
  cases hM.symm.trans hM'
  have hx := hC.1
  have hb := hC.2.1
  subst hn
  cases st with
  | nil => exact h.elim
  | cons v st =>
    cases v with
    | int x =>
      refine lv_istore_n hx hb hd hi hL.has hl rfl (fun ls' hl' => ?_)
      exact hk _ _ _ _ h M p e R s m args below meth c Qw H locs cells slots ls' hM hC hH (hL.st hC.2.2.2.2.2.2.2.2.2.1.2.2.2.2.2.1 (v := .int x) hl') hc hs hret
    | _ => exact h.elim

theorem as_istore {mm pc : Nat} {M : ac_R} (hM : ac_M mm = some M) {i nx : Nat} (hd : decode M.2.1 pc = .ok (.istore i, 2)) (hl : i < M.2.2.1) (hn : pc + 2 = nx) : ab_Snd mm pc (aa_sti i nx) := by
  intro G ST l d lo st sk V skr K ret go hrt h hk M' p e R s m args below meth c Qw H locs cells slots ls hM' hC hH hL hc hs hret
  cases hM.symm.trans hM'
  have hx := hC.1
  have hb := hC.2.1
  subst hn
  cases st with
  | nil => exact h.elim
  | cons v st =>
    cases v with
    | int x =>
      refine lv_istore hx hb hd hL.has hl rfl (fun ls' hl' => ?_)
      exact hk _ _ _ _ h M p e R s m args below meth c Qw H locs cells slots ls' hM hC hH (hL.st hC.2.2.2.2.2.2.2.2.2.1.2.2.2.2.2.1 (v := .int x) hl') hc hs hret
    | _ => exact h.elim

theorem as_astore_n {mm pc : Nat} {M : ac_R} (hM : ac_M mm = some M) {k : Fin 4} {i nx : Nat} (hd : decode M.2.1 pc = .ok (.astore_n k, 1)) (hi : (k : Nat) = i) (hl : i < M.2.2.1) (hn : pc + 1 = nx) : ab_Snd mm pc (aa_sta i nx) := by
  intro G ST l d lo st sk V skr K ret go hrt h hk M' p e R s m args below meth c Qw H locs cells slots ls hM' hC hH hL hc hs hret
  cases hM.symm.trans hM'
  have hx := hC.1
  have hb := hC.2.1
  subst hn
  cases st with
  | nil => exact h.elim
  | cons v st =>
    cases v with
    | ref x =>
      refine lv_astore_n hx hb hd hi hL.has hl rfl (fun ls' hl' => ?_)
      exact hk _ _ _ _ h M p e R s m args below meth c Qw H locs cells slots ls' hM hC hH (hL.st hC.2.2.2.2.2.2.2.2.2.1.2.2.2.2.2.1 (v := .ref x) hl') hc hs hret
    | _ => exact h.elim

theorem as_astore {mm pc : Nat} {M : ac_R} (hM : ac_M mm = some M) {i nx : Nat} (hd : decode M.2.1 pc = .ok (.astore i, 2)) (hl : i < M.2.2.1) (hn : pc + 2 = nx) : ab_Snd mm pc (aa_sta i nx) := by
  intro G ST l d lo st sk V skr K ret go hrt h hk M' p e R s m args below meth c Qw H locs cells slots ls hM' hC hH hL hc hs hret
  cases hM.symm.trans hM'
  have hx := hC.1
  have hb := hC.2.1
  subst hn
  cases st with
  | nil => exact h.elim
  | cons v st =>
    cases v with
    | ref x =>
      refine lv_astore hx hb hd hL.has hl rfl (fun ls' hl' => ?_)
      exact hk _ _ _ _ h M p e R s m args below meth c Qw H locs cells slots ls' hM hC hH (hL.st hC.2.2.2.2.2.2.2.2.2.1.2.2.2.2.2.1 (v := .ref x) hl') hc hs hret
    | _ => exact h.elim

theorem as_lstore_n {mm pc : Nat} {M : ac_R} (hM : ac_M mm = some M) {k : Fin 4} {i nx : Nat} (hd : decode M.2.1 pc = .ok (.lstore_n k, 1)) (hi : (k : Nat) = i) (hl : i + 1 < M.2.2.1) (hn : pc + 1 = nx) : ab_Snd mm pc (aa_sto2 i nx) := by
  intro G ST l d lo st sk V skr K ret go hrt h hk M' p e R s m args below meth c Qw H locs cells slots ls hM' hC hH hL hc hs hret
  cases hM.symm.trans hM'
  have hx := hC.1
  have hb := hC.2.1
  subst hn
  cases st with
  | nil => exact h.elim
  | cons v st =>
    cases v with
    | long x =>
      refine lv_lstore_n hx hb hd hi hL.has hl rfl (fun ls' hl' => ?_)
      exact hk _ _ _ _ h M p e R s m args below meth c Qw H locs cells slots ls' hM hC hH (hL.st2 hC.2.2.2.2.2.2.2.2.2.1.2.2.2.2.2.1 (v := .long x) hl') hc hs hret
    | _ => exact h.elim

theorem as_lstore {mm pc : Nat} {M : ac_R} (hM : ac_M mm = some M) {i nx : Nat} (hd : decode M.2.1 pc = .ok (.lstore i, 2)) (hl : i + 1 < M.2.2.1) (hn : pc + 2 = nx) : ab_Snd mm pc (aa_sto2 i nx) := by
  intro G ST l d lo st sk V skr K ret go hrt h hk M' p e R s m args below meth c Qw H locs cells slots ls hM' hC hH hL hc hs hret
  cases hM.symm.trans hM'
  have hx := hC.1
  have hb := hC.2.1
  subst hn
  cases st with
  | nil => exact h.elim
  | cons v st =>
    cases v with
    | long x =>
      refine lv_lstore hx hb hd hL.has hl rfl (fun ls' hl' => ?_)
      exact hk _ _ _ _ h M p e R s m args below meth c Qw H locs cells slots ls' hM hC hH (hL.st2 hC.2.2.2.2.2.2.2.2.2.1.2.2.2.2.2.1 (v := .long x) hl') hc hs hret
    | _ => exact h.elim

theorem as_iadd {mm pc : Nat} {M : ac_R} (hM : ac_M mm = some M) {nx : Nat} (hd : decode M.2.1 pc = .ok (.iadd, 1)) (hn : pc + 1 = nx) : ab_Snd mm pc (aa_bin (fun x y => x + y) nx) := by
  intro G ST l d lo st sk V skr K ret go hrt h hk M' p e R s m args below meth c Qw H locs cells slots ls hM' hC hH hL hc hs hret
  cases hM.symm.trans hM'
  have hx := hC.1
  have hb := hC.2.1
  subst hn
  cases st with
  | nil => exact h.elim
  | cons v st =>
    cases v with
    | int y =>
      cases st with
      | nil => exact h.elim
      | cons v st =>
        cases v with
        | int x =>
          exact lv_iadd hx hb hd (hk _ _ _ _ h M p e R s m args below meth c Qw H locs cells slots ls hM hC hH hL hc hs hret)
        | _ => exact h.elim
    | _ => exact h.elim

theorem as_isub {mm pc : Nat} {M : ac_R} (hM : ac_M mm = some M) {nx : Nat} (hd : decode M.2.1 pc = .ok (.isub, 1)) (hn : pc + 1 = nx) : ab_Snd mm pc (aa_bin (fun x y => x - y) nx) := by
  intro G ST l d lo st sk V skr K ret go hrt h hk M' p e R s m args below meth c Qw H locs cells slots ls hM' hC hH hL hc hs hret
  cases hM.symm.trans hM'
  have hx := hC.1
  have hb := hC.2.1
  subst hn
  cases st with
  | nil => exact h.elim
  | cons v st =>
    cases v with
    | int y =>
      cases st with
      | nil => exact h.elim
      | cons v st =>
        cases v with
        | int x =>
          exact lv_isub hx hb hd (hk _ _ _ _ h M p e R s m args below meth c Qw H locs cells slots ls hM hC hH hL hc hs hret)
        | _ => exact h.elim
    | _ => exact h.elim

theorem as_imul {mm pc : Nat} {M : ac_R} (hM : ac_M mm = some M) {nx : Nat} (hd : decode M.2.1 pc = .ok (.imul, 1)) (hn : pc + 1 = nx) : ab_Snd mm pc (aa_bin (fun x y => x * y) nx) := by
  intro G ST l d lo st sk V skr K ret go hrt h hk M' p e R s m args below meth c Qw H locs cells slots ls hM' hC hH hL hc hs hret
  cases hM.symm.trans hM'
  have hx := hC.1
  have hb := hC.2.1
  subst hn
  cases st with
  | nil => exact h.elim
  | cons v st =>
    cases v with
    | int y =>
      cases st with
      | nil => exact h.elim
      | cons v st =>
        cases v with
        | int x =>
          exact lv_imul hx hb hd (hk _ _ _ _ h M p e R s m args below meth c Qw H locs cells slots ls hM hC hH hL hc hs hret)
        | _ => exact h.elim
    | _ => exact h.elim

theorem as_iand {mm pc : Nat} {M : ac_R} (hM : ac_M mm = some M) {nx : Nat} (hd : decode M.2.1 pc = .ok (.iand, 1)) (hn : pc + 1 = nx) : ab_Snd mm pc (aa_bin (fun x y => x &&& y) nx) := by
  intro G ST l d lo st sk V skr K ret go hrt h hk M' p e R s m args below meth c Qw H locs cells slots ls hM' hC hH hL hc hs hret
  cases hM.symm.trans hM'
  have hx := hC.1
  have hb := hC.2.1
  subst hn
  cases st with
  | nil => exact h.elim
  | cons v st =>
    cases v with
    | int y =>
      cases st with
      | nil => exact h.elim
      | cons v st =>
        cases v with
        | int x =>
          exact lv_iand hx hb hd (hk _ _ _ _ h M p e R s m args below meth c Qw H locs cells slots ls hM hC hH hL hc hs hret)
        | _ => exact h.elim
    | _ => exact h.elim

theorem as_ior {mm pc : Nat} {M : ac_R} (hM : ac_M mm = some M) {nx : Nat} (hd : decode M.2.1 pc = .ok (.ior, 1)) (hn : pc + 1 = nx) : ab_Snd mm pc (aa_bin (fun x y => x ||| y) nx) := by
  intro G ST l d lo st sk V skr K ret go hrt h hk M' p e R s m args below meth c Qw H locs cells slots ls hM' hC hH hL hc hs hret
  cases hM.symm.trans hM'
  have hx := hC.1
  have hb := hC.2.1
  subst hn
  cases st with
  | nil => exact h.elim
  | cons v st =>
    cases v with
    | int y =>
      cases st with
      | nil => exact h.elim
      | cons v st =>
        cases v with
        | int x =>
          exact lv_ior hx hb hd (hk _ _ _ _ h M p e R s m args below meth c Qw H locs cells slots ls hM hC hH hL hc hs hret)
        | _ => exact h.elim
    | _ => exact h.elim

theorem as_ixor {mm pc : Nat} {M : ac_R} (hM : ac_M mm = some M) {nx : Nat} (hd : decode M.2.1 pc = .ok (.ixor, 1)) (hn : pc + 1 = nx) : ab_Snd mm pc (aa_bin (fun x y => x ^^^ y) nx) := by
  intro G ST l d lo st sk V skr K ret go hrt h hk M' p e R s m args below meth c Qw H locs cells slots ls hM' hC hH hL hc hs hret
  cases hM.symm.trans hM'
  have hx := hC.1
  have hb := hC.2.1
  subst hn
  cases st with
  | nil => exact h.elim
  | cons v st =>
    cases v with
    | int y =>
      cases st with
      | nil => exact h.elim
      | cons v st =>
        cases v with
        | int x =>
          exact lv_ixor hx hb hd (hk _ _ _ _ h M p e R s m args below meth c Qw H locs cells slots ls hM hC hH hL hc hs hret)
        | _ => exact h.elim
    | _ => exact h.elim

theorem as_ishl {mm pc : Nat} {M : ac_R} (hM : ac_M mm = some M) {nx : Nat} (hd : decode M.2.1 pc = .ok (.ishl, 1)) (hn : pc + 1 = nx) : ab_Snd mm pc (aa_bin (fun x y => x <<< (y &&& 31)) nx) := by
  intro G ST l d lo st sk V skr K ret go hrt h hk M' p e R s m args below meth c Qw H locs cells slots ls hM' hC hH hL hc hs hret
  cases hM.symm.trans hM'
  have hx := hC.1
  have hb := hC.2.1
  subst hn
  cases st with
  | nil => exact h.elim
  | cons v st =>
    cases v with
    | int y =>
      cases st with
      | nil => exact h.elim
      | cons v st =>
        cases v with
        | int x =>
          exact lv_ishl hx hb hd (hk _ _ _ _ h M p e R s m args below meth c Qw H locs cells slots ls hM hC hH hL hc hs hret)
        | _ => exact h.elim
    | _ => exact h.elim

theorem as_ishr {mm pc : Nat} {M : ac_R} (hM : ac_M mm = some M) {nx : Nat} (hd : decode M.2.1 pc = .ok (.ishr, 1)) (hn : pc + 1 = nx) : ab_Snd mm pc (aa_bin (fun x y => x >>> (y &&& 31)) nx) := by
  intro G ST l d lo st sk V skr K ret go hrt h hk M' p e R s m args below meth c Qw H locs cells slots ls hM' hC hH hL hc hs hret
  cases hM.symm.trans hM'
  have hx := hC.1
  have hb := hC.2.1
  subst hn
  cases st with
  | nil => exact h.elim
  | cons v st =>
    cases v with
    | int y =>
      cases st with
      | nil => exact h.elim
      | cons v st =>
        cases v with
        | int x =>
          exact lv_ishr hx hb hd (hk _ _ _ _ h M p e R s m args below meth c Qw H locs cells slots ls hM hC hH hL hc hs hret)
        | _ => exact h.elim
    | _ => exact h.elim

theorem as_iushr {mm pc : Nat} {M : ac_R} (hM : ac_M mm = some M) {nx : Nat} (hd : decode M.2.1 pc = .ok (.iushr, 1)) (hn : pc + 1 = nx) : ab_Snd mm pc (aa_bin (fun x y => (x.toUInt32 >>> (y.toUInt32 &&& Int32.toUInt32 31)).toInt32) nx) := by
  intro G ST l d lo st sk V skr K ret go hrt h hk M' p e R s m args below meth c Qw H locs cells slots ls hM' hC hH hL hc hs hret
  cases hM.symm.trans hM'
  have hx := hC.1
  have hb := hC.2.1
  subst hn
  cases st with
  | nil => exact h.elim
  | cons v st =>
    cases v with
    | int y =>
      cases st with
      | nil => exact h.elim
      | cons v st =>
        cases v with
        | int x =>
          exact lv_iushr hx hb hd rfl (hk _ _ _ _ h M p e R s m args below meth c Qw H locs cells slots ls hM hC hH hL hc hs hret)
        | _ => exact h.elim
    | _ => exact h.elim

theorem as_idiv {mm pc : Nat} {M : ac_R} (hM : ac_M mm = some M) {nx : Nat} (hd : decode M.2.1 pc = .ok (.idiv, 1)) (hn : pc + 1 = nx) : ab_Snd mm pc (aa_dv (fun x y => x / y) nx) := by
  intro G ST l d lo st sk V skr K ret go hrt h hk M' p e R s m args below meth c Qw H locs cells slots ls hM' hC hH hL hc hs hret
  cases hM.symm.trans hM'
  have hx := hC.1
  have hb := hC.2.1
  subst hn
  cases st with
  | nil => exact h.elim
  | cons v st =>
    cases v with
    | int y =>
      cases st with
      | nil => exact h.elim
      | cons v st =>
        cases v with
        | int x =>
          exact lv_idiv hx hb hd h.1 (hk _ _ _ _ h.2 M p e R s m args below meth c Qw H locs cells slots ls hM hC hH hL hc hs hret)
        | _ => exact h.elim
    | _ => exact h.elim

theorem as_irem {mm pc : Nat} {M : ac_R} (hM : ac_M mm = some M) {nx : Nat} (hd : decode M.2.1 pc = .ok (.irem, 1)) (hn : pc + 1 = nx) : ab_Snd mm pc (aa_dv (fun x y => x - x / y * y) nx) := by
  intro G ST l d lo st sk V skr K ret go hrt h hk M' p e R s m args below meth c Qw H locs cells slots ls hM' hC hH hL hc hs hret
  cases hM.symm.trans hM'
  have hx := hC.1
  have hb := hC.2.1
  subst hn
  cases st with
  | nil => exact h.elim
  | cons v st =>
    cases v with
    | int y =>
      cases st with
      | nil => exact h.elim
      | cons v st =>
        cases v with
        | int x =>
          exact lv_irem hx hb hd h.1 (hk _ _ _ _ h.2 M p e R s m args below meth c Qw H locs cells slots ls hM hC hH hL hc hs hret)
        | _ => exact h.elim
    | _ => exact h.elim

theorem as_ladd {mm pc : Nat} {M : ac_R} (hM : ac_M mm = some M) {nx : Nat} (hd : decode M.2.1 pc = .ok (.ladd, 1)) (hn : pc + 1 = nx) : ab_Snd mm pc (aa_lbin (fun x y => x + y) nx) := by
  intro G ST l d lo st sk V skr K ret go hrt h hk M' p e R s m args below meth c Qw H locs cells slots ls hM' hC hH hL hc hs hret
  cases hM.symm.trans hM'
  have hx := hC.1
  have hb := hC.2.1
  subst hn
  cases st with
  | nil => exact h.elim
  | cons v st =>
    cases v with
    | long y =>
      cases st with
      | nil => exact h.elim
      | cons v st =>
        cases v with
        | long x =>
          exact lv_ladd hx hb hd (hk _ _ _ _ h M p e R s m args below meth c Qw H locs cells slots ls hM hC hH hL hc hs hret)
        | _ => exact h.elim
    | _ => exact h.elim

theorem as_lsub {mm pc : Nat} {M : ac_R} (hM : ac_M mm = some M) {nx : Nat} (hd : decode M.2.1 pc = .ok (.lsub, 1)) (hn : pc + 1 = nx) : ab_Snd mm pc (aa_lbin (fun x y => x - y) nx) := by
  intro G ST l d lo st sk V skr K ret go hrt h hk M' p e R s m args below meth c Qw H locs cells slots ls hM' hC hH hL hc hs hret
  cases hM.symm.trans hM'
  have hx := hC.1
  have hb := hC.2.1
  subst hn
  cases st with
  | nil => exact h.elim
  | cons v st =>
    cases v with
    | long y =>
      cases st with
      | nil => exact h.elim
      | cons v st =>
        cases v with
        | long x =>
          exact lv_lsub hx hb hd (hk _ _ _ _ h M p e R s m args below meth c Qw H locs cells slots ls hM hC hH hL hc hs hret)
        | _ => exact h.elim
    | _ => exact h.elim

theorem as_land {mm pc : Nat} {M : ac_R} (hM : ac_M mm = some M) {nx : Nat} (hd : decode M.2.1 pc = .ok (.land, 1)) (hn : pc + 1 = nx) : ab_Snd mm pc (aa_lbin (fun x y => x &&& y) nx) := by
  intro G ST l d lo st sk V skr K ret go hrt h hk M' p e R s m args below meth c Qw H locs cells slots ls hM' hC hH hL hc hs hret
  cases hM.symm.trans hM'
  have hx := hC.1
  have hb := hC.2.1
  subst hn
  cases st with
  | nil => exact h.elim
  | cons v st =>
    cases v with
    | long y =>
      cases st with
      | nil => exact h.elim
      | cons v st =>
        cases v with
        | long x =>
          exact lv_land hx hb hd (hk _ _ _ _ h M p e R s m args below meth c Qw H locs cells slots ls hM hC hH hL hc hs hret)
        | _ => exact h.elim
    | _ => exact h.elim

theorem as_lor {mm pc : Nat} {M : ac_R} (hM : ac_M mm = some M) {nx : Nat} (hd : decode M.2.1 pc = .ok (.lor, 1)) (hn : pc + 1 = nx) : ab_Snd mm pc (aa_lbin (fun x y => x ||| y) nx) := by
  intro G ST l d lo st sk V skr K ret go hrt h hk M' p e R s m args below meth c Qw H locs cells slots ls hM' hC hH hL hc hs hret
  cases hM.symm.trans hM'
  have hx := hC.1
  have hb := hC.2.1
  subst hn
  cases st with
  | nil => exact h.elim
  | cons v st =>
    cases v with
    | long y =>
      cases st with
      | nil => exact h.elim
      | cons v st =>
        cases v with
        | long x =>
          exact lv_lor hx hb hd (hk _ _ _ _ h M p e R s m args below meth c Qw H locs cells slots ls hM hC hH hL hc hs hret)
        | _ => exact h.elim
    | _ => exact h.elim

theorem as_ldiv {mm pc : Nat} {M : ac_R} (hM : ac_M mm = some M) {nx : Nat} (hd : decode M.2.1 pc = .ok (.ldiv, 1)) (hn : pc + 1 = nx) : ab_Snd mm pc (aa_ldv (fun x y => x / y) nx) := by
  intro G ST l d lo st sk V skr K ret go hrt h hk M' p e R s m args below meth c Qw H locs cells slots ls hM' hC hH hL hc hs hret
  cases hM.symm.trans hM'
  have hx := hC.1
  have hb := hC.2.1
  subst hn
  cases st with
  | nil => exact h.elim
  | cons v st =>
    cases v with
    | long y =>
      cases st with
      | nil => exact h.elim
      | cons v st =>
        cases v with
        | long x =>
          exact lv_ldiv hx hb hd h.1 (hk _ _ _ _ h.2 M p e R s m args below meth c Qw H locs cells slots ls hM hC hH hL hc hs hret)
        | _ => exact h.elim
    | _ => exact h.elim

theorem as_lrem {mm pc : Nat} {M : ac_R} (hM : ac_M mm = some M) {nx : Nat} (hd : decode M.2.1 pc = .ok (.lrem, 1)) (hn : pc + 1 = nx) : ab_Snd mm pc (aa_ldv (fun x y => x - x / y * y) nx) := by
  intro G ST l d lo st sk V skr K ret go hrt h hk M' p e R s m args below meth c Qw H locs cells slots ls hM' hC hH hL hc hs hret
  cases hM.symm.trans hM'
  have hx := hC.1
  have hb := hC.2.1
  subst hn
  cases st with
  | nil => exact h.elim
  | cons v st =>
    cases v with
    | long y =>
      cases st with
      | nil => exact h.elim
      | cons v st =>
        cases v with
        | long x =>
          exact lv_lrem hx hb hd h.1 (hk _ _ _ _ h.2 M p e R s m args below meth c Qw H locs cells slots ls hM hC hH hL hc hs hret)
        | _ => exact h.elim
    | _ => exact h.elim

theorem as_lshl {mm pc : Nat} {M : ac_R} (hM : ac_M mm = some M) {nx : Nat} (hd : decode M.2.1 pc = .ok (.lshl, 1)) (hn : pc + 1 = nx) : ab_Snd mm pc (aa_lsh (fun x y => x <<< (y.toInt64 &&& 63)) nx) := by
  intro G ST l d lo st sk V skr K ret go hrt h hk M' p e R s m args below meth c Qw H locs cells slots ls hM' hC hH hL hc hs hret
  cases hM.symm.trans hM'
  have hx := hC.1
  have hb := hC.2.1
  subst hn
  cases st with
  | nil => exact h.elim
  | cons v st =>
    cases v with
    | int y =>
      cases st with
      | nil => exact h.elim
      | cons v st =>
        cases v with
        | long x =>
          exact lv_lshl hx hb hd rfl (hk _ _ _ _ h M p e R s m args below meth c Qw H locs cells slots ls hM hC hH hL hc hs hret)
        | _ => exact h.elim
    | _ => exact h.elim

theorem as_lshr {mm pc : Nat} {M : ac_R} (hM : ac_M mm = some M) {nx : Nat} (hd : decode M.2.1 pc = .ok (.lshr, 1)) (hn : pc + 1 = nx) : ab_Snd mm pc (aa_lsh (fun x y => x >>> (y.toInt64 &&& 63)) nx) := by
  intro G ST l d lo st sk V skr K ret go hrt h hk M' p e R s m args below meth c Qw H locs cells slots ls hM' hC hH hL hc hs hret
  cases hM.symm.trans hM'
  have hx := hC.1
  have hb := hC.2.1
  subst hn
  cases st with
  | nil => exact h.elim
  | cons v st =>
    cases v with
    | int y =>
      cases st with
      | nil => exact h.elim
      | cons v st =>
        cases v with
        | long x =>
          exact lv_lshr hx hb hd rfl (hk _ _ _ _ h M p e R s m args below meth c Qw H locs cells slots ls hM hC hH hL hc hs hret)
        | _ => exact h.elim
    | _ => exact h.elim

theorem as_lcmp {mm pc : Nat} {M : ac_R} (hM : ac_M mm = some M) {nx : Nat} (hd : decode M.2.1 pc = .ok (.lcmp, 1)) (hn : pc + 1 = nx) : ab_Snd mm pc (aa_lcmp nx) := by
  intro G ST l d lo st sk V skr K ret go hrt h hk M' p e R s m args below meth c Qw H locs cells slots ls hM' hC hH hL hc hs hret
  cases hM.symm.trans hM'
  have hx := hC.1
  have hb := hC.2.1
  subst hn
  cases st with
  | nil => exact h.elim
  | cons v st =>
    cases v with
    | long y =>
      cases st with
      | nil => exact h.elim
      | cons v st =>
        cases v with
        | long x =>
          exact W.lcmp hx hb hd (hk _ _ _ _ h M p e R s m args below meth c Qw H locs cells slots ls hM hC hH hL hc hs hret)
        | _ => exact h.elim
    | _ => exact h.elim

theorem as_ineg {mm pc : Nat} {M : ac_R} (hM : ac_M mm = some M) {nx : Nat} (hd : decode M.2.1 pc = .ok (.ineg, 1)) (hn : pc + 1 = nx) : ab_Snd mm pc (aa_un (fun x => -x) nx) := by
  intro G ST l d lo st sk V skr K ret go hrt h hk M' p e R s m args below meth c Qw H locs cells slots ls hM' hC hH hL hc hs hret
  cases hM.symm.trans hM'
  have hx := hC.1
  have hb := hC.2.1
  subst hn
  cases st with
  | nil => exact h.elim
  | cons v st =>
    cases v with
    | int x =>
      exact lv_ineg hx hb hd (hk _ _ _ _ h M p e R s m args below meth c Qw H locs cells slots ls hM hC hH hL hc hs hret)
    | _ => exact h.elim

theorem as_i2b {mm pc : Nat} {M : ac_R} (hM : ac_M mm = some M) {nx : Nat} (hd : decode M.2.1 pc = .ok (.i2b, 1)) (hn : pc + 1 = nx) : ab_Snd mm pc (aa_un (fun x => x.toInt8.toInt32) nx) := by
  intro G ST l d lo st sk V skr K ret go hrt h hk M' p e R s m args below meth c Qw H locs cells slots ls hM' hC hH hL hc hs hret
  cases hM.symm.trans hM'
  have hx := hC.1
  have hb := hC.2.1
  subst hn
  cases st with
  | nil => exact h.elim
  | cons v st =>
    cases v with
    | int x =>
      exact lv_i2b hx hb hd rfl (hk _ _ _ _ h M p e R s m args below meth c Qw H locs cells slots ls hM hC hH hL hc hs hret)
    | _ => exact h.elim

theorem as_i2s {mm pc : Nat} {M : ac_R} (hM : ac_M mm = some M) {nx : Nat} (hd : decode M.2.1 pc = .ok (.i2s, 1)) (hn : pc + 1 = nx) : ab_Snd mm pc (aa_un (fun x => x.toInt16.toInt32) nx) := by
  intro G ST l d lo st sk V skr K ret go hrt h hk M' p e R s m args below meth c Qw H locs cells slots ls hM' hC hH hL hc hs hret
  cases hM.symm.trans hM'
  have hx := hC.1
  have hb := hC.2.1
  subst hn
  cases st with
  | nil => exact h.elim
  | cons v st =>
    cases v with
    | int x =>
      exact lv_i2s hx hb hd rfl (hk _ _ _ _ h M p e R s m args below meth c Qw H locs cells slots ls hM hC hH hL hc hs hret)
    | _ => exact h.elim

theorem as_i2c {mm pc : Nat} {M : ac_R} (hM : ac_M mm = some M) {nx : Nat} (hd : decode M.2.1 pc = .ok (.i2c, 1)) (hn : pc + 1 = nx) : ab_Snd mm pc (aa_un (fun x => (x.toUInt32 % 65536).toInt32) nx) := by
  intro G ST l d lo st sk V skr K ret go hrt h hk M' p e R s m args below meth c Qw H locs cells slots ls hM' hC hH hL hc hs hret
  cases hM.symm.trans hM'
  have hx := hC.1
  have hb := hC.2.1
  subst hn
  cases st with
  | nil => exact h.elim
  | cons v st =>
    cases v with
    | int x =>
      exact lv_i2c hx hb hd rfl (hk _ _ _ _ h M p e R s m args below meth c Qw H locs cells slots ls hM hC hH hL hc hs hret)
    | _ => exact h.elim

theorem as_i2l {mm pc : Nat} {M : ac_R} (hM : ac_M mm = some M) {nx : Nat} (hd : decode M.2.1 pc = .ok (.i2l, 1)) (hn : pc + 1 = nx) : ab_Snd mm pc (aa_i2l nx) := by
  intro G ST l d lo st sk V skr K ret go hrt h hk M' p e R s m args below meth c Qw H locs cells slots ls hM' hC hH hL hc hs hret
  cases hM.symm.trans hM'
  have hx := hC.1
  have hb := hC.2.1
  subst hn
  cases st with
  | nil => exact h.elim
  | cons v st =>
    cases v with
    | int x =>
      exact lv_i2l hx hb hd rfl (hk _ _ _ _ h M p e R s m args below meth c Qw H locs cells slots ls hM hC hH hL hc hs hret)
    | _ => exact h.elim

theorem as_l2i {mm pc : Nat} {M : ac_R} (hM : ac_M mm = some M) {nx : Nat} (hd : decode M.2.1 pc = .ok (.l2i, 1)) (hn : pc + 1 = nx) : ab_Snd mm pc (aa_l2i nx) := by
  intro G ST l d lo st sk V skr K ret go hrt h hk M' p e R s m args below meth c Qw H locs cells slots ls hM' hC hH hL hc hs hret
  cases hM.symm.trans hM'
  have hx := hC.1
  have hb := hC.2.1
  subst hn
  cases st with
  | nil => exact h.elim
  | cons v st =>
    cases v with
    | long x =>
      exact lv_l2i hx hb hd rfl (hk _ _ _ _ h M p e R s m args below meth c Qw H locs cells slots ls hM hC hH hL hc hs hret)
    | _ => exact h.elim

theorem as_icmp_eq {mm pc : Nat} {M : ac_R} (hM : ac_M mm = some M) {off : Int} {tg nx : Nat} (hd : decode M.2.1 pc = .ok (.if_icmp .eq off, 3)) (ht : (pc : Int) + off = (tg : Int)) (hn : pc + 3 = nx) : ab_Snd mm pc (aa_icmp (fun x y => x = y) tg nx) := by
  intro G ST l d lo st sk V skr K ret go hrt h hk M' p e R s m args below meth c Qw H locs cells slots ls hM' hC hH hL hc hs hret
  cases hM.symm.trans hM'
  have hx := hC.1
  have hb := hC.2.1
  subst hn
  cases st with
  | nil => exact h.elim
  | cons v st =>
    cases v with
    | int y =>
      cases st with
      | nil => exact h.elim
      | cons v st =>
        cases v with
        | int x =>
          exact lv_icmp_eq hx hb hd ht (fun q => hk _ _ _ _ (h.1 q) M p e R s m args below meth c Qw H locs cells slots ls hM hC hH hL hc hs hret) (fun q => hk _ _ _ _ (h.2 q) M p e R s m args below meth c Qw H locs cells slots ls hM hC hH hL hc hs hret)
        | _ => exact h.elim
    | _ => exact h.elim

theorem as_icmp_ne {mm pc : Nat} {M : ac_R} (hM : ac_M mm = some M) {off : Int} {tg nx : Nat} (hd : decode M.2.1 pc = .ok (.if_icmp .ne off, 3)) (ht : (pc : Int) + off = (tg : Int)) (hn : pc + 3 = nx) : ab_Snd mm pc (aa_icmp (fun x y => x = y) nx tg) := by
  intro G ST l d lo st sk V skr K ret go hrt h hk M' p e R s m args below meth c Qw H locs cells slots ls hM' hC hH hL hc hs hret
  cases hM.symm.trans hM'
  have hx := hC.1
  have hb := hC.2.1
  subst hn
  cases st with
  | nil => exact h.elim
  | cons v st =>
    cases v with
    | int y =>
      cases st with
      | nil => exact h.elim
      | cons v st =>
        cases v with
        | int x =>
          exact lv_icmp_ne hx hb hd ht (fun q => hk _ _ _ _ (h.2 q) M p e R s m args below meth c Qw H locs cells slots ls hM hC hH hL hc hs hret) (fun q => hk _ _ _ _ (h.1 q) M p e R s m args below meth c Qw H locs cells slots ls hM hC hH hL hc hs hret)
        | _ => exact h.elim
    | _ => exact h.elim

theorem as_icmp_lt {mm pc : Nat} {M : ac_R} (hM : ac_M mm = some M) {off : Int} {tg nx : Nat} (hd : decode M.2.1 pc = .ok (.if_icmp .lt off, 3)) (ht : (pc : Int) + off = (tg : Int)) (hn : pc + 3 = nx) : ab_Snd mm pc (aa_icmp (fun x y => x < y) tg nx) := by
  intro G ST l d lo st sk V skr K ret go hrt h hk M' p e R s m args below meth c Qw H locs cells slots ls hM' hC hH hL hc hs hret
  cases hM.symm.trans hM'
  have hx := hC.1
  have hb := hC.2.1
  subst hn
  cases st with
  | nil => exact h.elim
  | cons v st =>
    cases v with
    | int y =>
      cases st with
      | nil => exact h.elim
      | cons v st =>
        cases v with
        | int x =>
          exact lv_icmp_lt hx hb hd ht (fun q => hk _ _ _ _ (h.1 q) M p e R s m args below meth c Qw H locs cells slots ls hM hC hH hL hc hs hret) (fun q => hk _ _ _ _ (h.2 q) M p e R s m args below meth c Qw H locs cells slots ls hM hC hH hL hc hs hret)
        | _ => exact h.elim
    | _ => exact h.elim

theorem as_icmp_ge {mm pc : Nat} {M : ac_R} (hM : ac_M mm = some M) {off : Int} {tg nx : Nat} (hd : decode M.2.1 pc = .ok (.if_icmp .ge off, 3)) (ht : (pc : Int) + off = (tg : Int)) (hn : pc + 3 = nx) : ab_Snd mm pc (aa_icmp (fun x y => x < y) nx tg) := by
  intro G ST l d lo st sk V skr K ret go hrt h hk M' p e R s m args below meth c Qw H locs cells slots ls hM' hC hH hL hc hs hret
  cases hM.symm.trans hM'
  have hx := hC.1
  have hb := hC.2.1
  subst hn
  cases st with
  | nil => exact h.elim
  | cons v st =>
    cases v with
    | int y =>
      cases st with
      | nil => exact h.elim
      | cons v st =>
        cases v with
        | int x =>
          exact lv_icmp_ge hx hb hd ht (fun q => hk _ _ _ _ (h.2 (Int32.not_lt.mpr q)) M p e R s m args below meth c Qw H locs cells slots ls hM hC hH hL hc hs hret) (fun q => hk _ _ _ _ (h.1 (Int32.not_le.mp q)) M p e R s m args below meth c Qw H locs cells slots ls hM hC hH hL hc hs hret)
        | _ => exact h.elim
    | _ => exact h.elim

theorem as_icmp_gt {mm pc : Nat} {M : ac_R} (hM : ac_M mm = some M) {off : Int} {tg nx : Nat} (hd : decode M.2.1 pc = .ok (.if_icmp .gt off, 3)) (ht : (pc : Int) + off = (tg : Int)) (hn : pc + 3 = nx) : ab_Snd mm pc (aa_icmp (fun x y => y < x) tg nx) := by
  intro G ST l d lo st sk V skr K ret go hrt h hk M' p e R s m args below meth c Qw H locs cells slots ls hM' hC hH hL hc hs hret
  cases hM.symm.trans hM'
  have hx := hC.1
  have hb := hC.2.1
  subst hn
  cases st with
  | nil => exact h.elim
  | cons v st =>
    cases v with
    | int y =>
      cases st with
      | nil => exact h.elim
      | cons v st =>
        cases v with
        | int x =>
          exact lv_icmp_gt hx hb hd ht (fun q => hk _ _ _ _ (h.1 q) M p e R s m args below meth c Qw H locs cells slots ls hM hC hH hL hc hs hret) (fun q => hk _ _ _ _ (h.2 q) M p e R s m args below meth c Qw H locs cells slots ls hM hC hH hL hc hs hret)
        | _ => exact h.elim
    | _ => exact h.elim

theorem as_icmp_le {mm pc : Nat} {M : ac_R} (hM : ac_M mm = some M) {off : Int} {tg nx : Nat} (hd : decode M.2.1 pc = .ok (.if_icmp .le off, 3)) (ht : (pc : Int) + off = (tg : Int)) (hn : pc + 3 = nx) : ab_Snd mm pc (aa_icmp (fun x y => y < x) nx tg) := by
  intro G ST l d lo st sk V skr K ret go hrt h hk M' p e R s m args below meth c Qw H locs cells slots ls hM' hC hH hL hc hs hret
  cases hM.symm.trans hM'
  have hx := hC.1
  have hb := hC.2.1
  subst hn
  cases st with
  | nil => exact h.elim
  | cons v st =>
    cases v with
    | int y =>
      cases st with
      | nil => exact h.elim
      | cons v st =>
        cases v with
        | int x =>
          exact lv_icmp_le hx hb hd ht (fun q => hk _ _ _ _ (h.2 (Int32.not_lt.mpr q)) M p e R s m args below meth c Qw H locs cells slots ls hM hC hH hL hc hs hret) (fun q => hk _ _ _ _ (h.1 (Int32.not_le.mp q)) M p e R s m args below meth c Qw H locs cells slots ls hM hC hH hL hc hs hret)
        | _ => exact h.elim
    | _ => exact h.elim

theorem as_if_eq {mm pc : Nat} {M : ac_R} (hM : ac_M mm = some M) {off : Int} {tg nx : Nat} (hd : decode M.2.1 pc = .ok (.ifCond .eq off, 3)) (ht : (pc : Int) + off = (tg : Int)) (hn : pc + 3 = nx) : ab_Snd mm pc (aa_if (fun x => x = 0) tg nx) := by
  intro G ST l d lo st sk V skr K ret go hrt h hk M' p e R s m args below meth c Qw H locs cells slots ls hM' hC hH hL hc hs hret
  cases hM.symm.trans hM'
  have hx := hC.1
  have hb := hC.2.1
  subst hn
  cases st with
  | nil => exact h.elim
  | cons v st =>
    cases v with
    | int x =>
      exact lv_if_eq hx hb hd ht (fun q => hk _ _ _ _ (h.1 q) M p e R s m args below meth c Qw H locs cells slots ls hM hC hH hL hc hs hret) (fun q => hk _ _ _ _ (h.2 q) M p e R s m args below meth c Qw H locs cells slots ls hM hC hH hL hc hs hret)
    | _ => exact h.elim

theorem as_if_ne {mm pc : Nat} {M : ac_R} (hM : ac_M mm = some M) {off : Int} {tg nx : Nat} (hd : decode M.2.1 pc = .ok (.ifCond .ne off, 3)) (ht : (pc : Int) + off = (tg : Int)) (hn : pc + 3 = nx) : ab_Snd mm pc (aa_if (fun x => x = 0) nx tg) := by
  intro G ST l d lo st sk V skr K ret go hrt h hk M' p e R s m args below meth c Qw H locs cells slots ls hM' hC hH hL hc hs hret
  cases hM.symm.trans hM'
  have hx := hC.1
  have hb := hC.2.1
  subst hn
  cases st with
  | nil => exact h.elim
  | cons v st =>
    cases v with
    | int x =>
      exact lv_if_ne hx hb hd ht (fun q => hk _ _ _ _ (h.2 q) M p e R s m args below meth c Qw H locs cells slots ls hM hC hH hL hc hs hret) (fun q => hk _ _ _ _ (h.1 q) M p e R s m args below meth c Qw H locs cells slots ls hM hC hH hL hc hs hret)
    | _ => exact h.elim

theorem as_if_lt {mm pc : Nat} {M : ac_R} (hM : ac_M mm = some M) {off : Int} {tg nx : Nat} (hd : decode M.2.1 pc = .ok (.ifCond .lt off, 3)) (ht : (pc : Int) + off = (tg : Int)) (hn : pc + 3 = nx) : ab_Snd mm pc (aa_if (fun x => x < 0) tg nx) := by
  intro G ST l d lo st sk V skr K ret go hrt h hk M' p e R s m args below meth c Qw H locs cells slots ls hM' hC hH hL hc hs hret
  cases hM.symm.trans hM'
  have hx := hC.1
  have hb := hC.2.1
  subst hn
  cases st with
  | nil => exact h.elim
  | cons v st =>
    cases v with
    | int x =>
      exact lv_if_lt hx hb hd ht (fun q => hk _ _ _ _ (h.1 q) M p e R s m args below meth c Qw H locs cells slots ls hM hC hH hL hc hs hret) (fun q => hk _ _ _ _ (h.2 q) M p e R s m args below meth c Qw H locs cells slots ls hM hC hH hL hc hs hret)
    | _ => exact h.elim

theorem as_if_ge {mm pc : Nat} {M : ac_R} (hM : ac_M mm = some M) {off : Int} {tg nx : Nat} (hd : decode M.2.1 pc = .ok (.ifCond .ge off, 3)) (ht : (pc : Int) + off = (tg : Int)) (hn : pc + 3 = nx) : ab_Snd mm pc (aa_if (fun x => x < 0) nx tg) := by
  intro G ST l d lo st sk V skr K ret go hrt h hk M' p e R s m args below meth c Qw H locs cells slots ls hM' hC hH hL hc hs hret
  cases hM.symm.trans hM'
  have hx := hC.1
  have hb := hC.2.1
  subst hn
  cases st with
  | nil => exact h.elim
  | cons v st =>
    cases v with
    | int x =>
      exact lv_if_ge hx hb hd ht (fun q => hk _ _ _ _ (h.2 (Int32.not_lt.mpr q)) M p e R s m args below meth c Qw H locs cells slots ls hM hC hH hL hc hs hret) (fun q => hk _ _ _ _ (h.1 (Int32.not_le.mp q)) M p e R s m args below meth c Qw H locs cells slots ls hM hC hH hL hc hs hret)
    | _ => exact h.elim

theorem as_if_gt {mm pc : Nat} {M : ac_R} (hM : ac_M mm = some M) {off : Int} {tg nx : Nat} (hd : decode M.2.1 pc = .ok (.ifCond .gt off, 3)) (ht : (pc : Int) + off = (tg : Int)) (hn : pc + 3 = nx) : ab_Snd mm pc (aa_if (fun x => 0 < x) tg nx) := by
  intro G ST l d lo st sk V skr K ret go hrt h hk M' p e R s m args below meth c Qw H locs cells slots ls hM' hC hH hL hc hs hret
  cases hM.symm.trans hM'
  have hx := hC.1
  have hb := hC.2.1
  subst hn
  cases st with
  | nil => exact h.elim
  | cons v st =>
    cases v with
    | int x =>
      exact lv_if_gt hx hb hd ht (fun q => hk _ _ _ _ (h.1 q) M p e R s m args below meth c Qw H locs cells slots ls hM hC hH hL hc hs hret) (fun q => hk _ _ _ _ (h.2 q) M p e R s m args below meth c Qw H locs cells slots ls hM hC hH hL hc hs hret)
    | _ => exact h.elim

theorem as_if_le {mm pc : Nat} {M : ac_R} (hM : ac_M mm = some M) {off : Int} {tg nx : Nat} (hd : decode M.2.1 pc = .ok (.ifCond .le off, 3)) (ht : (pc : Int) + off = (tg : Int)) (hn : pc + 3 = nx) : ab_Snd mm pc (aa_if (fun x => 0 < x) nx tg) := by
  intro G ST l d lo st sk V skr K ret go hrt h hk M' p e R s m args below meth c Qw H locs cells slots ls hM' hC hH hL hc hs hret
  cases hM.symm.trans hM'
  have hx := hC.1
  have hb := hC.2.1
  subst hn
  cases st with
  | nil => exact h.elim
  | cons v st =>
    cases v with
    | int x =>
      exact lv_if_le hx hb hd ht (fun q => hk _ _ _ _ (h.2 (Int32.not_lt.mpr q)) M p e R s m args below meth c Qw H locs cells slots ls hM hC hH hL hc hs hret) (fun q => hk _ _ _ _ (h.1 (Int32.not_le.mp q)) M p e R s m args below meth c Qw H locs cells slots ls hM hC hH hL hc hs hret)
    | _ => exact h.elim

theorem as_goto {mm pc : Nat} {M : ac_R} (hM : ac_M mm = some M) {off : Int} {tg : Nat} (hd : decode M.2.1 pc = .ok (.goto off, 3)) (ht : (pc : Int) + off = (tg : Int)) : ab_Snd mm pc (aa_go tg) := by
  intro G ST l d lo st sk V skr K ret go hrt h hk M' p e R s m args below meth c Qw H locs cells slots ls hM' hC hH hL hc hs hret
  cases hM.symm.trans hM'
  have hx := hC.1
  have hb := hC.2.1
  exact lv_goto hx hb hd ht (hk _ _ _ _ h M p e R s m args below meth c Qw H locs cells slots ls hM hC hH hL hc hs hret)

theorem as_iinc {mm pc : Nat} {M : ac_R} (hM : ac_M mm = some M) {i nx : Nat} {n : Int} {z : Int32} (hd : decode M.2.1 pc = .ok (.iinc i n, 3)) (hz : Int32.ofInt n = z) (hl : i < M.2.2.1) (hn : pc + 3 = nx) : ab_Snd mm pc (aa_inc i z nx) := by
  intro G ST l d lo st sk V skr K ret go hrt h hk M' p e R s m args below meth c Qw H locs cells slots ls hM' hC hH hL hc hs hret
  cases hM.symm.trans hM'
  have hx := hC.1
  have hb := hC.2.1
  subst hn
  subst hz
  simp only [aa_inc] at h
  cases hg : aa_lg lo i with
  | none => rw [hg] at h; exact h.elim
  | some v =>
    rw [hg] at h
    cases v with
    | int x =>
      have hmem := ab_as_in (G := G) lo 0 i hg
      rw [Nat.zero_add] at hmem
      obtain ⟨k, hk2⟩ := List.getElem?_of_mem hmem
      refine lv_iinc (x := x) (k := k) hx hb hd hL.has hk2 rfl hl rfl (fun ls' hl' => ?_)
      exact hk _ _ _ _ h M p e R s m args below meth c Qw H locs cells slots ls' hM hC hH (hL.st hC.2.2.2.2.2.2.2.2.2.1.2.2.2.2.2.1 (v := .int (x + Int32.ofInt n)) hl') hc hs hret
    | _ => exact h.elim

theorem as_dup {mm pc : Nat} {M : ac_R} (hM : ac_M mm = some M) {nx : Nat} (hd : decode M.2.1 pc = .ok (.dup, 1)) (hn : pc + 1 = nx) : ab_Snd mm pc (aa_dup nx) := by
  intro G ST l d lo st sk V skr K ret go hrt h hk M' p e R s m args below meth c Qw H locs cells slots ls hM' hC hH hL hc hs hret
  cases hM.symm.trans hM'
  have hx := hC.1
  have hb := hC.2.1
  subst hn
  cases st with
  | nil => exact h.elim
  | cons v st =>
    cases v with
    | int x => exact lv_dup hx hb hd rfl (hk _ _ _ _ h M p e R s m args below meth c Qw H locs cells slots ls hM hC hH hL hc hs hret)
    | ref x => exact lv_dup hx hb hd rfl (hk _ _ _ _ h M p e R s m args below meth c Qw H locs cells slots ls hM hC hH hL hc hs hret)
    | _ => exact h.elim

theorem as_pop {mm pc : Nat} {M : ac_R} (hM : ac_M mm = some M) {nx : Nat} (hd : decode M.2.1 pc = .ok (.pop, 1)) (hn : pc + 1 = nx) : ab_Snd mm pc (aa_popo nx) := by
  intro G ST l d lo st sk V skr K ret go hrt h hk M' p e R s m args below meth c Qw H locs cells slots ls hM' hC hH hL hc hs hret
  cases hM.symm.trans hM'
  have hx := hC.1
  have hb := hC.2.1
  subst hn
  cases st with
  | nil => exact h.elim
  | cons v st =>
    cases v with
    | int x => exact lv_pop hx hb hd rfl (hk _ _ _ _ h M p e R s m args below meth c Qw H locs cells slots ls hM hC hH hL hc hs hret)
    | ref x => exact lv_pop hx hb hd rfl (hk _ _ _ _ h M p e R s m args below meth c Qw H locs cells slots ls hM hC hH hL hc hs hret)
    | _ => exact h.elim

theorem as_dup2 {mm pc : Nat} {M : ac_R} (hM : ac_M mm = some M) {nx : Nat} (hd : decode M.2.1 pc = .ok (.dup2, 1)) (hn : pc + 1 = nx) : ab_Snd mm pc (aa_dup2 nx) := by
  intro G ST l d lo st sk V skr K ret go hrt h hk M' p e R s m args below meth c Qw H locs cells slots ls hM' hC hH hL hc hs hret
  cases hM.symm.trans hM'
  have hx := hC.1
  have hb := hC.2.1
  subst hn
  cases st with
  | nil => exact h.elim
  | cons v st =>
    cases v with
    | int y =>
      cases st with
      | nil => exact h.elim
      | cons v st =>
        cases v with
        | ref x =>
          exact lv_dup2_11 hx hb hd rfl rfl (hk _ _ _ _ h M p e R s m args below meth c Qw H locs cells slots ls hM hC hH hL hc hs hret)
        | _ => exact h.elim
    | _ => exact h.elim

theorem as_iret {mm pc : Nat} {M : ac_R} (hM : ac_M mm = some M) (hd : decode M.2.1 pc = .ok (.ireturn, 1)) (hr : M.2.2.2 = some .int) : ab_Snd mm pc (aa_reti) := by
  intro G ST l d lo st sk V skr K ret go hrt h hk M' p e R s m args below meth c Qw H locs cells slots ls hM' hC hH hL hc hs hret
  cases hM.symm.trans hM'
  have hx := hC.1
  have hb := hC.2.1
  cases st with
  | nil => exact h.elim
  | cons v st =>
    cases v with
    | int x =>
      cases st with
      | nil => exact by obtain ⟨e, hK⟩ := hrt _ _ (h); subst e; exact hret _ _ _ _ _ _ _ _ hK hH (by omega) (by omega) ⟨hd, .int, hr, rfl⟩
      | cons _ _ => exact h.elim
    | _ => exact h.elim

theorem as_zret {mm pc : Nat} {M : ac_R} (hM : ac_M mm = some M) (hd : decode M.2.1 pc = .ok (.ireturn, 1)) (hr : M.2.2.2 = some .boolean) : ab_Snd mm pc (aa_retz) := by
  intro G ST l d lo st sk V skr K ret go hrt h hk M' p e R s m args below meth c Qw H locs cells slots ls hM' hC hH hL hc hs hret
  cases hM.symm.trans hM'
  have hx := hC.1
  have hb := hC.2.1
  cases st with
  | nil => exact h.elim
  | cons v st =>
    cases v with
    | int x =>
      cases st with
      | nil => exact by obtain ⟨e, hK⟩ := hrt _ _ (h.2); subst e; exact hret _ _ _ _ _ _ _ _ hK hH (by omega) (by omega) ⟨hd, .boolean, hr, by rcases h.1 with q | q <;> subst q <;> decide +kernel⟩
      | cons _ _ => exact h.elim
    | _ => exact h.elim

theorem as_nret {mm pc : Nat} {M : ac_R} (hM : ac_M mm = some M) {ty : FieldType} (hd : decode M.2.1 pc = .ok (.ireturn, 1)) (hr : M.2.2.2 = some ty) : ab_Snd mm pc (aa_retn ty) := by
  intro G ST l d lo st sk V skr K ret go hrt h hk M' p e R s m args below meth c Qw H locs cells slots ls hM' hC hH hL hc hs hret
  cases hM.symm.trans hM'
  have hx := hC.1
  have hb := hC.2.1
  cases st with
  | nil => exact h.elim
  | cons v st =>
    cases v with
    | int x =>
      cases st with
      | nil => exact by obtain ⟨e, hK⟩ := hrt _ _ (h.2); subst e; exact hret _ _ _ _ _ _ _ _ hK hH (by omega) (by omega) ⟨hd, ty, hr, h.1⟩
      | cons _ _ => exact h.elim
    | _ => exact h.elim

theorem as_lret {mm pc : Nat} {M : ac_R} (hM : ac_M mm = some M) (hd : decode M.2.1 pc = .ok (.lreturn, 1)) (hr : M.2.2.2 = some .long) : ab_Snd mm pc (aa_retl) := by
  intro G ST l d lo st sk V skr K ret go hrt h hk M' p e R s m args below meth c Qw H locs cells slots ls hM' hC hH hL hc hs hret
  cases hM.symm.trans hM'
  have hx := hC.1
  have hb := hC.2.1
  cases st with
  | nil => exact h.elim
  | cons v st =>
    cases v with
    | long x =>
      cases st with
      | nil => exact by obtain ⟨e, hK⟩ := hrt _ _ (h); subst e; exact hret _ _ _ _ _ _ _ _ hK hH (by omega) (by omega) ⟨hd, hr⟩
      | cons _ _ => exact h.elim
    | _ => exact h.elim

theorem as_aret {mm pc : Nat} {M : ac_R} (hM : ac_M mm = some M) {n : String} (hd : decode M.2.1 pc = .ok (.areturn, 1)) (hr : M.2.2.2 = some (.object n)) : ab_Snd mm pc (aa_reta) := by
  intro G ST l d lo st sk V skr K ret go hrt h hk M' p e R s m args below meth c Qw H locs cells slots ls hM' hC hH hL hc hs hret
  cases hM.symm.trans hM'
  have hx := hC.1
  have hb := hC.2.1
  cases st with
  | nil => exact h.elim
  | cons v st =>
    cases v with
    | ref x =>
      cases st with
      | nil => exact by obtain ⟨e, hK⟩ := hrt _ _ (h); subst e; exact hret _ _ _ _ _ _ _ _ hK hH (by omega) (by omega) ⟨hd, n, hr⟩
      | cons _ _ => exact h.elim
    | _ => exact h.elim

theorem as_vret {mm pc : Nat} {M : ac_R} (hM : ac_M mm = some M) (hd : decode M.2.1 pc = .ok (.return_, 1)) (hr : M.2.2.2 = none) : ab_Snd mm pc (aa_retv) := by
  intro G ST l d lo st sk V skr K ret go hrt h hk M' p e R s m args below meth c Qw H locs cells slots ls hM' hC hH hL hc hs hret
  cases hM.symm.trans hM'
  have hx := hC.1
  have hb := hC.2.1
  cases st with
  | nil => exact by obtain ⟨e, hK⟩ := hrt _ _ (h); subst e; exact hret _ _ _ _ _ _ _ _ hK hH (by omega) (by omega) ⟨hd, hr⟩
  | cons _ _ => exact h.elim
