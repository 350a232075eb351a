/-! the instructions that read and write cells -/
theorem ab_H.lt {G : ab_G} {sk : aa_Sk} {V : aa_V} {s : State} {H : Heap} {locs : List Loc} (hH : ab_H G sk V s H locs) {a : Nat} {c : aa_Ce} (hs : aa_sh sk a = some c) : ab_ad G a = G.1 + a := ab_adl (Nat.lt_of_lt_of_le (aa_sh_lt hs) hH.2.2.2.1)
theorem ab_H.gen {G : ab_G} {sk sk' : aa_Sk} {V V' : aa_V} {s : State} {H H1 : Heap} {locs : List Loc} {a k : Nat} {c c' : aa_Ce} (hH : ab_H G sk V s H locs) (hs : aa_sh sk a = some c) (hl : sk'.length = sk.length) (hs' : aa_sh sk' a = some c') (hc : c'.1 = c.1 ∧ c'.2.1 = c.2.1)
    (ho : ∀ b, b ≠ a → aa_sh sk' b = aa_sh sk b ∧ V' b = V b) (hat : va_at (ab_D G) vwCl (G.1 + a, ab_en G (V' a) c') H1) (z : H1.size = H.size) (oq : ∀ q : Nat, q ≠ G.1 + a → H1[q]? = H[q]?) : ab_H G sk' V' s H1 (locs ++ [⟨G.1 + a, k⟩]) := by
  obtain ⟨h1, h2, h3, h4, h5⟩ := hH
  refine ⟨fun q => by rw [z, hl]; exact h1 (by rw [← hl]; exact q), fun i q hi => ?_, h3.put z oq (Nat.le_add_right _ _), by rw [hl]; exact h4, fun b cb hb => ?_⟩
  · rw [ab_ws_at, ← aa_sh_eq] at hi
    by_cases hia : i = a
    · subst hia
      rw [hs'] at hi
      cases hi
      exact hat
    · rw [(ho i hia).1, (ho i hia).2] at hi
      cases hsi : aa_sh sk i with
      | none => rw [hsi] at hi; cases hi
      | some ci =>
        rw [hsi] at hi
        cases hi
        exact (h2 i _ (ab_ws_get hsi)).kept (oq _ (by show G.1 + i ≠ G.1 + a; omega))
  · by_cases hba : b = a
    · subst hba
      rw [hs'] at hb
      cases hb
      rw [hc.1, hc.2]
      exact h5 _ _ hs
    · rw [(ho b hba).1] at hb
      exact h5 _ _ hb
theorem ab_H.put {G : ab_G} {sk : aa_Sk} {V V' : aa_V} {s : State} {H H1 : Heap} {locs : List Loc} {a k : Nat} {c : aa_Ce} (hH : ab_H G sk V s H locs) (hs : aa_sh sk a = some c)
    (ho : ∀ b, b ≠ a → V' b = V b) (hat : va_at (ab_D G) vwCl (G.1 + a, ab_en G (V' a) c) H1) (z : H1.size = H.size) (oq : ∀ q : Nat, q ≠ G.1 + a → H1[q]? = H[q]?) : ab_H G sk V' s H1 (locs ++ [⟨G.1 + a, k⟩]) :=
  hH.gen hs rfl hs ⟨rfl, rfl⟩ (fun b hb => ⟨rfl, ho b hb⟩) hat z oq
/-- what a field's instruction rests on: the field k of the class ci, of the kind kd, under the number ix -/
def ac_fd (M : ac_R) (ix ci k kd : Nat) : Prop := ∃ q : vw_C, vwCl[ci]? = some q ∧ k < q.2.2 ∧ (∀ w ∈ u_ws q.1 q.2.1 q.2.2, w ∈ aa_BW) ∧ Cond.fieldLink M.1.cls ix q.1 (q.2.1 k).2.1 (q.2.1 k).2.2.1 ∈ aa_BW ∧ (q.2.1 k).1 = q.1 ∧ aa_fk ci k = kd ∧ ci < 100
theorem ac_fd.of {M : ac_R} {ix ci k kd : Nat} (q : vw_C) (h1 : vwCl[ci]? = some q) (h2 : k < q.2.2) (h3 : ∀ w ∈ u_ws q.1 q.2.1 q.2.2, w ∈ aa_BW) (i : Nat) (h4 : lw_tbl[i]? = some (Cond.fieldLink M.1.cls ix q.1 (q.2.1 k).2.1 (q.2.1 k).2.2.1)) (h6 : (q.2.1 k).1 = q.1) (h7 : aa_fk ci k = kd) (h8 : ci < 100) : ac_fd M ix ci k kd := ⟨q, h1, h2, h3, aa_bw i h4 rfl, h6, h7, h8⟩
theorem ab_en_o {G : ab_G} {W : Nat → Int32} {c : aa_Ce} (h : c.1 < 100) : ab_en G W c = .inr (c.1, (List.range c.2.1).map (ab_fv G W c)) := if_pos h
theorem ab_en_i {G : ab_G} {W : Nat → Int32} {c : aa_Ce} (h : ¬ c.1 < 100) (h2 : c.1 < 102) : ab_en G W c = .inl (ab_cy G (c.1 - 100), c.2.1, .inl W) := by unfold ab_en; rw [if_neg h, if_pos h2]
theorem ab_en_r {G : ab_G} {W : Nat → Int32} {c : aa_Ce} (h : ¬ c.1 < 102) : ab_en G W c = .inl (ab_cy G (c.1 - 100), c.2.1, .inr (.inr (.inr (.inr (fun i => ab_rf G (aa_nth c.2.2 i)))))) := by unfold ab_en; rw [if_neg (by omega), if_neg h]
theorem ab_fs_get {G : ab_G} {W : Nat → Int32} {c : aa_Ce} {k : Nat} (h : k < c.2.1) : ((List.range c.2.1).map (ab_fv G W c))[k]? = some (ab_fv G W c k) := by simp [h]
theorem ab_fs_set {G : ab_G} {W W' : Nat → Int32} {c c' : aa_Ce} {k : Nat} {v : Value} (hn : c'.2.1 = c.2.1) (ho : ∀ i, i ≠ k → ab_fv G W' c' i = ab_fv G W c i) (hv : ab_fv G W' c' k = v) (j : Nat) (hj : j < c.2.1) : updV (vp_V ((List.range c.2.1).map (ab_fv G W c))) k v j = vp_V ((List.range c'.2.1).map (ab_fv G W' c')) j := by
  have e1 : vp_V ((List.range c'.2.1).map (ab_fv G W' c')) j = ab_fv G W' c' j := by
    unfold vp_V
    rw [List.getD_eq_getElem?_getD, ab_fs_get (by omega)]
    rfl
  have e2 : vp_V ((List.range c.2.1).map (ab_fv G W c)) j = ab_fv G W c j := by
    unfold vp_V
    rw [List.getD_eq_getElem?_getD, ab_fs_get hj]
    rfl
  rw [e1]
  by_cases hjk : j = k
  · subst hjk
    simp [updV, hv]
  · simp only [updV, if_neg hjk]
    rw [e2, ho j hjk]
/-- a getfield, for any of the kinds -/
theorem ab_get {G : ab_G} {ST : aa_St} {d pc ix ci k kd a n : Nat} {M : ac_R} {p : Program} {l : Launch} {e : Env} {R : Room} {s : State} {m : MethodId} {args : Array Value} {below : List Frame} {meth : Method} {c : Code} {Qw : State → Prop} {H : Heap} {locs : List Loc} {cells slots : Nat} {ls : Array Slot} {sk : aa_Sk} {V : aa_V} {rs : List Nat} {st : List Value}
    (hC : ab_C G ST d M p R s m args meth c) (hH : ab_H G sk V s H locs) (hs : aa_sh sk a = some (ci, n, rs)) (hd : decode M.2.1 pc = .ok (.getfield ix, 3)) (hf : ac_fd M ix ci k kd)
    (kk : W p l e R s m args below meth c H locs cells slots Qw (F0 m (pc + 3) ls (ab_fv G (V a) (ci, n, rs) k :: st))) : W p l e R s m args below meth c H locs cells slots Qw (F0 m pc ls (.ref (ab_ad G a) :: st)) := by
  obtain ⟨q, f1, f2, f3, f4, f5, f6, f7⟩ := hf
  obtain ⟨c1, c2, c3, c4, c5, c6, c7, c8, c9, c10, c11, c12, c13⟩ := hC
  rw [hH.lt hs]
  obtain ⟨r, hr, hn⟩ := (hH.2.2.2.2 a _ hs).1 f7
  have hrq : r = q := Option.some.inj (hr.symm.trans f1)
  subst hrq
  have hg := ab_ws_get (G := G) (V := V) hs
  rw [ab_en_o (show (ci, n, rs).1 < 100 from f7)] at hg
  exact va_get (T := r.2.1) (N := r.2.2) (ws := ab_ws G sk V) c1 c2 c5 f3 c4 c9 hH.2.1 a hg f1 k f2 (c5 _ f4) (fun x hx => by rw [f5] at hx; exact hx) (ab_fs_get (c := (ci, n, rs)) (by have h9 : r.2.2 = n := hn; show k < n; omega)) hd kk
theorem ab_fv0 {G : ab_G} {W : Nat → Int32} {c : aa_Ce} {k : Nat} (h : aa_fk c.1 k = 0) : ab_fv G W c k = .int (W k) := by
  unfold ab_fv
  rw [h]
  rfl
theorem ab_fv1 {G : ab_G} {W : Nat → Int32} {c : aa_Ce} {k : Nat} (h : aa_fk c.1 k = 1) : ab_fv G W c k = va_rf (ab_rf G (aa_nth c.2.2 k)) := by
  unfold ab_fv
  rw [h]
  rfl
theorem ab_fv2 {G : ab_G} {W : Nat → Int32} {c : aa_Ce} {k : Nat} (h : aa_fk c.1 k = 2) : ab_fv G W c k = va_rf (ab_rf G (W k).toNatClampNeg) := by
  unfold ab_fv
  rw [h]
  rfl
theorem as_gI {mm pc : Nat} {M : ac_R} (hM : ac_M mm = some M) {ix ci k nx : Nat} (hd : decode M.2.1 pc = .ok (.getfield ix, 3)) (hf : ac_fd M ix ci k 0) (hn : pc + 3 = nx) : ab_Snd mm pc (aa_gI ci k nx) := by
  intro G ST l d lo st sk V skr K ret go hrt h hk M' p e R s m args below meth c Qw H locs cells slots ls hM' hC hH hL hc hs hret
  cases hM.symm.trans hM'
  subst hn
  cases st with
  | nil => exact h.elim
  | cons v st =>
    cases v with
    | ref a =>
      simp only [aa_gI] at h
      cases hsa : aa_sh sk a with
      | none => rw [hsa] at h; exact h.elim
      | some ce =>
        obtain ⟨c0, n, rs⟩ := ce
        rw [hsa] at h
        cases hb : Nat.beq c0 ci with
        | false => simp only [hb] at h
        | true =>
          simp only [hb] at h
          have hb2 := Nat.eq_of_beq_eq_true hb
          subst hb2
          refine ab_get hC hH hsa hd hf ?_
          rw [ab_fv0 (c := (c0, n, rs)) hf.choose_spec.2.2.2.2.2.1]
          exact hk _ _ _ _ h M p e R s m args below meth c Qw H locs cells slots ls hM hC hH hL hc hs hret
    | _ => exact h.elim
theorem as_gIs {mm pc : Nat} {M : ac_R} (hM : ac_M mm = some M) {ix ci k nx : Nat} (hd : decode M.2.1 pc = .ok (.getfield ix, 3)) (hf : ac_fd M ix ci k 0) (hn : pc + 3 = nx) : ab_Snd mm pc (aa_gIs ci k nx) := by
  intro G ST l d lo st sk V skr K ret go hrt h hk M' p e R s m args below meth c Qw H locs cells slots ls hM' hC hH hL hc hs hret
  cases hM.symm.trans hM'
  subst hn
  cases st with
  | nil => exact h.elim
  | cons v st =>
    cases v with
    | ref a =>
      obtain ⟨⟨n, rs, hsa⟩, h⟩ := h
      refine ab_get hC hH hsa hd hf ?_
      rw [ab_fv0 (c := (ci, n, rs)) hf.choose_spec.2.2.2.2.2.1]
      exact hk _ _ _ _ h M p e R s m args below meth c Qw H locs cells slots ls hM hC hH hL hc hs hret
    | _ => exact h.elim
theorem as_gR {mm pc : Nat} {M : ac_R} (hM : ac_M mm = some M) {ix ci k nx : Nat} (hd : decode M.2.1 pc = .ok (.getfield ix, 3)) (hf : ac_fd M ix ci k 1) (hn : pc + 3 = nx) : ab_Snd mm pc (aa_gR ci k nx) := by
  intro G ST l d lo st sk V skr K ret go hrt h hk M' p e R s m args below meth c Qw H locs cells slots ls hM' hC hH hL hc hs hret
  cases hM.symm.trans hM'
  subst hn
  cases st with
  | nil => exact h.elim
  | cons v st =>
    cases v with
    | ref a =>
      simp only [aa_gR] at h
      cases hsa : aa_sh sk a with
      | none => rw [hsa] at h; exact h.elim
      | some ce =>
        obtain ⟨c0, n, rs⟩ := ce
        rw [hsa] at h
        cases hb : Nat.beq c0 ci with
        | false => simp only [hb] at h
        | true =>
          simp only [hb] at h
          have hb2 := Nat.eq_of_beq_eq_true hb
          subst hb2
          cases hq : aa_nth rs k with
          | zero => rw [hq] at h; exact h.elim
          | succ q =>
            rw [hq] at h
            refine ab_get hC hH hsa hd hf ?_
            rw [ab_fv1 (c := (c0, n, rs)) hf.choose_spec.2.2.2.2.2.1, hq]
            exact hk _ _ _ _ h M p e R s m args below meth c Qw H locs cells slots ls hM hC hH hL hc hs hret
    | _ => exact h.elim
theorem as_gRs {mm pc : Nat} {M : ac_R} (hM : ac_M mm = some M) {ix ci k nx : Nat} (hd : decode M.2.1 pc = .ok (.getfield ix, 3)) (hf : ac_fd M ix ci k 1) (hn : pc + 3 = nx) : ab_Snd mm pc (aa_gRs ci k nx) := by
  intro G ST l d lo st sk V skr K ret go hrt h hk M' p e R s m args below meth c Qw H locs cells slots ls hM' hC hH hL hc hs hret
  cases hM.symm.trans hM'
  subst hn
  cases st with
  | nil => exact h.elim
  | cons v st =>
    cases v with
    | ref a =>
      obtain ⟨n, rs, q, hsa, hq, h⟩ := h
      refine ab_get hC hH hsa hd hf ?_
      rw [ab_fv1 (c := (ci, n, rs)) hf.choose_spec.2.2.2.2.2.1, hq]
      exact hk _ _ _ _ h M p e R s m args below meth c Qw H locs cells slots ls hM hC hH hL hc hs hret
    | _ => exact h.elim
theorem as_gC {mm pc : Nat} {M : ac_R} (hM : ac_M mm = some M) {ix ci k nx : Nat} (hd : decode M.2.1 pc = .ok (.getfield ix, 3)) (hf : ac_fd M ix ci k 2) (hn : pc + 3 = nx) : ab_Snd mm pc (aa_gC ci k nx) := by
  intro G ST l d lo st sk V skr K ret go hrt h hk M' p e R s m args below meth c Qw H locs cells slots ls hM' hC hH hL hc hs hret
  cases hM.symm.trans hM'
  subst hn
  cases st with
  | nil => exact h.elim
  | cons v st =>
    cases v with
    | ref a =>
      simp only [aa_gC] at h
      cases hsa : aa_sh sk a with
      | none => rw [hsa] at h; exact h.elim
      | some ce =>
        obtain ⟨c0, n, rs⟩ := ce
        rw [hsa] at h
        cases hb : Nat.beq c0 ci with
        | false => simp only [hb] at h
        | true =>
          simp only [hb] at h
          have hb2 := Nat.eq_of_beq_eq_true hb
          subst hb2
          obtain ⟨q, hq, h⟩ := h
          refine ab_get hC hH hsa hd hf ?_
          rw [ab_fv2 (c := (c0, n, rs)) hf.choose_spec.2.2.2.2.2.1, hq]
          exact hk _ _ _ _ h M p e R s m args below meth c Qw H locs cells slots ls hM hC hH hL hc hs hret
    | _ => exact h.elim
/-- a putfield of a field that is not final, of any kind -/
theorem ab_putv {G : ab_G} {ST : aa_St} {d pc ix ci k kd a n : Nat} {M : ac_R} {p : Program} {l : Launch} {e : Env} {R : Room} {s : State} {m : MethodId} {args : Array Value} {below : List Frame} {meth : Method} {c : Code} {Qw : State → Prop} {H : Heap} {locs : List Loc} {cells slots : Nat} {ls : Array Slot} {sk : aa_Sk} {V V' : aa_V} {rs : List Nat} {st : List Value} {v : Value} {ty : FieldType} {ty0 : Nat → FieldType}
    (hC : ab_C G ST d M p R s m args meth c) (hH : ab_H G sk V s H locs) (hs : aa_sh sk a = some (ci, n, rs)) (hd : decode M.2.1 pc = .ok (.putfield ix, 3)) (hf : ac_fd M ix ci k kd)
    (q : vw_C) (hq : vwCl[ci]? = some q) (hty : ∀ k, k < q.2.2 → parseFieldDescriptor (q.2.1 k).2.2.1 = some (ty0 k)) (hnm : ∀ a, a < q.2.2 → ∀ b, b < q.2.2 → a ≠ b → (q.2.1 a).2.1 ≠ (q.2.1 b).2.1)
    (hfin : (q.2.1 k).2.2.2 = false) (hpt : parseFieldDescriptor (q.2.1 k).2.2.1 = some ty) (hnr : narrow ty v = v) (hfit : fits ty v = true)
    (ho : ∀ b, b ≠ a → V' b = V b) (hof : ∀ i, i ≠ k → ab_fv G (V' a) (ci, n, rs) i = ab_fv G (V a) (ci, n, rs) i) (hvf : ab_fv G (V' a) (ci, n, rs) k = v)
    (kk : ∀ (H1 : Heap) (locs1 : List Loc), ab_H G sk V' s H1 locs1 → W p l e R s m args below meth c H1 locs1 cells slots Qw (F0 m (pc + 3) ls st)) : W p l e R s m args below meth c H locs cells slots Qw (F0 m pc ls (v :: .ref (ab_ad G a) :: st)) := by
  obtain ⟨r, f1, f2, f3, f4, f5, f6, f7⟩ := hf
  obtain ⟨c1, c2, c3, c4, c5, c6, c7, c8, c9, c10, c11, c12, c13⟩ := hC
  have hrq : r = q := Option.some.inj (f1.symm.trans hq)
  subst hrq
  obtain ⟨r2, hr2, hn⟩ := (hH.2.2.2.2 a _ hs).1 f7
  have hrq : r2 = r := Option.some.inj (hr2.symm.trans f1)
  subst hrq
  rw [hH.lt hs]
  have hap := va_apart (own := M.1.cls) (D := ab_D G) c5 f3 ty0 hty hnm c9 f1
  have hg := ab_ws_get (G := G) (V := V) hs
  rw [ab_en_o (show (ci, n, rs).1 < 100 from f7)] at hg
  obtain ⟨r3, h1, cell, q1, q2, q3, q4⟩ := hH.2.1 a _ hg
  have hrq : r3 = r2 := Option.some.inj (h1.symm.trans f1)
  subst hrq
  obtain ⟨hS, hfc, kC, hkC, hkind⟩ := c9.1 ci _ f1
  obtain ⟨cf, kf, fi, f, hi, hsl⟩ := hS k f2
  have hlay := c5 _ (f3 _ (u_in_lay f2))
  unfold u_lay at hlay
  rw [if_neg (by rw [hfin]; decide)] at hlay
  have hst := (u_facts hfc hkC (u_lays c5 f3 f2) hi).1
  have h6 := u_store hfc hkC hkind hlay hi hpt hnr hfit
  refine W.putK c1 c2 (f := f) ⟨c4, c5 _ f4, ⟨_, _, _, by rw [← f5]; exact hi⟩, hst⟩ (by rw [q2]; exact h6) q1 q3 (by rw [hsl]; exact k2_hasslot (q4 k f2)) rfl rfl hd fun H' e1 e2 e3 => ?_
  rw [hsl] at e1 ⊢
  refine kk H' _ (hH.put hs ho ?_ e2 e3)
  rw [ab_en_o (show (ci, n, rs).1 < 100 from f7)]
  exact ⟨r3, f1, t_OB.to (V := updV (vp_V ((List.range n).map (ab_fv G (V a) (ci, n, rs)))) k v) ⟨_, e1, q2, q3, t_set q4 hap f2 v⟩ (fun j hj => ab_fs_set (c := (ci, n, rs)) (c' := (ci, n, rs)) rfl hof hvf j (by have h9 : r3.2.2 = n := hn; show j < n; omega))⟩
theorem aa_up_ne {V : aa_V} {a k b : Nat} {x : Int32} (h : b ≠ a) : aa_up V a k x b = V b := if_neg h
theorem aa_up_self {V : aa_V} {a k : Nat} {x : Int32} : aa_up V a k x a = upd (V a) k x := if_pos rfl
theorem ab_fv_upd {G : ab_G} {W : Nat → Int32} {c : aa_Ce} {k i : Nat} {x : Int32} (h : i ≠ k) : ab_fv G (upd W k x) c i = ab_fv G W c i := by
  unfold ab_fv
  rw [pk_un h]
/-- what a putfield rests on beside -/
def ac_pt (ci k : Nat) (ty : FieldType) : Prop := ∃ (q : vw_C) (ty0 : Nat → FieldType), vwCl[ci]? = some q ∧ (∀ k, k < q.2.2 → parseFieldDescriptor (q.2.1 k).2.2.1 = some (ty0 k)) ∧ (∀ a, a < q.2.2 → ∀ b, b < q.2.2 → a ≠ b → (q.2.1 a).2.1 ≠ (q.2.1 b).2.1) ∧ (q.2.1 k).2.2.2 = false ∧ parseFieldDescriptor (q.2.1 k).2.2.1 = some ty
theorem ab_putI {G : ab_G} {ST : aa_St} {d pc ix ci k a n : Nat} {M : ac_R} {p : Program} {l : Launch} {e : Env} {R : Room} {s : State} {m : MethodId} {args : Array Value} {below : List Frame} {meth : Method} {c : Code} {Qw : State → Prop} {H : Heap} {locs : List Loc} {cells slots : Nat} {ls : Array Slot} {sk : aa_Sk} {V : aa_V} {rs : List Nat} {st : List Value} {x : Int32}
    (hC : ab_C G ST d M p R s m args meth c) (hH : ab_H G sk V s H locs) (hs : aa_sh sk a = some (ci, n, rs)) (hd : decode M.2.1 pc = .ok (.putfield ix, 3)) (hf : ac_fd M ix ci k 0) (hp : ac_pt ci k .int)
    (kk : ∀ (H1 : Heap) (locs1 : List Loc), ab_H G sk (aa_up V a k x) s H1 locs1 → W p l e R s m args below meth c H1 locs1 cells slots Qw (F0 m (pc + 3) ls st)) : W p l e R s m args below meth c H locs cells slots Qw (F0 m pc ls (.int x :: .ref (ab_ad G a) :: st)) := by
  obtain ⟨q, ty0, p1, p2, p3, p4, p5⟩ := hp
  refine ab_putv (ty := .int) hC hH hs hd hf q p1 p2 p3 p4 p5 rfl rfl (V' := aa_up V a k x) (fun b hb => aa_up_ne hb) (fun i hi => by rw [aa_up_self, ab_fv_upd hi]) ?_ kk
  rw [ab_fv0 (c := (ci, n, rs)) hf.choose_spec.2.2.2.2.2.1, aa_up_self, pk_us]
theorem as_pI {mm pc : Nat} {M : ac_R} (hM : ac_M mm = some M) {ix ci k nx : Nat} (hd : decode M.2.1 pc = .ok (.putfield ix, 3)) (hf : ac_fd M ix ci k 0) (hp : ac_pt ci k .int) (hn : pc + 3 = nx) : ab_Snd mm pc (aa_pI ci k nx) := by
  intro G ST l d lo st sk V skr K ret go hrt h hk M' p e R s m args below meth c Qw H locs cells slots ls hM' hC hH hL hc hs hret
  cases hM.symm.trans hM'
  subst hn
  cases st with
  | nil => exact h.elim
  | cons v st =>
    cases v with
    | int x =>
      cases st with
      | nil => exact h.elim
      | cons v st =>
        cases v with
        | ref a =>
          simp only [aa_pI] at h
          cases hsa : aa_sh sk a with
          | none => rw [hsa] at h; exact h.elim
          | some ce =>
            obtain ⟨c0, n, rs⟩ := ce
            rw [hsa] at h
            cases hb : Nat.beq c0 ci with
            | false => simp only [hb] at h
            | true =>
              simp only [hb] at h
              have hb2 := Nat.eq_of_beq_eq_true hb
              subst hb2
              exact ab_putI hC hH hsa hd hf hp fun H1 locs1 hH1 => hk _ _ _ _ h M p e R s m args below meth c Qw H1 locs1 cells slots ls hM hC hH1 hL hc hs hret
        | _ => exact h.elim
    | _ => exact h.elim
theorem as_pIs {mm pc : Nat} {M : ac_R} (hM : ac_M mm = some M) {ix ci k nx : Nat} (hd : decode M.2.1 pc = .ok (.putfield ix, 3)) (hf : ac_fd M ix ci k 0) (hp : ac_pt ci k .int) (hn : pc + 3 = nx) : ab_Snd mm pc (aa_pIs ci k nx) := by
  intro G ST l d lo st sk V skr K ret go hrt h hk M' p e R s m args below meth c Qw H locs cells slots ls hM' hC hH hL hc hs hret
  cases hM.symm.trans hM'
  subst hn
  cases st with
  | nil => exact h.elim
  | cons v st =>
    cases v with
    | int x =>
      cases st with
      | nil => exact h.elim
      | cons v st =>
        cases v with
        | ref a =>
          obtain ⟨⟨n, rs, hsa⟩, h⟩ := h
          exact ab_putI hC hH hsa hd hf hp fun H1 locs1 hH1 => hk _ _ _ _ h M p e R s m args below meth c Qw H1 locs1 cells slots ls hM hC hH1 hL hc hs hret
        | _ => exact h.elim
    | _ => exact h.elim
theorem as_pC {mm pc : Nat} {M : ac_R} (hM : ac_M mm = some M) {ix ci k nx : Nat} {nm : String} (hd : decode M.2.1 pc = .ok (.putfield ix, 3)) (hf : ac_fd M ix ci k 2) (hp : ac_pt ci k (.object nm)) (hn : pc + 3 = nx) : ab_Snd mm pc (aa_pC ci k nx) := by
  intro G ST l d lo st sk V skr K ret go hrt h hk M' p e R s m args below meth c Qw H locs cells slots ls hM' hC hH hL hc hs hret
  cases hM.symm.trans hM'
  subst hn
  cases st with
  | nil => exact h.elim
  | cons v st =>
    cases v with
    | ref b =>
      cases st with
      | nil => exact h.elim
      | cons v st =>
        cases v with
        | ref a =>
          simp only [aa_pC] at h
          cases hsa : aa_sh sk a with
          | none => rw [hsa] at h; exact h.elim
          | some ce =>
            obtain ⟨c0, n, rs⟩ := ce
            rw [hsa] at h
            cases hb : Nat.beq c0 ci with
            | false => simp only [hb] at h
            | true =>
              simp only [hb] at h
              have hb2 := Nat.eq_of_beq_eq_true hb
              subst hb2
              obtain ⟨q, ty0, p1, p2, p3, p4, p5⟩ := hp
              refine ab_putv (ty := .object nm) hC hH hsa hd hf q p1 p2 p3 p4 p5 rfl rfl (V' := aa_up V a k (nI (b + 1))) (fun b' hb' => aa_up_ne hb') (fun i hi => by rw [aa_up_self, ab_fv_upd hi]) ?_ fun H1 locs1 hH1 => hk _ _ _ _ h.2 M p e R s m args below meth c Qw H1 locs1 cells slots ls hM hC hH1 hL hc hs hret
              rw [ab_fv2 (c := (c0, n, rs)) hf.choose_spec.2.2.2.2.2.1, aa_up_self, pk_us, nI_clamp (Nat.lt_of_lt_of_le (Nat.succ_lt_succ h.1) (Nat.le_of_ble_eq_true rfl))]
              rfl
        | _ => exact h.elim
    | _ => exact h.elim

-- rows of ints
theorem ab_tyi (G : ab_G) : (ab_ty G)[0]? = some (ab_cy G 0, .int) := rfl
theorem ab_tyb (G : ab_G) : (ab_ty G)[1]? = some (ab_cy G 1, .byte) := rfl
theorem ab_ali {G : ab_G} {ST : aa_St} {d pc kd a n : Nat} {M : ac_R} {p : Program} {l : Launch} {e : Env} {R : Room} {s : State} {m : MethodId} {args : Array Value} {below : List Frame} {meth : Method} {c : Code} {Qw : State → Prop} {H : Heap} {locs : List Loc} {cells slots : Nat} {ls : Array Slot} {sk : aa_Sk} {V : aa_V} {rs : List Nat} {st : List Value} {i : Int32}
    (hC : ab_C G ST d M p R s m args meth c) (hH : ab_H G sk V s H locs) (hs : aa_sh sk a = some (kd, n, rs)) (hk : kd = 100 ∧ decode M.2.1 pc = .ok (.iaload, 1) ∨ kd = 101 ∧ decode M.2.1 pc = .ok (.baload, 1)) (hin : vp_in i n)
    (kk : W p l e R s m args below meth c H locs cells slots Qw (F0 m (pc + 1) ls (.int (V a i.toNatClampNeg) :: st))) : W p l e R s m args below meth c H locs cells slots Qw (F0 m pc ls (.int i :: .ref (ab_ad G a) :: st)) := by
  obtain ⟨c1, c2, c3, c4, c5, c6, c7, c8, c9, c10, c11, c12, c13⟩ := hC
  rw [hH.lt hs]
  have hg := ab_ws_get (G := G) (V := V) hs
  rcases hk with ⟨rfl, hd⟩ | ⟨rfl, hd⟩
  · rw [ab_en_i (by show ¬ (100 : Nat) < 100; omega) (by show (100 : Nat) < 102; omega)] at hg
    exact va_iald c1 c2 c9 hH.2.1 a 0 hg (ab_tyi G) hin hd kk
  · rw [ab_en_i (by show ¬ (101 : Nat) < 100; omega) (by show (101 : Nat) < 102; omega)] at hg
    exact va_bald c1 c2 c9 hH.2.1 a 1 hg (ab_tyb G) hin hd kk
theorem ab_tb {p : Program} {l : Launch} {e : Env} {R : Room} {s : State} {m : MethodId} {args : Array Value} {below : List Frame} {meth : Method} {c : Code} {H : Heap} {locs : List Loc} {cells slots : Nat} {Q : State → Prop} {cc : ByteArray} {pc : Nat} {ls : Array Slot} {rest : List Value} {A : Nat → Prop} {t N : Nat} {f : Nat → Value} (hexec : p.tables.exec = Jvm.exec) (hb : c.code = cc) (hT : va_T .byte t N f A s s.heap) (hS : va_S A s.heap H locs) {i : Int32} (hin : vp_in i N) {v : Value} (hv : f i.toNatClampNeg = v) (hdg : decode cc pc = .ok (.baload, 1))
    (kk : W p l e R s m args below meth c H locs cells slots Q (F0 m (pc + 1) ls (v :: rest))) : W p l e R s m args below meth c H locs cells slots Q (F0 m pc ls (.int i :: .ref t :: rest)) := by
  obtain ⟨cell, h1, h2, h3, h4, h5, h6, h7⟩ := hT
  have hlt : i.toNatClampNeg < N := Nat.not_le.mp fun q => hin (Or.inr q)
  have hin' : ¬ (i < 0 ∨ cell.slots.size ≤ i.toNatClampNeg) := by
    intro q
    rcases q with q | q
    · exact hin (Or.inl q)
    · omega
  exact W.bald (v := v) hexec hb (by rw [hS.2.1 t (Array.getElem?_eq_some_iff.mp h1).1 h7]; exact h1) h2 h3 hin' (by rw [h6 _ hlt, hv]) rfl rfl hdg kk
theorem ab_SW.row {G : ab_G} {ST : aa_St} {s : State} {H : Heap} (h : ab_SW G ST s H) (j : Nat) (hk : (ST j).1 = 100 ∨ (ST j).1 = 101) : (j < 3 ∨ 100 ≤ j ∧ j < 112) := by
  obtain ⟨h1, h2, h3, h4, h5, h6, h7, h8, h9, h10⟩ := h
  by_cases hj : j < 3 ∨ 100 ≤ j ∧ j < 112
  · exact hj
  · have := h8 j hj
    omega
theorem ab_alst {G : ab_G} {ST : aa_St} {d pc kd j : Nat} {M : ac_R} {p : Program} {l : Launch} {e : Env} {R : Room} {s : State} {m : MethodId} {args : Array Value} {below : List Frame} {meth : Method} {c : Code} {Qw : State → Prop} {H : Heap} {locs : List Loc} {cells slots : Nat} {ls : Array Slot} {sk : aa_Sk} {V : aa_V} {st : List Value} {i : Int32}
    (hC : ab_C G ST d M p R s m args meth c) (hH : ab_H G sk V s H locs) (hj : kd = (ST j).1) (hk : kd = 100 ∧ decode M.2.1 pc = .ok (.iaload, 1) ∨ kd = 101 ∧ decode M.2.1 pc = .ok (.baload, 1)) (hin : vp_in i (ST j).2.1)
    (kk : W p l e R s m args below meth c H locs cells slots Qw (F0 m (pc + 1) ls (.int ((ST j).2.2 i.toNatClampNeg) :: st))) : W p l e R s m args below meth c H locs cells slots Qw (F0 m pc ls (.int i :: .ref (ab_ad G (1000000 + j)) :: st)) := by
  obtain ⟨c1, c2, c3, c4, c5, c6, c7, c8, c9, c10, c11, c12, c13⟩ := hC
  have hr := c10.row j (by rcases hk with ⟨q, -⟩ | ⟨q, -⟩ <;> omega)
  obtain ⟨r1, r2, r3⟩ := c10.2.2.2.2.2.2.1 j hr
  rcases hk with ⟨rfl, hd⟩ | ⟨rfl, hd⟩
  · have hj3 : j < 3 := by
      by_cases q : j < 3
      · exact q
      · rw [if_neg q] at r1; omega
    rw [if_pos hj3] at r3
    exact va_ti c1 c2 r3 hH.2.2.1 hin rfl hd kk
  · have hj3 : ¬ j < 3 := by
      intro q
      rw [if_pos q] at r1; omega
    rw [if_neg hj3] at r3
    exact ab_tb c1 c2 r3 hH.2.2.1 hin rfl hd kk
theorem as_al {mm pc : Nat} {M : ac_R} (hM : ac_M mm = some M) {kd nx : Nat} (hk0 : kd = 100 ∧ decode M.2.1 pc = .ok (.iaload, 1) ∨ kd = 101 ∧ decode M.2.1 pc = .ok (.baload, 1)) (hn : pc + 1 = nx) : ab_Snd mm pc (aa_al kd nx) := by
  intro G ST l d lo st sk V skr K ret go hrt h hk M' p e R s m args below meth c Qw H locs cells slots ls hM' hC hH hL hc hs hret
  cases hM.symm.trans hM'
  subst hn
  cases st with
  | nil => exact h.elim
  | cons v st =>
    cases v with
    | int i =>
      cases st with
      | nil => exact h.elim
      | cons v st =>
        cases v with
        | ref a =>
          simp only [aa_al] at h
          cases hlt : Nat.blt a 1000000 with
          | true =>
            simp only [hlt] at h
            cases hsa : aa_sh sk a with
            | none => simp only [hsa] at h
            | some ce =>
              obtain ⟨c0, n, rs⟩ := ce
              simp only [hsa] at h
              cases hb : Nat.beq c0 kd with
              | false => simp only [hb] at h
              | true =>
                simp only [hb] at h
                have hb2 := Nat.eq_of_beq_eq_true hb
                subst hb2
                exact ab_ali hC hH hsa hk0 h.1 (hk _ _ _ _ h.2 M p e R s m args below meth c Qw H locs cells slots ls hM hC hH hL hc hs hret)
          | false =>
            simp only [hlt] at h
            cases hlt2 : Nat.blt a 2000000 with
            | false => simp only [hlt2] at h
            | true =>
              simp only [hlt2] at h
              cases hb : Nat.beq kd (ST (a - 1000000)).1 with
              | false => simp only [hb] at h
              | true =>
                simp only [hb] at h
                have hb2 := Nat.eq_of_beq_eq_true hb
                have ha : a = 1000000 + (a - 1000000) := by
                  have : ¬ a < 1000000 := fun q => by
                    have : Nat.blt a 1000000 = true := Nat.ble_eq_true_of_le q
                    rw [this] at hlt
                    cases hlt
                  exact (Nat.add_sub_cancel' (Nat.not_lt.mp this)).symm
                have hres := ab_alst (st := st.map (ab_v G)) hC hH hb2 hk0 h.1 (hk _ _ _ _ h.2 M p e R s m args below meth c Qw H locs cells slots ls hM hC hH hL hc hs hret)
                rw [← ha] at hres
                exact hres
        | _ => exact h.elim
    | _ => exact h.elim
theorem as_als {mm pc : Nat} {M : ac_R} (hM : ac_M mm = some M) {kd nx : Nat} (hk0 : kd = 100 ∧ decode M.2.1 pc = .ok (.iaload, 1) ∨ kd = 101 ∧ decode M.2.1 pc = .ok (.baload, 1)) (hn : pc + 1 = nx) : ab_Snd mm pc (aa_als kd nx) := by
  intro G ST l d lo st sk V skr K ret go hrt h hk M' p e R s m args below meth c Qw H locs cells slots ls hM' hC hH hL hc hs hret
  cases hM.symm.trans hM'
  subst hn
  cases st with
  | nil => exact h.elim
  | cons v st =>
    cases v with
    | int i =>
      cases st with
      | nil => exact h.elim
      | cons v st =>
        cases v with
        | ref a =>
          obtain ⟨n, rs, hsa, hin, h⟩ := h
          exact ab_ali hC hH hsa hk0 hin (hk _ _ _ _ h M p e R s m args below meth c Qw H locs cells slots ls hM hC hH hL hc hs hret)
        | _ => exact h.elim
    | _ => exact h.elim
-- stores
theorem ab_upd_fun {f : Nat → Int32} {k : Nat} {x : Int32} : (fun j => Value.int (upd f k x j)) = updV (fun j => .int (f j)) k (.int x) := by
  funext j
  by_cases hj : j = k
  · subst hj
    simp [updV, upd]
  · simp [updV, upd, hj]
theorem ab_asi {G : ab_G} {ST : aa_St} {d pc kd a n : Nat} {M : ac_R} {p : Program} {l : Launch} {e : Env} {R : Room} {s : State} {m : MethodId} {args : Array Value} {below : List Frame} {meth : Method} {c : Code} {Qw : State → Prop} {H : Heap} {locs : List Loc} {cells slots : Nat} {ls : Array Slot} {sk : aa_Sk} {V : aa_V} {rs : List Nat} {st : List Value} {i x y : Int32}
    (hC : ab_C G ST d M p R s m args meth c) (hH : ab_H G sk V s H locs) (hs : aa_sh sk a = some (kd, n, rs)) (hk : (kd = 100 ∧ y = x ∧ decode M.2.1 pc = .ok (.iastore, 1)) ∨ (kd = 101 ∧ y = x.toInt8.toInt32 ∧ decode M.2.1 pc = .ok (.bastore, 1))) (hin : vp_in i n)
    (kk : ∀ (H1 : Heap) (locs1 : List Loc), ab_H G sk (aa_up V a i.toNatClampNeg y) s H1 locs1 → W p l e R s m args below meth c H1 locs1 cells slots Qw (F0 m (pc + 1) ls st)) : W p l e R s m args below meth c H locs cells slots Qw (F0 m pc ls (.int x :: .int i :: .ref (ab_ad G a) :: st)) := by
  obtain ⟨c1, c2, c3, c4, c5, c6, c7, c8, c9, c10, c11, c12, c13⟩ := hC
  rw [hH.lt hs]
  have hg := ab_ws_get (G := G) (V := V) hs
  rcases hk with ⟨rfl, rfl, hd⟩ | ⟨rfl, rfl, hd⟩
  · rw [ab_en_i (by show ¬ (100 : Nat) < 100; omega) (by show (100 : Nat) < 102; omega)] at hg
    refine W.iast c1 c2 (hH.2.1 a _ hg) ((c9.2 0 _ (ab_tyi G)).1 n (fun j => .int (V a j))) (fun q => by cases q) (by show ¬ (i < 0 ∨ (arrV _ _ _).slots.size ≤ _); rw [arrV_size]; exact hin) rfl rfl hd fun H1 e1 z oq => ?_
    refine kk H1 _ (hH.put hs (fun b hb => aa_up_ne hb) ?_ z oq)
    rw [aa_up_self, ab_en_i (by show ¬ (100 : Nat) < 100; omega) (by show (100 : Nat) < 102; omega)]
    show H1[G.1 + a]? = some (vp_cell _ _)
    rw [e1]
    show some ((arrV (ab_cy G 0) n (fun j => Value.int (V a j))).setSlot _ _) = some (arrV (ab_cy G 0) n (fun j => Value.int (upd (V a) i.toNatClampNeg y j)))
    rw [arrV_store, ab_upd_fun]
  · rw [ab_en_i (by show ¬ (101 : Nat) < 100; omega) (by show (101 : Nat) < 102; omega)] at hg
    refine W.bast c1 c2 (hH.2.1 a _ hg) ((c9.2 1 _ (ab_tyb G)).1 n (fun j => .int (V a j))) (fun q => by cases q) (by show ¬ (i < 0 ∨ (arrV _ _ _).slots.size ≤ _); rw [arrV_size]; exact hin) rfl rfl hd fun H1 e1 z oq => ?_
    refine kk H1 _ (hH.put hs (fun b hb => aa_up_ne hb) ?_ z oq)
    rw [aa_up_self, ab_en_i (by show ¬ (101 : Nat) < 100; omega) (by show (101 : Nat) < 102; omega)]
    show H1[G.1 + a]? = some (vp_cell _ _)
    rw [e1]
    show some ((arrV (ab_cy G 1) n (fun j => Value.int (V a j))).setSlot _ (.int x.toInt8.toInt32)) = some (arrV (ab_cy G 1) n (fun j => Value.int (upd (V a) i.toNatClampNeg x.toInt8.toInt32 j)))
    rw [arrV_store, ab_upd_fun]
theorem as_as {mm pc : Nat} {M : ac_R} (hM : ac_M mm = some M) {kd nx : Nat} {f : Int32 → Int32} (hk0 : (kd = 100 ∧ (∀ x, f x = x) ∧ decode M.2.1 pc = .ok (.iastore, 1)) ∨ (kd = 101 ∧ (∀ x, f x = x.toInt8.toInt32) ∧ decode M.2.1 pc = .ok (.bastore, 1))) (hn : pc + 1 = nx) : ab_Snd mm pc (aa_as kd f nx) := by
  intro G ST l d lo st sk V skr K ret go hrt h hk M' p e R s m args below meth c Qw H locs cells slots ls hM' hC hH hL hc hs hret
  cases hM.symm.trans hM'
  subst hn
  cases st with
  | nil => exact h.elim
  | cons v st =>
    cases v with
    | int x =>
      cases st with
      | nil => exact h.elim
      | cons v st =>
        cases v with
        | int i =>
          cases st with
          | nil => exact h.elim
          | cons v st =>
            cases v with
            | ref a =>
              simp only [aa_as] at h
              cases hsa : aa_sh sk a with
              | none => simp only [hsa] at h
              | some ce =>
                obtain ⟨c0, n, rs⟩ := ce
                simp only [hsa] at h
                cases hb : Nat.beq c0 kd with
                | false => simp only [hb] at h
                | true =>
                  simp only [hb] at h
                  have hb2 := Nat.eq_of_beq_eq_true hb
                  subst hb2
                  exact ab_asi (y := f x) hC hH hsa (hk0.imp (fun q => ⟨q.1, q.2.1 x, q.2.2⟩) (fun q => ⟨q.1, q.2.1 x, q.2.2⟩)) h.1 fun H1 locs1 hH1 => hk _ _ _ _ h.2 M p e R s m args below meth c Qw H1 locs1 cells slots ls hM hC hH1 hL hc hs hret
            | _ => exact h.elim
        | _ => exact h.elim
    | _ => exact h.elim
theorem as_ass {mm pc : Nat} {M : ac_R} (hM : ac_M mm = some M) {kd nx : Nat} {f : Int32 → Int32} (hk0 : (kd = 100 ∧ (∀ x, f x = x) ∧ decode M.2.1 pc = .ok (.iastore, 1)) ∨ (kd = 101 ∧ (∀ x, f x = x.toInt8.toInt32) ∧ decode M.2.1 pc = .ok (.bastore, 1))) (hn : pc + 1 = nx) : ab_Snd mm pc (aa_ass kd f nx) := by
  intro G ST l d lo st sk V skr K ret go hrt h hk M' p e R s m args below meth c Qw H locs cells slots ls hM' hC hH hL hc hs hret
  cases hM.symm.trans hM'
  subst hn
  cases st with
  | nil => exact h.elim
  | cons v st =>
    cases v with
    | int x =>
      cases st with
      | nil => exact h.elim
      | cons v st =>
        cases v with
        | int i =>
          cases st with
          | nil => exact h.elim
          | cons v st =>
            cases v with
            | ref a =>
              obtain ⟨n, rs, hsa, hin, h⟩ := h
              exact ab_asi (y := f x) hC hH hsa (hk0.imp (fun q => ⟨q.1, q.2.1 x, q.2.2⟩) (fun q => ⟨q.1, q.2.1 x, q.2.2⟩)) hin fun H1 locs1 hH1 => hk _ _ _ _ h M p e R s m args below meth c Qw H1 locs1 cells slots ls hM hC hH1 hL hc hs hret
            | _ => exact h.elim
        | _ => exact h.elim
    | _ => exact h.elim
