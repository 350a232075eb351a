/-! the computing machine: many steps, whole methods; it may make cells -/
def bz_gr (M M' : bz_M) : Prop := (ab_u (bz_sk M) ≤ ab_u (bz_sk M') ∧ ab_us (bz_sk M) ≤ ab_us (bz_sk M')) ∧ (aa_wf (bz_sk M) → aa_wf (bz_sk M')) ∧ ((bz_sk M).length ≤ 1000000 → (bz_sk M').length ≤ 1000000)
theorem bz_gr.same {M M' : bz_M} (h : bz_sk M' = bz_sk M) : bz_gr M M' := by
  unfold bz_gr
  rw [h]
  exact ⟨⟨Nat.le_refl _, Nat.le_refl _⟩, id, id⟩
theorem bz_gr.trans {M M1 M2 : bz_M} (h : bz_gr M M1) (h2 : bz_gr M1 M2) : bz_gr M M2 := ⟨⟨Nat.le_trans h.1.1 h2.1.1, Nat.le_trans h.1.2 h2.1.2⟩, fun q => h2.2.1 (h.2.1 q), fun q => h2.2.2 (h.2.2 q)⟩
/-- a method's run, from its start (old: it makes no cell) -/
def by_Ev (old : Bool) (G : ab_G) (ST : aa_St) (l : Launch) (d : Nat) (ev : bz_E) : Prop := ∀ (m : Nat) (as : List bz_v) (M M' : bz_M) (r : Option bz_v), ev m as M = some (r, M') → bz_gr M M' ∧ (old = true → bz_sk M' = bz_sk M) ∧ ∀ K : aa_K, K (r.map bz_tv) (bz_V M') → ab_J G ST l d m 0 (ab_en0 m (bz_st as)) [] (bz_sk M) (bz_V M) (bz_sk M') K
theorem by_Ev.ev {G : ab_G} {ST : aa_St} {l : Launch} {d : Nat} {ev : bz_E} (h : by_Ev true G ST l d ev) : bz_Ev G ST l d ev := by
  intro m as M M' r hr
  obtain ⟨-, h2, h3⟩ := h m as M M' r hr
  refine ⟨h2 rfl, fun K hK => ?_⟩
  have h4 := h3 K hK
  rw [h2 rfl] at h4
  exact h4
/-- what a stretch of a method does -/
def bz_gd (old : Bool) (G : ab_G) (ST : aa_St) (l : Launch) (d mm : Nat) (q : bz_Q) (S : bz_S) : Prop := match S with
  | none => True
  | some (.inl q') => bz_gr q.2.2.2 q'.2.2.2 ∧ (old = true → bz_sk q'.2.2.2 = bz_sk q.2.2.2) ∧ ∀ (skr : aa_Sk) (K : aa_K), ab_u (bz_sk q'.2.2.2) ≤ ab_u skr → ab_us (bz_sk q'.2.2.2) ≤ ab_us skr → ab_J G ST l (d + 1) mm q'.1 (bz_lo q'.2.1) (bz_st q'.2.2.1) (bz_sk q'.2.2.2) (bz_V q'.2.2.2) skr K → ab_J G ST l (d + 1) mm q.1 (bz_lo q.2.1) (bz_st q.2.2.1) (bz_sk q.2.2.2) (bz_V q.2.2.2) skr K
  | some (.inr (r, M')) => bz_gr q.2.2.2 M' ∧ (old = true → bz_sk M' = bz_sk q.2.2.2) ∧ ∀ K : aa_K, K (r.map bz_tv) (bz_V M') → ab_J G ST l (d + 1) mm q.1 (bz_lo q.2.1) (bz_st q.2.2.1) (bz_sk q.2.2.2) (bz_V q.2.2.2) (bz_sk M') K
/-- an entry of a table is right -/
def bz_ok (old : Bool) (mm pc : Nat) (b : bz_Op) : Prop := ∀ (G : ab_G) (L : Nat) (xs : Nat → Int32) (l : Launch) (d : Nat) (ev ey : bz_E), by_Ev true G (ac_ST L xs) l d ev → by_Ev false G (ac_ST L xs) l d ey → ∀ (lo : bz_L) (st : List bz_v) (M : bz_M), bz_gd old G (ac_ST L xs) l d mm (pc, lo, st, M) (b ev ey lo st M)
theorem bz_of {old : Bool} {mm pc : Nat} {b : bz_Op} {A : aa_Op} (hs : ab_Snd mm pc A) (h : bz_Sim b A) : bz_ok old mm pc b := by
  intro G L xs l d ev ey hev hey lo st M
  have h1 := h ev ey lo st M G L xs l d hev.ev
  cases hb : b ev ey lo st M with
  | none => exact True.intro
  | some q =>
    rw [hb] at h1
    cases q with
    | inl q =>
      obtain ⟨pc', lo', st', M'⟩ := q
      obtain ⟨e1, e2⟩ := h1
      have e1' : bz_sk M' = bz_sk M := e1
      refine ⟨bz_gr.same e1', fun _ => e1', fun skr K _ _ hJ => ?_⟩
      refine hs G (ac_ST L xs) l d (bz_lo lo) (bz_st st) (bz_sk M) (bz_V M) skr K (fun _ _ => False) (fun p2 lo2 st2 V2 => p2 = pc' ∧ lo2 = bz_lo lo' ∧ st2 = bz_st st' ∧ V2 = bz_V M') (fun _ _ q => q.elim) (e2 _ _ ⟨rfl, rfl, rfl, rfl⟩) ?_
      intro p2 lo2 st2 V2 hq
      obtain ⟨rfl, rfl, rfl, rfl⟩ := hq
      rw [← e1']
      exact hJ
    | inr q =>
      obtain ⟨r, M'⟩ := q
      obtain ⟨e1, e2⟩ := h1
      have e1' : M' = M := e1
      subst e1'
      refine ⟨bz_gr.same rfl, fun _ => rfl, fun K hK => ?_⟩
      exact hs G (ac_ST L xs) l d (bz_lo lo) (bz_st st) (bz_sk M') (bz_V M') (bz_sk M') K (fun r2 V2 => r2 = r.map bz_tv ∧ V2 = bz_V M') (fun _ _ _ _ => False) (fun r2 V2 q => ⟨rfl, by rw [q.1, q.2]; exact hK⟩) (e2 _ _ ⟨rfl, rfl⟩) (fun _ _ _ _ q => q.elim)
theorem bz_gd.step {old : Bool} {G : ab_G} {ST : aa_St} {l : Launch} {d mm : Nat} {q q1 : bz_Q} {S : bz_S} (h : bz_gd old G ST l d mm q (some (.inl q1))) (h2 : bz_gd old G ST l d mm q1 S) : bz_gd old G ST l d mm q S := by
  obtain ⟨a1, a2, a3⟩ := h
  cases S with
  | none => exact True.intro
  | some S =>
    cases S with
    | inl q2 =>
      obtain ⟨b1, b2, b3⟩ := h2
      exact ⟨a1.trans b1, fun z => (b2 z).trans (a2 z), fun skr K u1 u2 hJ => a3 skr K (Nat.le_trans b1.1.1 u1) (Nat.le_trans b1.1.2 u2) (b3 skr K u1 u2 hJ)⟩
    | inr q2 =>
      obtain ⟨r, M'⟩ := q2
      obtain ⟨b1, b2, b3⟩ := h2
      exact ⟨a1.trans b1, fun z => (b2 z).trans (a2 z), fun K hK => a3 _ K b1.1.1 b1.1.2 (b3 K hK)⟩
-- tables: in stretches, with the last place of each
abbrev bz_T : Type := List (Nat × List (Nat × bz_Op))
def bz_fi : List (Nat × bz_Op) → Nat → Option bz_Op
  | [], _ => none
  | q :: t, pc => (match Nat.beq q.1 pc with
    | true => some q.2
    | false => bz_fi t pc)
def bz_fd : bz_T → Nat → Option bz_Op
  | [], _ => none
  | q :: t, pc => (match Nat.ble pc q.1 with
    | true => bz_fi q.2 pc
    | false => bz_fd t pc)
theorem bz_fi_in : ∀ (c : List (Nat × bz_Op)) (pc : Nat) (b : bz_Op), bz_fi c pc = some b → (pc, b) ∈ c
  | [], pc, b, h => by simp [bz_fi] at h
  | q :: t, pc, b, h => by
    simp only [bz_fi] at h
    cases hb : Nat.beq q.1 pc with
    | true =>
      rw [hb] at h
      have e := Nat.eq_of_beq_eq_true hb
      cases h
      rw [← e]
      exact List.mem_cons_self
    | false =>
      rw [hb] at h
      exact List.mem_cons_of_mem _ (bz_fi_in t pc b h)
theorem bz_fd_in : ∀ (T : bz_T) (pc : Nat) (b : bz_Op), bz_fd T pc = some b → ∃ c ∈ T, (pc, b) ∈ c.2
  | [], pc, b, h => by simp [bz_fd] at h
  | q :: t, pc, b, h => by
    simp only [bz_fd] at h
    cases hb : Nat.ble pc q.1 with
    | true =>
      rw [hb] at h
      exact ⟨q, List.mem_cons_self, bz_fi_in q.2 pc b h⟩
    | false =>
      rw [hb] at h
      obtain ⟨c, h1, h2⟩ := bz_fd_in t pc b h
      exact ⟨c, List.mem_cons_of_mem _ h1, h2⟩
def bz_1 (T : bz_T) (ev ey : bz_E) (q : bz_Q) : bz_S := match q with
  | (pc, lo, st, M) => (match bz_fd T pc with
    | some b => b ev ey lo st M
    | none => none)
def bz_pow (T : bz_T) (ev ey : bz_E) : Nat → bz_Q → bz_S
  | 0, q => bz_1 T ev ey q
  | k + 1, q => (match bz_pow T ev ey k q with
    | some (.inl q') => bz_pow T ev ey k q'
    | some (.inr r) => some (.inr r)
    | none => none)
def bz_tk (old : Bool) (mm : Nat) (T : bz_T) : Prop := ∀ c ∈ T, ∀ q ∈ c.2, bz_ok old mm q.1 q.2
theorem bz_pow_ok {old : Bool} {mm : Nat} {T : bz_T} (hT : bz_tk old mm T) {G : ab_G} {L : Nat} {xs : Nat → Int32} {l : Launch} {d : Nat} {ev ey : bz_E} (hev : by_Ev true G (ac_ST L xs) l d ev) (hey : by_Ev false G (ac_ST L xs) l d ey) : ∀ (k : Nat) (q : bz_Q), bz_gd old G (ac_ST L xs) l d mm q (bz_pow T ev ey k q)
  | 0, (pc, lo, st, M) => by
    show bz_gd old G (ac_ST L xs) l d mm (pc, lo, st, M) (match bz_fd T pc with
      | some b => b ev ey lo st M
      | none => none)
    cases hf : bz_fd T pc with
    | none => exact True.intro
    | some b =>
      obtain ⟨c, h1, h2⟩ := bz_fd_in T pc b hf
      exact hT c h1 _ h2 G L xs l d ev ey hev hey lo st M
  | k + 1, q => by
    have ih := bz_pow_ok hT hev hey k
    show bz_gd old G (ac_ST L xs) l d mm q (match bz_pow T ev ey k q with
      | some (.inl q') => bz_pow T ev ey k q'
      | some (.inr r) => some (.inr r)
      | none => none)
    have h1 := ih q
    cases hp : bz_pow T ev ey k q with
    | none => exact True.intro
    | some S =>
      rw [hp] at h1
      cases S with
      | inl q1 => exact bz_gd.step h1 (ih q1)
      | inr r => exact h1
-- methods
abbrev bz_D : Type := List (Nat × Nat × bz_T)
def bz_ft : bz_D → Nat → Option (Nat × bz_T)
  | [], _ => none
  | q :: t, m => (match Nat.beq q.1 m with
    | true => some q.2
    | false => bz_ft t m)
theorem bz_ft_in : ∀ (D : bz_D) (m : Nat) (x : Nat × bz_T), bz_ft D m = some x → (m, x) ∈ D
  | [], m, x, h => by simp [bz_ft] at h
  | q :: t, m, x, h => by
    simp only [bz_ft] at h
    cases hb : Nat.beq q.1 m with
    | true =>
      rw [hb] at h
      have e := Nat.eq_of_beq_eq_true hb
      cases h
      rw [← e]
      exact List.mem_cons_self
    | false =>
      rw [hb] at h
      exact List.mem_cons_of_mem _ (bz_ft_in t m x h)
def bz_pad : Nat → List bz_v → bz_L
  | 0, l => l.map some
  | n + 1, [] => none :: bz_pad n []
  | n + 1, x :: t => some x :: bz_pad n t
theorem bz_ar_eq : ∀ (l : List bz_v), aa_ar (bz_st l) = bz_lo (l.map some)
  | [] => rfl
  | x :: t => by
    have ih := bz_ar_eq t
    rcases x with n | a | u <;> (show some _ :: aa_ar (bz_st t) = some _ :: bz_lo (t.map some); rw [ih])
theorem bz_pad_eq : ∀ (n : Nat) (l : List bz_v), bz_lo (bz_pad n l) = aa_pad n (aa_ar (bz_st l))
  | 0, l => by rw [bz_ar_eq]; rfl
  | n + 1, [] => by
    have ih := bz_pad_eq n []
    show none :: bz_lo (bz_pad n []) = none :: aa_pad n []
    rw [ih]
    rfl
  | n + 1, x :: t => by
    have ih := bz_pad_eq n t
    rcases x with m | a | u <;> (show some _ :: bz_lo (bz_pad n t) = some _ :: aa_pad n (aa_ar (bz_st t)); rw [ih])
def bz_dk (old : Bool) (D : bz_D) : Prop := ∀ e ∈ D, (∃ M : ac_R, ac_M e.1 = some M ∧ M.2.2.1 = e.2.1) ∧ bz_tk old e.1 e.2.2
/-- a method's whole run -/
def bz_do (D : bz_D) (ev ey : bz_E) (m : Nat) (as : List bz_v) (M : bz_M) : Option bz_R := match bz_ft D m with
  | some (nl, T) => (match bz_pow T ev ey 15 (0, bz_pad nl as, [], M) with
    | some (.inr r) => some r
    | some (.inl _) => none
    | none => none)
  | none => none
def bz_ev (D : bz_D) : Nat → bz_E
  | 0 => fun _ _ _ => none
  | d + 1 => fun m as M => bz_do D (bz_ev D d) (fun _ _ _ => none) m as M
def by_ev (D D2 : bz_D) : Nat → bz_E
  | 0 => fun _ _ _ => none
  | d + 1 => fun m as M => bz_do D2 (bz_ev D d) (by_ev D D2 d) m as M
theorem bz_do_ok {old : Bool} {D : bz_D} (hD : bz_dk old D) {G : ab_G} {L : Nat} {xs : Nat → Int32} {l : Launch} {d : Nat} {ev ey : bz_E} (hev : by_Ev true G (ac_ST L xs) l d ev) (hey : by_Ev false G (ac_ST L xs) l d ey) : by_Ev old G (ac_ST L xs) l (d + 1) (bz_do D ev ey) := by
  intro m as M M' r hr
  unfold bz_do at hr
  cases hf : bz_ft D m with
  | none =>
    rw [hf] at hr
    have h0 : (none : Option bz_R) = some (r, M') := hr
    cases h0
  | some x =>
    obtain ⟨nl, T⟩ := x
    rw [hf] at hr
    obtain ⟨⟨Mr, hM, hnl⟩, hT⟩ := hD _ (bz_ft_in D m _ hf)
    have hnl' : Mr.2.2.1 = nl := hnl
    have h1 := bz_pow_ok hT hev hey 15 (0, bz_pad nl as, [], M)
    have hr' : (match bz_pow T ev ey 15 (0, bz_pad nl as, [], M) with
      | some (.inr r) => some r
      | some (.inl _) => none
      | none => none) = some (r, M') := hr
    cases hp : bz_pow T ev ey 15 (0, bz_pad nl as, [], M) with
    | none =>
      rw [hp] at hr'
      have h0 : (none : Option bz_R) = some (r, M') := hr'
      cases h0
    | some S =>
      rw [hp] at hr' h1
      cases S with
      | inl q =>
        have h0 : (none : Option bz_R) = some (r, M') := hr'
        cases h0
      | inr q =>
        have h0 : some q = some (r, M') := hr'
        cases h0
        obtain ⟨b1, b2, b3⟩ := h1
        refine ⟨b1, b2, fun K hK => ?_⟩
        have h3 := b3 K hK
        have hen : ab_en0 m (bz_st as) = bz_lo (bz_pad nl as) := by
          unfold ab_en0
          rw [hM]
          show aa_pad Mr.2.2.1 (aa_ar (bz_st as)) = _
          rw [bz_pad_eq, hnl']
        rw [hen]
        exact h3
theorem by_no {old : Bool} {G : ab_G} {ST : aa_St} {l : Launch} {d : Nat} : by_Ev old G ST l d (fun _ _ _ => none) := fun _ _ _ M' r h => by
  have h0 : (none : Option bz_R) = some (r, M') := h
  cases h0
theorem bz_ev_ok {D : bz_D} (hD : bz_dk true D) {G : ab_G} {L : Nat} {xs : Nat → Int32} {l : Launch} : ∀ d : Nat, by_Ev true G (ac_ST L xs) l d (bz_ev D d)
  | 0 => by_no
  | d + 1 => bz_do_ok hD (bz_ev_ok hD d) by_no
theorem by_ev_ok {D D2 : bz_D} (hD : bz_dk true D) (hD2 : bz_dk false D2) {G : ab_G} {L : Nat} {xs : Nat → Int32} {l : Launch} : ∀ d : Nat, by_Ev false G (ac_ST L xs) l d (by_ev D D2 d)
  | 0 => by_no
  | d + 1 => bz_do_ok hD2 (bz_ev_ok hD d) (by_ev_ok hD hD2 d)
