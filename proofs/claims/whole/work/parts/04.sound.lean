/-! WHAT THE MACHINE SAYS OF THE BYTECODE -/
abbrev ab_G : Type := Nat × (Nat → Nat) × (Nat → ClassId) × (Nat → Nat → Nat) × (Nat → ClassId) × Value
def ab_ad (G : ab_G) (a : Nat) : Nat := if a < 1000000 then G.1 + a else G.2.1 (a - 1000000)
def ab_v (G : ab_G) : Value → Value
  | .ref a => .ref (ab_ad G a)
  | .float _ => G.2.2.2.2.2
  | v => v
def ab_rf (G : ab_G) : Nat → Option Nat
  | 0 => none
  | q + 1 => some (ab_ad G q)
def ab_D (G : ab_G) : va_G := (G.2.2.1, G.2.2.2.1)
def ab_cy (G : ab_G) : Nat → ClassId := G.2.2.2.2.1
def ab_ty (G : ab_G) : List (ClassId × FieldType) := [(ab_cy G 0, .int), (ab_cy G 1, .byte), (ab_cy G 2, .object "FrameCounty$Text"), (ab_cy G 3, .array .int)]
def ab_fv (G : ab_G) (W : Nat → Int32) (c : aa_Ce) (i : Nat) : Value := match aa_fk c.1 i with
  | 0 => .int (W i)
  | 1 => va_rf (ab_rf G (aa_nth c.2.2 i))
  | _ => va_rf (ab_rf G (W i).toNatClampNeg)
def ab_en (G : ab_G) (W : Nat → Int32) (c : aa_Ce) : va_E :=
  if c.1 < 100 then .inr (c.1, (List.range c.2.1).map (ab_fv G W c))
  else if c.1 < 102 then .inl (ab_cy G (c.1 - 100), c.2.1, .inl W)
  else .inl (ab_cy G (c.1 - 100), c.2.1, .inr (.inr (.inr (.inr (fun i => ab_rf G (aa_nth c.2.2 i))))))
def ab_ws (G : ab_G) (sk : aa_Sk) (V : aa_V) : va_W := sk.mapIdx (fun k c => (G.1 + k, ab_en G (V k) c))
def ab_A (G : ab_G) : Nat → Prop := fun q => G.1 ≤ q
def ab_u (sk : aa_Sk) : Nat := sk.length
def ab_us : aa_Sk → Nat
  | [] => 0
  | c :: t => c.2.1 + ab_us t
/-- what stands beside the memory and never changes -/
def ab_SW (G : ab_G) (ST : aa_St) (s : State) (H : Heap) : Prop :=
  (∀ q ∈ ac_nest, va_Nw (.methodLinkNest q.1 q.2.1 q.2.2.1 q.2.2.2) s) ∧
  va_Z "FrameCounty$Works" "UNDER" "[I" (.ref (ab_ad G 1000000)) (ab_A G) s H ∧
  va_Z "FrameCounty$Weeks" "POWERS" "[I" (.ref (ab_ad G 1000001)) (ab_A G) s H ∧
  va_Z "java/lang/String" "COMPACT_STRINGS" "Z" (.int 1) (ab_A G) s H ∧
  va_Z "jdk/internal/util/Preconditions" "SIOOBE_FORMATTER" "Ljava/util/function/BiFunction;" G.2.2.2.2.2 (ab_A G) s H ∧
  G.2.2.2.2.2.category = 1 ∧
  (∀ j : Nat, (j < 3 ∨ 100 ≤ j ∧ j < 112) → (ST j).1 = (if j < 3 then 100 else 101) ∧ (ST j).2.1 < 2 ^ 31 ∧ va_T (if j < 3 then .int else .byte) (ab_ad G (1000000 + j)) (ST j).2.1 (fun i => .int ((ST j).2.2 i)) (ab_A G) s H) ∧
  (∀ j : Nat, ¬ (j < 3 ∨ 100 ≤ j ∧ j < 112) → (ST j).1 = 0) ∧
  (∀ j : Nat, j < 12 → va_O "java/lang/String" (ab_ad G (2000000 + j)) (ab_A G) s H ∧ va_OF "java/lang/String" "coder" "B" (.int 0) (ab_ad G (2000000 + j)) (ab_A G) s H ∧ va_OF "java/lang/String" "value" "[B" (.ref (ab_ad G (1000100 + j))) (ab_ad G (2000000 + j)) (ab_A G) s H) ∧
  (∀ (j : Nat) (q : String × Nat × String), ac_str[j]? = some q → vk_R q.1 q.2.1 q.2.2 (ab_ad G (2000000 + j)) s)
theorem ab_SW.kept {G : ab_G} {ST : aa_St} {s : State} {H H1 : Heap} (h : ab_SW G ST s H) (hq : ∀ a : Nat, a < H.size → ¬ ab_A G a → H1[a]? = H[a]?) : ab_SW G ST s H1 := by
  obtain ⟨h1, h2, h3, h4, h5, h6, h7, h8, h9, h10⟩ := h
  exact ⟨h1, h2.kept hq, h3.kept hq, h4.kept hq, h5.kept hq, h6, fun j hj => ⟨(h7 j hj).1, (h7 j hj).2.1, (h7 j hj).2.2.kept hq⟩, h8, fun j hj => ⟨(h9 j hj).1.kept hq, (h9 j hj).2.1.kept hq, (h9 j hj).2.2.kept hq⟩, h10⟩
theorem ab_SW.warm {G : ab_G} {ST : aa_St} {s U : State} {H : Heap} (hW : s.WarmedH U.vm) (h : ab_SW G ST s H) : ab_SW G ST U H := by
  obtain ⟨h1, h2, h3, h4, h5, h6, h7, h8, h9, h10⟩ := h
  exact ⟨fun q hq => va_Nw.warmM hW (h1 q hq), h2.moved hW.alike, h3.moved hW.alike, h4.moved hW.alike, h5.moved hW.alike, h6, fun j hj => ⟨(h7 j hj).1, (h7 j hj).2.1, (h7 j hj).2.2.moved hW.alike⟩, h8, fun j hj => ⟨(h9 j hj).1.moved hW.alike, (h9 j hj).2.1.moved hW.alike, (h9 j hj).2.2.moved hW.alike⟩, fun j q hq => (h10 j q hq).warm hW⟩
theorem ab_SW.same {G : ab_G} {ST : aa_St} {s U : State} {H : Heap} (hW : s.vm = U.vm) (h : ab_SW G ST s H) : ab_SW G ST U H := by
  obtain ⟨h1, h2, h3, h4, h5, h6, h7, h8, h9, h10⟩ := h
  have ha : s.vm.Alike U.vm := by rw [hW]; exact Vm.Alike.refl U.vm
  exact ⟨fun q hq => va_Nw.same rfl hW (h1 q hq), h2.moved ha, h3.moved ha, h4.moved ha, h5.moved ha, h6, fun j hj => ⟨(h7 j hj).1, (h7 j hj).2.1, (h7 j hj).2.2.moved ha⟩, h8, fun j hj => ⟨(h9 j hj).1.moved ha, (h9 j hj).2.1.moved ha, (h9 j hj).2.2.moved ha⟩, fun j q hq => (h10 j q hq).same hW.symm⟩
-- the memory's list
theorem aa_sh_eq : ∀ (sk : aa_Sk) (a : Nat), aa_sh sk a = sk[a]?
  | [], a => by simp [aa_sh]
  | x :: t, 0 => by simp [aa_sh]
  | x :: t, n + 1 => by simp [aa_sh, aa_sh_eq t n]
theorem aa_sh_lt {sk : aa_Sk} {a : Nat} {c : aa_Ce} (h : aa_sh sk a = some c) : a < sk.length := by
  rw [aa_sh_eq] at h
  exact (List.getElem?_eq_some_iff.mp h).1
theorem ab_ws_at {G : ab_G} {sk : aa_Sk} {V : aa_V} (k : Nat) : (ab_ws G sk V)[k]? = (sk[k]?).map (fun c => (G.1 + k, ab_en G (V k) c)) := by
  unfold ab_ws
  rw [List.getElem?_mapIdx]
theorem ab_ws_get {G : ab_G} {sk : aa_Sk} {V : aa_V} {a : Nat} {c : aa_Ce} (h : aa_sh sk a = some c) : (ab_ws G sk V)[a]? = some (G.1 + a, ab_en G (V a) c) := by
  rw [ab_ws_at, ← aa_sh_eq, h]; rfl
theorem ab_ws_set {G : ab_G} {sk : aa_Sk} {V V' : aa_V} {a : Nat} {c : aa_Ce} {e : va_E} (h : aa_sh sk a = some c) (ho : ∀ b, b ≠ a → V' b = V b) (he : e = ab_en G (V' a) c) : (ab_ws G sk V).set a (G.1 + a, e) = ab_ws G sk V' := by
  apply List.ext_getElem?
  intro k
  rw [List.getElem?_set]
  by_cases hk : a = k
  · subst hk
    have hl : a < (ab_ws G sk V).length := (List.getElem?_eq_some_iff.mp (ab_ws_get h)).1
    rw [if_pos rfl, if_pos hl, ab_ws_get h, he]
  · rw [if_neg hk, ab_ws_at, ab_ws_at, ho k (fun q => hk q.symm)]
theorem ab_wsD {G : ab_G} {sk : aa_Sk} {V : aa_V} : va_D (ab_A G) (ab_ws G sk V) := by
  constructor
  · intro i j p q hi hj he
    rw [ab_ws_at] at hi hj
    cases h1 : sk[i]? with
    | none => rw [h1] at hi; cases hi
    | some c1 =>
      cases h2 : sk[j]? with
      | none => rw [h2] at hj; cases hj
      | some c2 =>
        rw [h1] at hi; rw [h2] at hj
        cases hi; cases hj
        exact Nat.add_left_cancel he
  · intro k q hk
    rw [ab_ws_at] at hk
    cases h1 : sk[k]? with
    | none => rw [h1] at hk; cases hk
    | some c1 =>
      rw [h1] at hk
      cases hk
      exact Nat.le_add_right _ _
theorem ab_adl {G : ab_G} {a : Nat} (h : a < 1000000) : ab_ad G a = G.1 + a := if_pos h
theorem ab_vc {G : ab_G} (hG : G.2.2.2.2.2.category = 1) (v : Value) : (ab_v G v).category = v.category := by
  cases v <;> first | rfl | exact hG
-- locals
def ab_L (G : ab_G) (ls : Array Slot) (nL : Nat) (lo : aa_Lo) : Prop := ls.size = nL ∧ lv_wf ls ∧ lo.length = nL ∧ ∀ (i : Nat) (v : Value), aa_lg lo i = some v → ls[i]? = some (.val (ab_v G v))
def ab_as (G : ab_G) : Nat → aa_Lo → List (Nat × Value)
  | _, [] => []
  | k, some v :: t => (k, ab_v G v) :: ab_as G (k + 1) t
  | k, none :: t => ab_as G (k + 1) t
theorem ab_as_in {G : ab_G} {v : Value} : ∀ (lo : aa_Lo) (k i : Nat), aa_lg lo i = some v → (k + i, ab_v G v) ∈ ab_as G k lo
  | [], k, i, h => by simp [aa_lg] at h
  | some w :: t, k, 0, h => by
    simp only [aa_lg] at h
    cases h
    simp [ab_as]
  | none :: t, k, 0, h => by simp [aa_lg] at h
  | some w :: t, k, i + 1, h => by
    have h2 := ab_as_in (G := G) t (k + 1) i h
    simp only [ab_as]
    rw [show k + (i + 1) = k + 1 + i by omega]
    exact List.mem_cons_of_mem _ h2
  | none :: t, k, i + 1, h => by
    have h2 := ab_as_in (G := G) t (k + 1) i h
    simp only [ab_as]
    rw [show k + (i + 1) = k + 1 + i by omega]
    exact h2
theorem ab_as_out {G : ab_G} : ∀ (lo : aa_Lo) (k : Nat) (q : Nat × Value), q ∈ ab_as G k lo → ∃ (i : Nat) (v : Value), q = (k + i, ab_v G v) ∧ aa_lg lo i = some v
  | [], k, q, h => by simp [ab_as] at h
  | some w :: t, k, q, h => by
    simp only [ab_as] at h
    rcases List.mem_cons.mp h with rfl | h
    · exact ⟨0, w, rfl, rfl⟩
    · obtain ⟨i, v, e, h2⟩ := ab_as_out t (k + 1) q h
      exact ⟨i + 1, v, by rw [e, show k + (i + 1) = k + 1 + i by omega], h2⟩
  | none :: t, k, q, h => by
    simp only [ab_as] at h
    obtain ⟨i, v, e, h2⟩ := ab_as_out t (k + 1) q h
    exact ⟨i + 1, v, by rw [e, show k + (i + 1) = k + 1 + i by omega], h2⟩
theorem ab_L.has {G : ab_G} {ls : Array Slot} {nL : Nat} {lo : aa_Lo} (h : ab_L G ls nL lo) : lv_has ls nL (ab_as G 0 lo) := by
  refine ⟨h.1, h.2.1, fun q hq => ?_⟩
  obtain ⟨i, v, e, h2⟩ := ab_as_out lo 0 q hq
  subst e
  have h3 := h.2.2.2 i v h2
  rw [Nat.zero_add]
  exact h3
theorem aa_ls_len : ∀ (lo : aa_Lo) (i : Nat) (v : Value), (aa_ls lo i v).length = lo.length
  | [], i, v => by simp [aa_ls]
  | x :: t, 0, v => by simp [aa_ls]
  | x :: t, 1, v => by simp [aa_ls, aa_ls_len t 0 v]
  | x :: t, n + 2, v => by simp [aa_ls, aa_ls_len t (n + 1) v]
theorem aa_kill_out {x : Option Value} {w : Value} (h : aa_kill x = some w) : x = some w ∧ w.category = 1 := by
  cases x with
  | none => simp [aa_kill] at h
  | some y => cases y <;> simp [aa_kill] at h <;> subst h <;> exact ⟨rfl, rfl⟩
theorem aa_ls_out {v : Value} : ∀ (lo : aa_Lo) (i j : Nat) (w : Value), aa_lg (aa_ls lo i v) j = some w → (j = i ∧ w = v) ∨ (j ≠ i ∧ aa_lg lo j = some w ∧ ¬ (j + 1 = i ∧ w.category = 2))
  | [], i, j, w, h => by simp [aa_ls, aa_lg] at h
  | x :: t, 0, 0, w, h => by
    simp only [aa_ls, aa_lg] at h
    cases h
    exact Or.inl ⟨rfl, rfl⟩
  | x :: t, 0, j + 1, w, h => by
    simp only [aa_ls, aa_lg] at h
    exact Or.inr ⟨by omega, h, by omega⟩
  | x :: t, 1, 0, w, h => by
    simp only [aa_ls, aa_lg] at h
    obtain ⟨e, hc⟩ := aa_kill_out h
    exact Or.inr ⟨by omega, e, by omega⟩
  | x :: t, 1, j + 1, w, h => by
    simp only [aa_ls, aa_lg] at h
    rcases aa_ls_out t 0 j w h with ⟨e, f⟩ | ⟨e, f, g⟩
    · exact Or.inl ⟨by omega, f⟩
    · exact Or.inr ⟨by omega, f, by omega⟩
  | x :: t, n + 2, 0, w, h => by
    simp only [aa_ls, aa_lg] at h
    exact Or.inr ⟨by omega, h, by omega⟩
  | x :: t, n + 2, j + 1, w, h => by
    simp only [aa_ls, aa_lg] at h
    rcases aa_ls_out t (n + 1) j w h with ⟨e, f⟩ | ⟨e, f, g⟩
    · exact Or.inl ⟨by omega, f⟩
    · exact Or.inr ⟨by omega, f, fun q => g ⟨by omega, q.2⟩⟩
theorem aa_ls2_len : ∀ (lo : aa_Lo) (i : Nat) (v : Value), (aa_ls2 lo i v).length = lo.length
  | [], i, v => by simp [aa_ls2]
  | x :: [], 0, v => by simp [aa_ls2]
  | x :: y :: t, 0, v => by simp [aa_ls2]
  | x :: t, 1, v => by cases t <;> simp [aa_ls2, aa_ls2_len]
  | x :: t, n + 2, v => by cases t <;> simp [aa_ls2, aa_ls2_len]
theorem aa_ls2_out {v : Value} : ∀ (lo : aa_Lo) (i j : Nat) (w : Value), aa_lg (aa_ls2 lo i v) j = some w → (j = i ∧ w = v) ∨ (j ≠ i ∧ j ≠ i + 1 ∧ aa_lg lo j = some w ∧ ¬ (j + 1 = i ∧ w.category = 2))
  | [], i, j, w, h => by simp [aa_ls2, aa_lg] at h
  | x :: [], 0, 0, w, h => by
    simp only [aa_ls2, aa_lg] at h
    cases h
    exact Or.inl ⟨rfl, rfl⟩
  | x :: [], 0, j + 1, w, h => by simp [aa_ls2, aa_lg] at h
  | x :: y :: t, 0, 0, w, h => by
    simp only [aa_ls2, aa_lg] at h
    cases h
    exact Or.inl ⟨rfl, rfl⟩
  | x :: y :: t, 0, 1, w, h => by simp [aa_ls2, aa_lg] at h
  | x :: y :: t, 0, j + 2, w, h => by
    simp only [aa_ls2, aa_lg] at h
    exact Or.inr ⟨by omega, by omega, h, by omega⟩
  | x :: t, 1, 0, w, h => by
    have h' : aa_kill x = some w := by cases t <;> simpa [aa_ls2, aa_lg] using h
    obtain ⟨e, hc⟩ := aa_kill_out h'
    exact Or.inr ⟨by omega, by omega, e, by omega⟩
  | x :: t, 1, j + 1, w, h => by
    have h' : aa_lg (aa_ls2 t 0 v) j = some w := by cases t <;> simpa [aa_ls2, aa_lg] using h
    rcases aa_ls2_out t 0 j w h' with ⟨e, f⟩ | ⟨e, e2, f, g⟩
    · exact Or.inl ⟨by omega, f⟩
    · exact Or.inr ⟨by omega, by omega, f, by omega⟩
  | x :: t, n + 2, 0, w, h => by
    have h' : x = some w := by cases t <;> simpa [aa_ls2, aa_lg] using h
    exact Or.inr ⟨by omega, by omega, h', by omega⟩
  | x :: t, n + 2, j + 1, w, h => by
    have h' : aa_lg (aa_ls2 t (n + 1) v) j = some w := by cases t <;> simpa [aa_ls2, aa_lg] using h
    rcases aa_ls2_out t (n + 1) j w h' with ⟨e, f⟩ | ⟨e, e2, f, g⟩
    · exact Or.inl ⟨by omega, f⟩
    · exact Or.inr ⟨by omega, by omega, f, fun q => g ⟨by omega, q.2⟩⟩
theorem ab_L.st {G : ab_G} {ls ls' : Array Slot} {nL i : Nat} {lo : aa_Lo} {v : Value} (hG : G.2.2.2.2.2.category = 1) (h : ab_L G ls nL lo) (h' : lv_has ls' nL ((i, ab_v G v) :: (ab_as G 0 lo).filter (fun q => !(q.1 == i) && !(q.1 + 1 == i && q.2.category == 2)))) : ab_L G ls' nL (aa_ls lo i v) := by
  refine ⟨h'.1, h'.2.1, (aa_ls_len lo i v).trans h.2.2.1, fun j w hj => ?_⟩
  rcases aa_ls_out lo i j w hj with ⟨rfl, rfl⟩ | ⟨h1, h2, h3⟩
  · exact h'.2.2 _ List.mem_cons_self
  · have h4 := ab_as_in (G := G) lo 0 j h2
    rw [Nat.zero_add] at h4
    refine h'.2.2 (j, ab_v G w) (List.mem_cons_of_mem _ (List.mem_filter.mpr ⟨h4, ?_⟩))
    simp only [Bool.and_eq_true, Bool.not_eq_true', beq_eq_false_iff_ne, ne_eq, Bool.and_eq_false_iff, ab_vc hG]
    refine ⟨h1, ?_⟩
    by_cases hq : j + 1 = i
    · exact Or.inr (fun z => h3 ⟨hq, z⟩)
    · exact Or.inl hq
theorem ab_L.st2 {G : ab_G} {ls ls' : Array Slot} {nL i : Nat} {lo : aa_Lo} {v : Value} (hG : G.2.2.2.2.2.category = 1) (h : ab_L G ls nL lo) (h' : lv_has ls' nL ((i, ab_v G v) :: (ab_as G 0 lo).filter (fun q => !(q.1 == i) && (!(q.1 == i + 1) && !(q.1 + 1 == i && q.2.category == 2))))) : ab_L G ls' nL (aa_ls2 lo i v) := by
  refine ⟨h'.1, h'.2.1, (aa_ls2_len lo i v).trans h.2.2.1, fun j w hj => ?_⟩
  rcases aa_ls2_out lo i j w hj with ⟨rfl, rfl⟩ | ⟨h1, h1', h2, h3⟩
  · exact h'.2.2 _ List.mem_cons_self
  · have h4 := ab_as_in (G := G) lo 0 j h2
    rw [Nat.zero_add] at h4
    refine h'.2.2 (j, ab_v G w) (List.mem_cons_of_mem _ (List.mem_filter.mpr ⟨h4, ?_⟩))
    simp only [Bool.and_eq_true, Bool.not_eq_true', beq_eq_false_iff_ne, ne_eq, Bool.and_eq_false_iff, ab_vc hG]
    refine ⟨h1, h1', ?_⟩
    by_cases hq : j + 1 = i
    · exact Or.inr (fun z => h3 ⟨hq, z⟩)
    · exact Or.inl hq
theorem ab_ar_in {G : ab_G} (hG : G.2.2.2.2.2.category = 1) {v : Value} : ∀ (as : List Value) (k i : Nat), aa_lg (aa_ar as) i = some v → (k + i, ab_v G v) ∈ lv_args k (as.map (ab_v G)) := by
  intro as
  induction as with
  | nil => intro k i h; simp [aa_ar, aa_lg] at h
  | cons a t ih =>
    intro k i h
    have two : ∀ a', ab_v G a' = a' → a'.category = 2 → aa_ar (a' :: t) = some a' :: none :: aa_ar t → aa_lg (aa_ar (a' :: t)) i = some v → (k + i, ab_v G v) ∈ lv_args k ((a' :: t).map (ab_v G)) := by
      intro a' e1 e2 e3 h
      rw [e3] at h
      simp only [List.map_cons, lv_args, e1, e2, if_true]
      match i, h with
      | 0, h => simp only [aa_lg] at h; cases h; rw [e1]; exact List.mem_cons_self
      | 1, h => simp [aa_lg] at h
      | i + 2, h =>
        simp only [aa_lg] at h
        have := ih (k + 2) i h
        rw [show k + (i + 2) = k + 2 + i by omega]
        exact List.mem_cons_of_mem _ this
    have one : ∀ a', ¬ (ab_v G a').category = 2 → aa_ar (a' :: t) = some a' :: aa_ar t → aa_lg (aa_ar (a' :: t)) i = some v → (k + i, ab_v G v) ∈ lv_args k ((a' :: t).map (ab_v G)) := by
      intro a' e2 e3 h
      rw [e3] at h
      simp only [List.map_cons, lv_args, if_neg e2]
      match i, h with
      | 0, h => simp only [aa_lg] at h; cases h; exact List.mem_cons_self
      | i + 1, h =>
        simp only [aa_lg] at h
        have := ih (k + 1) i h
        rw [show k + (i + 1) = k + 1 + i by omega]
        exact List.mem_cons_of_mem _ this
    cases a with
    | long x => exact two _ rfl rfl rfl h
    | double x => exact two _ rfl rfl rfl h
    | float x => exact one _ (by show ¬ G.2.2.2.2.2.category = 2; omega) rfl h
    | _ => exact one _ (by simp [ab_v, Value.category]) rfl h
theorem aa_pad_len : ∀ (n : Nat) (l : aa_Lo), l.length ≤ n → (aa_pad n l).length = n
  | 0, l, h => by simp only [aa_pad]; omega
  | n + 1, [], h => by simp [aa_pad, aa_pad_len n [] (Nat.zero_le _)]
  | n + 1, x :: t, h => by
    simp only [List.length_cons] at h
    simp [aa_pad, aa_pad_len n t (by omega)]
theorem aa_pad_out : ∀ (n : Nat) (l : aa_Lo) (i : Nat) (v : Value), aa_lg (aa_pad n l) i = some v → aa_lg l i = some v
  | 0, l, i, v, h => h
  | n + 1, [], 0, v, h => by simp [aa_pad, aa_lg] at h
  | n + 1, [], i + 1, v, h => by
    simp only [aa_pad, aa_lg] at h
    have := aa_pad_out n [] i v h
    simp [aa_lg] at this
  | n + 1, x :: t, 0, v, h => by simpa [aa_pad, aa_lg] using h
  | n + 1, x :: t, i + 1, v, h => by
    simp only [aa_pad, aa_lg] at h ⊢
    exact aa_pad_out n t i v h
theorem aa_ar_len : ∀ (as : List Value), (aa_ar as).length = aa_cat as
  | [] => rfl
  | a :: t => by cases a <;> simp [aa_ar, aa_cat, aa_ar_len t]
theorem ab_sl_len {G : ab_G} (hG : G.2.2.2.2.2.category = 1) : ∀ (as : List Value), (lg_sl (as.map (ab_v G))).length = aa_cat as
  | [] => rfl
  | a :: t => by
    have ih := ab_sl_len hG t
    unfold lg_sl at ih ⊢
    rw [List.map_cons, List.flatMap_cons, List.length_append, ih]
    cases a with
    | float x =>
      show (if (G.2.2.2.2.2).category = 2 then [Slot.val G.2.2.2.2.2, Slot.second] else [Slot.val G.2.2.2.2.2]).length + aa_cat t = aa_cat t + 1
      rw [if_neg (by omega)]
      simp only [List.length_cons, List.length_nil]
      omega
    | _ =>
      simp [ab_v, Value.category, aa_cat]
      try omega
theorem ab_entry {G : ab_G} (hG : G.2.2.2.2.2.category = 1) (as : List Value) (n : Nat) (h : aa_cat as ≤ n) : ab_L G ((lg_sl (as.map (ab_v G)) ++ List.replicate (n - (lg_sl (as.map (ab_v G))).length) Slot.unset).toArray) n (aa_pad n (aa_ar as)) := by
  have hl := lv_entry (as.map (ab_v G)) (n := n) (by rw [ab_sl_len hG]; exact h)
  refine ⟨hl.1, hl.2.1, aa_pad_len n _ (by rw [aa_ar_len]; exact h), fun i v hv => ?_⟩
  have h2 := ab_ar_in hG as 0 i (aa_pad_out n _ i v hv)
  rw [Nat.zero_add] at h2
  exact hl.2.2 _ h2
-- the judgement
def ac_N : Nat := 151
def aa_wf (sk : aa_Sk) : Prop := ∀ (a : Nat) (c : aa_Ce), aa_sh sk a = some c → (c.1 < 100 → ∃ r : vw_C, vwCl[c.1]? = some r ∧ r.2.2 = c.2.1) ∧ c.1 < 104
def ab_H (G : ab_G) (sk : aa_Sk) (V : aa_V) (s : State) (H : Heap) (locs : List Loc) : Prop := (sk.length < ac_N → H.size = G.1 + sk.length) ∧ va_P (ab_D G) vwCl (ab_ws G sk V) H ∧ va_S (ab_A G) s.heap H locs ∧ sk.length ≤ 1000000 ∧ aa_wf sk
/-- how a method may end with r -/
def ab_re (M : ac_R) (pc : Nat) (r : Option Value) : Prop := match r with
  | none => decode M.2.1 pc = .ok (.return_, 1) ∧ M.2.2.2 = none
  | some (.int x) => decode M.2.1 pc = .ok (.ireturn, 1) ∧ ∃ ty, M.2.2.2 = some ty ∧ narrow ty (.int x) = .int x
  | some (.long _) => decode M.2.1 pc = .ok (.lreturn, 1) ∧ M.2.2.2 = some .long
  | some (.ref _) => decode M.2.1 pc = .ok (.areturn, 1) ∧ ∃ n, M.2.2.2 = some (.object n)
  | _ => False
/-- the classes of arrays, by their names -/
def cx_N (G : ab_G) (s : State) : Prop := (s.vm.findClass ("[" ++ (FieldType.int).toString) = some (ab_cy G 0) ∧ s.vm.findClass ("[" ++ (FieldType.byte).toString) = some (ab_cy G 1)) ∧ (s.vm.findClass ("[" ++ (FieldType.object "FrameCounty$Text").toString) = some (ab_cy G 2) ∧ s.vm.findClass ("[" ++ (FieldType.array .int).toString) = some (ab_cy G 3)) ∧ va_AO "FrameCounty$Text" s ∧ (Cond.arrayOver (.array .int)).before #[] s = true
theorem cx_N.moved {G : ab_G} {u U : State} (hvm : u.vm.Alike U.vm) (h : cx_N G u) : cx_N G U := by
  obtain ⟨⟨h1, h2⟩, ⟨h3, h4⟩, h5, h6⟩ := h
  exact ⟨⟨by rw [hvm.findClass]; exact h1, by rw [hvm.findClass]; exact h2⟩, ⟨by rw [hvm.findClass]; exact h3, by rw [hvm.findClass]; exact h4⟩, h5.moved hvm, over_moved hvm h6⟩
def ab_C (G : ab_G) (ST : aa_St) (d : Nat) (M : ac_R) (p : Program) (R : Room) (s : State) (m : MethodId) (args : Array Value) (meth : Method) (c : Code) : Prop :=
  p.tables.exec = Jvm.exec ∧ c.code = M.2.1 ∧ c.maxLocals = M.2.2.1 ∧ s.vm.findClass M.1.cls = some m.cls ∧ (∀ w ∈ aa_BW, w.before args s = true) ∧ meth.sig.returnType = M.2.2.2 ∧ meth.locks = false ∧ meth.name = M.1.name ∧
  va_K (ab_D G) vwCl (ab_ty G) s ∧ ab_SW G ST s s.heap ∧ d ≤ R.frames ∧ 40 * d ≤ R.locals ∧ G.1 ≤ s.heap.size ∧ cx_N G s
/-- from this frame, with this memory: the method ends, the memory's list is then skr, and K holds of its answer and of the memory -/
def ab_J (G : ab_G) (ST : aa_St) (l : Launch) (d mm pc : Nat) (lo : aa_Lo) (st : List Value) (sk : aa_Sk) (V : aa_V) (skr : aa_Sk) (K : aa_K) : Prop :=
  ∀ (M : ac_R) (p : Program) (e : Env) (R : Room) (s : State) (m : MethodId) (args : Array Value) (below : List Frame) (meth : Method) (c : Code) (Qw : State → Prop) (H : Heap) (locs : List Loc) (cells slots : Nat) (ls : Array Slot),
    ac_M mm = some M → ab_C G ST d M p R s m args meth c → ab_H G sk V s H locs → ab_L G ls M.2.2.1 lo → cells + ab_u skr ≤ R.cells + ab_u sk ∧ ab_u sk ≤ ab_u skr → slots + ab_us skr ≤ R.slots + ab_us sk ∧ ab_us sk ≤ ab_us skr →
    (∀ (r : Option Value) (V' : aa_V) (H' : Heap) (locs' : List Loc) (cells' slots' : Nat) (ls' : Array Slot) (pc' : Nat), K r V' → ab_H G skr V' s H' locs' → cells' ≤ R.cells → slots' ≤ R.slots → ab_re M pc' r → W p l e R s m args below meth c H' locs' cells' slots' Qw (F0 m pc' ls' (r.toList.map (ab_v G)))) →
    W p l e R s m args below meth c H locs cells slots Qw (F0 m pc ls (st.map (ab_v G)))
theorem ab_J.mono {G : ab_G} {ST : aa_St} {l : Launch} {d d' mm pc : Nat} {lo : aa_Lo} {st : List Value} {sk skr : aa_Sk} {V : aa_V} {K K' : aa_K} (h : ab_J G ST l d mm pc lo st sk V skr K) (hd : d ≤ d') (hK : ∀ r V, K r V → K' r V) : ab_J G ST l d' mm pc lo st sk V skr K' := by
  intro M p e R s m args below meth c Qw H locs cells slots ls hM hC hH hL hc hs hret
  obtain ⟨c1, c2, c3, c4, c5, c6, c7, c8, c9, c10, c11, c12, c13⟩ := hC
  exact h M p e R s m args below meth c Qw H locs cells slots ls hM ⟨c1, c2, c3, c4, c5, c6, c7, c8, c9, c10, Nat.le_trans hd c11, Nat.le_trans (Nat.mul_le_mul_left 40 hd) c12, c13⟩ hH hL hc hs (fun r V' H' locs' cells' slots' ls' pc' k => hret r V' H' locs' cells' slots' ls' pc' (hK r V' k))
/-- a method, from its start -/
def ab_en0 (m : Nat) (as : List Value) : aa_Lo := match ac_M m with
  | some M => aa_pad M.2.2.1 (aa_ar as)
  | none => []
def ab_E (G : ab_G) (ST : aa_St) (l : Launch) (d : Nat) (sk : aa_Sk) : aa_Ev := fun m as V K => ab_J G ST l d m 0 (ab_en0 m as) [] sk V sk K
/-- an instruction does what its operation says -/
def ab_Snd (mm pc : Nat) (op : aa_Op) : Prop := ∀ (G : ab_G) (ST : aa_St) (l : Launch) (d : Nat) (lo : aa_Lo) (st : List Value) (sk : aa_Sk) (V : aa_V) (skr : aa_Sk) (K ret : aa_K) (go : aa_Go), (∀ (r : Option Value) (V' : aa_V), ret r V' → sk = skr ∧ K r V') →
  op sk ST (ab_E G ST l d sk) ret lo st V go → (∀ (pc' : Nat) (lo' : aa_Lo) (st' : List Value) (V' : aa_V), go pc' lo' st' V' → ab_J G ST l (d + 1) mm pc' lo' st' sk V' skr K) → ab_J G ST l (d + 1) mm pc lo st sk V skr K
/-- the code of a method -/
def ab_Cd (mm : Nat) (cd : List (Nat × aa_Op)) : Prop := ∀ q ∈ cd, ab_Snd mm q.1 q.2
theorem aa_find_in : ∀ (cd : List (Nat × aa_Op)) (n : Nat) (op : aa_Op), aa_find cd n = some op → (n, op) ∈ cd
  | [], n, op, h => by simp [aa_find] at h
  | q :: t, n, op, h => by
    simp only [aa_find] at h
    cases hb : Nat.beq q.1 n with
    | true =>
      rw [hb] at h
      have e := Nat.eq_of_beq_eq_true hb
      cases h
      rw [← e]
      exact List.mem_cons_self
    | false =>
      rw [hb] at h
      exact List.mem_cons_of_mem _ (aa_find_in t n op h)
theorem ab_wp {mm : Nat} {cd : List (Nat × aa_Op)} (hcd : ab_Cd mm cd) {G : ab_G} {ST : aa_St} {l : Launch} {d : Nat} {sk : aa_Sk} {K : aa_K} {stops : List Nat} : ∀ (f pc : Nat) (lo : aa_Lo) (st : List Value) (V : aa_V),
    aa_wp cd stops sk ST (ab_E G ST l d sk) K (fun pc' lo' st' V' => ab_J G ST l (d + 1) mm pc' lo' st' sk V' sk K) f pc lo st V → ab_J G ST l (d + 1) mm pc lo st sk V sk K
  | 0, pc, lo, st, V, h => h.elim
  | f + 1, pc, lo, st, V, h => by
    simp only [aa_wp] at h
    cases hf : aa_find cd pc with
    | none => rw [hf] at h; exact h.elim
    | some op =>
      rw [hf] at h
      refine hcd _ (aa_find_in cd pc op hf) G ST l d lo st sk V sk K K _ (fun _ _ h => ⟨rfl, h⟩) h ?_
      intro pc' lo' st' V' h'
      cases hm : aa_mem stops pc' with
      | true => rw [hm] at h'; exact h'
      | false => rw [hm] at h'; exact ab_wp hcd f pc' lo' st' V' h'
