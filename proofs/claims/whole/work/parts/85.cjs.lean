/-! constructors: what makes cells, what writes a final field, calls of other constructors -/
theorem cj_rep0 : ∀ (n i : Nat), aa_nth (List.replicate n 0) i = 0
  | 0, i => by cases i <;> rfl
  | n + 1, 0 => rfl
  | n + 1, i + 1 => cj_rep0 n i
theorem cj_fs {G : ab_G} {W : Nat → Int32} {c : aa_Ce} {j : Nat} (hj : j < c.2.1) : vp_V ((List.range c.2.1).map (ab_fv G W c)) j = ab_fv G W c j := by
  unfold vp_V
  rw [List.getD_eq_getElem?_getD, ab_fs_get hj]
  rfl
/-- a memory with one cell more -/
theorem cj_push {G : ab_G} {sk : aa_Sk} {V V' : aa_V} {c : aa_Ce} {s : State} {H H1 : Heap} {locs : List Loc} (hH : ab_H G sk V s H locs) (hl : sk.length < 151) (eV : ∀ k, k < sk.length → V' k = V k) (z1 : H1.size = H.size + 1) (o1 : ∀ q : Nat, q < H.size → H1[q]? = H[q]?) (hc : (c.1 < 100 → ∃ r : vw_C, vwCl[c.1]? = some r ∧ r.2.2 = c.2.1) ∧ c.1 < 104)
    (hat : va_at (ab_D G) vwCl (G.1 + sk.length, ab_en G (V' sk.length) c) H1) : ab_H G (sk ++ [c]) V' s H1 locs := by
  obtain ⟨h1, h2, h3, h4, h5⟩ := hH
  have hsz : H.size = G.1 + sk.length := h1 hl
  have hk : ∀ (k : Nat) (x : Nat × va_E), (ab_ws G sk V)[k]? = some x → H1[x.1]? = H[x.1]? := fun k x hx => o1 x.1 ((h2 k x hx).lt)
  refine ⟨fun _ => ?_, ?_, ⟨Nat.le_trans h3.1 (by omega), fun x a b => (o1 x (Nat.lt_of_lt_of_le a h3.1)).trans (h3.2.1 x a b), h3.2.2⟩, ?_, cj_wf h5 hc⟩
  · rw [z1, hsz, List.length_append]; rfl
  · rw [cj_ws eV]
    refine (h2.kept hk).app (fun k x hx => ?_)
    have hz : k < 1 := (List.getElem?_eq_some_iff.mp hx).1
    rw [show k = 0 by omega] at hx
    cases hx
    exact hat
  · rw [List.length_append]; show sk.length + 1 ≤ 1000000; omega
theorem cj_zz {V : aa_V} {a : Nat} : cj_z V a a = fun _ => 0 := if_pos rfl
theorem cj_zo {V : aa_V} {a k : Nat} (h : k < a) : cj_z V a k = V k := if_neg (by omega)
/-- an object -/
theorem cj_newO {G : ab_G} {ST : aa_St} {l : Launch} {d mm pc ci n ix : Nat} {M : ac_R} {lo : aa_Lo} {st : List Value} {sk skr : aa_Sk} {V : aa_V} {K : aa_K} {q : vw_C} {ty0 : Nat → FieldType} (hM : ac_M mm = some M) (hd : decode M.2.1 pc = .ok (.new ix, 3)) (hq : vwCl[ci]? = some q) (hn : q.2.2 = n) (hin : ∀ w ∈ u_ws q.1 q.2.1 q.2.2, w ∈ aa_BW)
    (hty : ∀ k, k < q.2.2 → parseFieldDescriptor (q.2.1 k).2.2.1 = some (ty0 k)) (hdf : ∀ j, j < n → defaultValue (ty0 j) = if aa_fk ci j = 0 then .int 0 else .null) (hcl : Cond.classLink M.1.cls ix q.1 ∈ aa_BW) (hins : Cond.instantiable q.1 q.2.2 ∈ aa_BW) (hini : Cond.initialized q.1 ∈ aa_BW) (hci : ci < 100) (hl : sk.length < 151)
    (hu : ab_u sk + 1 ≤ ab_u skr) (hus : ab_us sk + n ≤ ab_us skr)
    (h : ab_J G ST l d mm (pc + 3) lo (.ref sk.length :: st) (sk ++ [(ci, n, List.replicate n 0)]) (cj_z V sk.length) skr K) : ab_J G ST l d mm pc lo st sk V skr K := by
  intro M' p e R s m args below meth c Qw H locs cells slots ls hM' hC hH hL hc hs hret
  cases hM.symm.trans hM'
  subst hn
  obtain ⟨c1, c2, c3, c4, c5, c6, c7, c8, c9, c10, c11, c12, c13, hN⟩ := id hC
  have hsz : H.size = G.1 + sk.length := hH.1 hl
  have hKn := c9.1 ci q hq
  refine W.newcK c1 c2 c4 (c5 _ hcl) (c5 _ hins) (c5 _ hini) rfl hd (by omega) (by omega) hKn.2.1 rfl fun H1 kC hkC e1 z1 o1 => ?_
  have hH1 : ab_H G (sk ++ [(ci, q.2.2, List.replicate q.2.2 0)]) (cj_z V sk.length) s H1 locs := by
    refine cj_push hH hl (fun k z => cj_zo z) z1 o1 ⟨fun _ => ⟨q, hq, rfl⟩, by show ci < 104; omega⟩ ?_
    rw [ab_en_o (show (ci, q.2.2, List.replicate q.2.2 0).1 < 100 from hci), ← hsz]
    refine ⟨q, hq, (u_born ty0 c5 hin hKn hkC e1 hty).to fun j hj => ?_⟩
    show defaultValue (ty0 j) = vp_V ((List.range (ci, q.2.2, List.replicate q.2.2 0).2.1).map (ab_fv G (cj_z V sk.length sk.length) (ci, q.2.2, List.replicate q.2.2 0))) j
    rw [cj_fs (c := (ci, q.2.2, List.replicate q.2.2 0)) hj, hdf j hj, cj_zz]
    show (if aa_fk ci j = 0 then Value.int 0 else .null) = (match aa_fk ci j with
      | 0 => Value.int 0
      | 1 => va_rf (ab_rf G (aa_nth (List.replicate q.2.2 0) j))
      | _ => va_rf (ab_rf G (0 : Int32).toNatClampNeg))
    rw [cj_rep0]
    generalize aa_fk ci j = z
    match z with
    | 0 => rfl
    | 1 => rw [if_neg (by decide)]; rfl
    | z + 2 => rw [if_neg (Nat.succ_ne_zero _)]; rfl
  have key := h M p e R s m args below meth c Qw H1 locs (cells + 1) (slots + q.2.2) ls hM hC hH1 hL ⟨by rw [cj_u]; omega, by rw [cj_u]; omega⟩ ⟨by rw [cj_us]; show slots + q.2.2 + ab_us skr ≤ R.slots + (ab_us sk + q.2.2); omega, by rw [cj_us]; exact hus⟩ hret
  have ev : ab_v G (.ref sk.length) = .ref H.size := by
    show Value.ref (ab_ad G sk.length) = _
    rw [show ab_ad G sk.length = G.1 + sk.length from if_pos (by omega), hsz]
  rw [List.map_cons, ev] at key
  exact key
/-- a row of Text -/
theorem cj_newQ {G : ab_G} {ST : aa_St} {l : Launch} {d mm pc n ix : Nat} {M : ac_R} {lo : aa_Lo} {st : List Value} {sk skr : aa_Sk} {V : aa_V} {K : aa_K} (hM : ac_M mm = some M) (hd : decode M.2.1 pc = .ok (.anewarray ix, 3)) (hcl : Cond.classLink M.1.cls ix "FrameCounty$Text" ∈ aa_BW) (hn : n < 3000) (hl : sk.length < 151) (hu : ab_u sk + 1 ≤ ab_u skr) (hus : ab_us sk + n ≤ ab_us skr)
    (h : ab_J G ST l d mm (pc + 3) lo (.ref sk.length :: st) (sk ++ [(102, n, List.replicate n 0)]) (cj_z V sk.length) skr K) : ab_J G ST l d mm pc lo (.int (nI n) :: st) sk V skr K := by
  intro M' p e R s m args below meth c Qw H locs cells slots ls hM' hC hH hL hc hs hret
  cases hM.symm.trans hM'
  obtain ⟨c1, c2, c3, c4, c5, c6, c7, c8, c9, c10, c11, c12, c13, hN⟩ := id hC
  have hsz : H.size = G.1 + sk.length := hH.1 hl
  have hcn : (nI n).toNatClampNeg = n := zz_ix (by omega)
  refine W.anew c1 c2 c4 (c5 _ hcl) (va_AO.use hN.2.2.1) rfl hd rfl (nI_n0 (by omega)) (by rw [hcn]; omega) (by omega) (by rw [hcn]; omega) fun cA kA comp f1 f2 f3 f4 => ?_
  rw [hcn]
  have hcA : cA = ab_cy G 2 := Option.some.inj (f1.symm.trans hN.2.1.1)
  subst hcA
  have hH1 : ab_H G (sk ++ [(102, n, List.replicate n 0)]) (cj_z V sk.length) s (H.push ({ cls := ab_cy G 2, slots := Array.replicate n .null, vm := .none } : Cell)) locs := by
    refine cj_push hH hl (fun k z => cj_zo z) (by rw [Array.size_push]) (fun q hq => by rw [Array.getElem?_push, if_neg (Nat.ne_of_lt hq)]) ⟨fun q => by exact absurd q (by show ¬ 102 < 100; omega), by show 102 < 104; omega⟩ ?_
    rw [ab_en_r (by show ¬ (102 : Nat) < 102; omega), ← hsz]
    show (H.push _)[H.size]? = some (vp_cell (ab_cy G 2) (n, .inr (.inr (.inr (.inr (fun i => ab_rf G (aa_nth (List.replicate n 0) i)))))))
    rw [Array.getElem?_push_size, vp_cell_q, arrV_new]
    have e : (fun j => va_rf (ab_rf G (aa_nth (List.replicate n 0) j))) = fun _ => Value.null := by
      funext j
      rw [cj_rep0]
      rfl
    rw [e]
  have key := h M p e R s m args below meth c Qw _ locs (cells + 1) (slots + n) ls hM hC hH1 hL ⟨by rw [cj_u]; omega, by rw [cj_u]; omega⟩ ⟨by rw [cj_us]; show slots + n + ab_us skr ≤ R.slots + (ab_us sk + n); omega, by rw [cj_us]; exact hus⟩ hret
  have ev : ab_v G (.ref sk.length) = .ref H.size := by
    show Value.ref (ab_ad G sk.length) = _
    rw [show ab_ad G sk.length = G.1 + sk.length from if_pos (by omega), hsz]
  rw [List.map_cons, ev] at key
  exact key
/-- rows of rows of ints -/
def cj_rs (L n : Nat) : List Nat := (List.range n).map (fun j => L + 1 + j + 1)
theorem cj_nth : ∀ (l : List Nat) (i : Nat), aa_nth l i = (l[i]?).getD 0
  | [], i => by cases i <;> rfl
  | x :: t, 0 => rfl
  | x :: t, n + 1 => by
    show aa_nth t n = _
    rw [cj_nth t n]
    rfl
theorem cj_rs_at {L n j : Nat} (h : j < n) : aa_nth (cj_rs L n) j = L + 1 + j + 1 := by
  rw [cj_nth]
  unfold cj_rs
  simp [h]
def cj_y (V : aa_V) (L : Nat) : aa_V := fun b => if L ≤ b then fun _ => 0 else V b
theorem cj_arrV {cI : ClassId} {N : Nat} {f g : Nat → Value} (h : ∀ j, j < N → f j = g j) : arrV cI N f = arrV cI N g := by
  have e : (fun j : Fin N => f j.val) = fun j : Fin N => g j.val := funext fun j => h j.val j.isLt
  unfold arrV
  rw [e]
theorem cj_us_app : ∀ (a b : aa_Sk), ab_us (a ++ b) = ab_us a + ab_us b
  | [], b => by show ab_us b = 0 + ab_us b; omega
  | x :: t, b => by
    have ih := cj_us_app t b
    show x.2.1 + ab_us (t ++ b) = x.2.1 + ab_us t + ab_us b
    omega
theorem cj_us_rep (k : Nat) (rs : List Nat) : ∀ n : Nat, ab_us (List.replicate n (100, k, rs)) = n * k
  | 0 => by rw [Nat.zero_mul]; rfl
  | n + 1 => by
    have ih := cj_us_rep k rs n
    show k + ab_us (List.replicate n (100, k, rs)) = _
    rw [ih, Nat.succ_mul]
    omega
theorem cj_sh_app {sk t : aa_Sk} {a : Nat} {c : aa_Ce} (h : (sk ++ t)[a]? = some c) : (a < sk.length ∧ sk[a]? = some c) ∨ (sk.length ≤ a ∧ t[a - sk.length]? = some c) := by
  rcases Nat.lt_or_ge a sk.length with q | q
  · rw [List.getElem?_append_left q] at h
    exact Or.inl ⟨q, h⟩
  · rw [List.getElem?_append_right q] at h
    exact Or.inr ⟨q, h⟩
def cj_mm (L n k : Nat) : aa_Sk := (103, n, cj_rs L n) :: List.replicate n (100, k, [])
theorem cj_mm_at {L n k i : Nat} {c : aa_Ce} (h : (cj_mm L n k)[i]? = some c) : (i = 0 ∧ c = (103, n, cj_rs L n)) ∨ (∃ j, i = j + 1 ∧ j < n ∧ c = (100, k, [])) := by
  cases i with
  | zero => exact Or.inl ⟨rfl, (Option.some.inj h).symm⟩
  | succ j =>
    have h2 : (List.replicate n (100, k, []))[j]? = some c := h
    rw [List.getElem?_replicate] at h2
    by_cases q : j < n
    · rw [if_pos q] at h2
      exact Or.inr ⟨j, rfl, q, (Option.some.inj h2).symm⟩
    · rw [if_neg q] at h2
      cases h2
theorem cj_mm_len {L n k : Nat} : (cj_mm L n k).length = n + 1 := by
  unfold cj_mm
  rw [List.length_cons, List.length_replicate]
theorem cj_mm_wf {sk : aa_Sk} {L n k : Nat} (h : aa_wf sk) : aa_wf (sk ++ cj_mm L n k) := by
  intro a c ha
  rw [aa_sh_eq] at ha
  rcases cj_sh_app ha with ⟨q1, q2⟩ | ⟨q1, q2⟩
  · exact h a c (by rw [aa_sh_eq]; exact q2)
  · rcases cj_mm_at q2 with ⟨-, rfl⟩ | ⟨j, -, -, rfl⟩
    · exact ⟨fun q => absurd q (by show ¬ 103 < 100; omega), by show 103 < 104; omega⟩
    · exact ⟨fun q => absurd q (by show ¬ 100 < 100; omega), by show 100 < 104; omega⟩
theorem cj_multi {G : ab_G} {ST : aa_St} {l : Launch} {d mm pc n k ix : Nat} {M : ac_R} {lo : aa_Lo} {st : List Value} {sk skr : aa_Sk} {V : aa_V} {K : aa_K} (hM : ac_M mm = some M) (hd : decode M.2.1 pc = .ok (.multianewarray ix 2, 4)) (hcl : Cond.classLink M.1.cls ix ("[" ++ (FieldType.array .int).toString) ∈ aa_BW) (hw : Cond.arrayClass .int ∈ aa_BW) (hn : n < 3000) (hk : k < 3000) (hl : sk.length + n + 1 ≤ 151)
    (hu : ab_u sk + 1 + n ≤ ab_u skr) (hus : ab_us sk + n + n * k ≤ ab_us skr)
    (h : ab_J G ST l d mm (pc + 4) lo (.ref sk.length :: st) (sk ++ cj_mm sk.length n k) (cj_y V sk.length) skr K) : ab_J G ST l d mm pc lo (.int (nI k) :: .int (nI n) :: st) sk V skr K := by
  intro M' p e R s m args below meth c Qw H locs cells slots ls hM' hC hH hL hc hs hret
  cases hM.symm.trans hM'
  obtain ⟨c1, c2, c3, c4, c5, c6, c7, c8, c9, c10, c11, c12, c13, hN⟩ := id hC
  have hl2 : sk.length < 151 := by omega
  have hsz : H.size = G.1 + sk.length := hH.1 hl2
  have hnk : n * k ≤ R.slots := by omega
  refine cm_W c1 c2 c4 (c5 _ hcl) hN.2.2.2 (c5 _ hw) rfl hd rfl (nI_n0 (by omega)) (nI_n0 (by omega)) (zz_ix (by omega)) (zz_ix (by omega)) (by omega) (by omega) (by omega) (by omega) fun H1 cA cI g1 g2 z1 o1 e1 e2 => ?_
  have hcA : cA = ab_cy G 3 := Option.some.inj (g1.symm.trans hN.2.1.2)
  have hcI : cI = ab_cy G 0 := Option.some.inj (g2.symm.trans hN.1.1)
  subst hcA
  subst hcI
  have hH1 : ab_H G (sk ++ cj_mm sk.length n k) (cj_y V sk.length) s H1 locs := by
    obtain ⟨h1, h2, h3, h4, h5⟩ := hH
    refine ⟨fun _ => ?_, fun a x hx => ?_, ⟨Nat.le_trans h3.1 (by omega), fun x a b => (o1 x (Nat.lt_of_lt_of_le a h3.1)).trans (h3.2.1 x a b), h3.2.2⟩, ?_, cj_mm_wf h5⟩
    · rw [z1, hsz, List.length_append, cj_mm_len]; omega
    · rw [ab_ws_at] at hx
      cases hc' : (sk ++ cj_mm sk.length n k)[a]? with
      | none => rw [hc'] at hx; cases hx
      | some ce =>
        rw [hc'] at hx
        cases hx
        rcases cj_sh_app hc' with ⟨q1, q2⟩ | ⟨q1, q2⟩
        · have hv : cj_y V sk.length a = V a := if_neg (by omega)
          rw [hv]
          have h6 := h2 a (G.1 + a, ab_en G (V a) ce) (by rw [ab_ws_at, q2]; rfl)
          exact h6.kept (o1 _ h6.lt)
        · have hv : cj_y V sk.length a = fun _ => 0 := if_pos q1
          rw [hv]
          rcases cj_mm_at q2 with ⟨i1, rfl⟩ | ⟨j, i1, i2, rfl⟩
          · show va_at (ab_D G) vwCl (G.1 + a, ab_en G (fun _ => 0) (103, n, cj_rs sk.length n)) H1
            rw [ab_en_r (by show ¬ (103 : Nat) < 102; omega)]
            show H1[G.1 + a]? = some (vp_cell (ab_cy G 3) (n, .inr (.inr (.inr (.inr (fun i => ab_rf G (aa_nth (cj_rs sk.length n) i)))))))
            rw [show G.1 + a = H.size by omega, e1, vp_cell_q]
            congr 1
            refine cj_arrV fun j hj => ?_
            show cm_f H.size n j = va_rf (ab_rf G (aa_nth (cj_rs sk.length n) j))
            rw [cj_rs_at hj]
            show cm_f H.size n j = .ref (ab_ad G (sk.length + 1 + j))
            unfold cm_f
            rw [if_pos hj, show ab_ad G (sk.length + 1 + j) = G.1 + (sk.length + 1 + j) from if_pos (by omega), show G.1 + (sk.length + 1 + j) = H.size + 1 + j by omega]
          · show va_at (ab_D G) vwCl (G.1 + a, ab_en G (fun _ => 0) (100, k, [])) H1
            rw [ab_en_i (by show ¬ (100 : Nat) < 100; omega) (by show (100 : Nat) < 102; omega)]
            show H1[G.1 + a]? = some (vp_cell (ab_cy G 0) (k, .inl (fun _ => 0)))
            rw [show G.1 + a = H.size + 1 + j by omega, e2 j i2]
            rfl
    · rw [List.length_append, cj_mm_len]; omega
  have hus2 : ab_us (sk ++ cj_mm sk.length n k) = ab_us sk + n + n * k := by
    rw [cj_us_app]
    show ab_us sk + (n + ab_us (List.replicate n (100, k, []))) = _
    rw [cj_us_rep]
    omega
  have hu2 : ab_u (sk ++ cj_mm sk.length n k) = ab_u sk + 1 + n := by
    show (sk ++ cj_mm sk.length n k).length = sk.length + 1 + n
    rw [List.length_append, cj_mm_len]
    omega
  have key := h M p e R s m args below meth c Qw H1 locs (cells + 1 + n) (slots + n + n * k) ls hM hC hH1 hL ⟨by rw [hu2]; omega, by rw [hu2]; omega⟩ ⟨by rw [hus2]; omega, by rw [hus2]; omega⟩ hret
  have ev : ab_v G (.ref sk.length) = .ref H.size := by
    show Value.ref (ab_ad G sk.length) = _
    rw [show ab_ad G sk.length = G.1 + sk.length from if_pos (by omega), hsz]
  rw [List.map_cons, ev] at key
  exact key
/-- a final field that names a cell -/
theorem cj_set_at {rs : List Nat} {k x : Nat} (hk : k < rs.length) (i : Nat) : aa_nth (rs.set k x) i = if i = k then x else aa_nth rs i := by
  rw [cj_nth, cj_nth, List.getElem?_set]
  by_cases q : k = i
  · subst q
    rw [if_pos rfl, if_pos rfl, if_pos hk]
    rfl
  · rw [if_neg q, if_neg (fun z => q z.symm)]
def ac_pF (M : ac_R) (ci k : Nat) : Prop := M.1.name = "<init>" ∧ ∃ (q : vw_C) (ty0 : Nat → FieldType) (ty : FieldType), vwCl[ci]? = some q ∧ (∀ k, k < q.2.2 → parseFieldDescriptor (q.2.1 k).2.2.1 = some (ty0 k)) ∧ (∀ a, a < q.2.2 → ∀ b, b < q.2.2 → a ≠ b → (q.2.1 a).2.1 ≠ (q.2.1 b).2.1) ∧ (q.2.1 k).2.2.2 = true ∧ parseFieldDescriptor (q.2.1 k).2.2.1 = some ty ∧ (∀ x : Nat, narrow ty (.ref x) = .ref x ∧ fits ty (.ref x) = true) ∧ (q.2.1 k).1 = M.1.cls
theorem cj_shs {sk : aa_Sk} {a : Nat} {c c' : aa_Ce} (h : aa_sh sk a = some c) (b : Nat) : aa_sh (sk.set a c') b = if b = a then some c' else aa_sh sk b := by
  rw [aa_sh_eq, aa_sh_eq, List.getElem?_set]
  by_cases q : a = b
  · subst q
    rw [if_pos rfl, if_pos rfl, if_pos (aa_sh_lt h)]
  · rw [if_neg q, if_neg (fun z => q z.symm)]
theorem cj_u_set {sk : aa_Sk} {a : Nat} {c : aa_Ce} : ab_u (sk.set a c) = ab_u sk := by
  show (sk.set a c).length = sk.length
  rw [List.length_set]
theorem cj_us_set : ∀ {sk : aa_Sk} {a : Nat} {c c' : aa_Ce}, aa_sh sk a = some c → c'.2.1 = c.2.1 → ab_us (sk.set a c') = ab_us sk
  | [], a, c, c', h, e => by simp [aa_sh] at h
  | x :: t, 0, c, c', h, e => by
    have hx : x = c := Option.some.inj h
    subst hx
    show c'.2.1 + ab_us t = x.2.1 + ab_us t
    rw [e]
  | x :: t, n + 1, c, c', h, e => by
    have ih := cj_us_set (sk := t) (a := n) h e
    show x.2.1 + ab_us (t.set n c') = x.2.1 + ab_us t
    rw [ih]
theorem cj_putF {G : ab_G} {ST : aa_St} {l : Launch} {d mm pc ix ci k a n x : Nat} {M : ac_R} {lo : aa_Lo} {st : List Value} {sk skr : aa_Sk} {V : aa_V} {K : aa_K} {rs : List Nat} (hM : ac_M mm = some M) (hd : decode M.2.1 pc = .ok (.putfield ix, 3)) (hf : ac_fd M ix ci k 1) (hp : ac_pF M ci k) (hsa : aa_sh sk a = some (ci, n, rs)) (hkr : k < rs.length)
    (h : ab_J G ST l d mm (pc + 3) lo st (sk.set a (ci, n, rs.set k (x + 1))) V skr K) : ab_J G ST l d mm pc lo (.ref x :: .ref a :: st) sk V skr K := by
  intro M' p e R s m args below meth c Qw H locs cells slots ls hM' hC hH hL hc hs hret
  cases hM.symm.trans hM'
  have hCC := hC
  obtain ⟨c1, c2, c3, c4, c5, c6, c7, c8, c9, c10, c11, c12, c13⟩ := hC
  obtain ⟨r, f1, f2, f3, f4, f5, f6, f7⟩ := hf
  obtain ⟨hini, q, ty0, ty, p1, hty, hnm, hfin, hpt, hrf, hown⟩ := hp
  have hrq : r = q := Option.some.inj (f1.symm.trans p1)
  subst hrq
  obtain ⟨r2, hr2, hn⟩ := (hH.2.2.2.2 a _ hsa).1 f7
  have hrq : r2 = r := Option.some.inj (hr2.symm.trans f1)
  subst hrq
  show W p l e R s m args below meth c H locs cells slots Qw (F0 m pc ls (.ref (ab_ad G x) :: .ref (ab_ad G a) :: st.map (ab_v G)))
  rw [hH.lt hsa]
  have hap := va_apart (own := M.1.cls) (D := ab_D G) c5 f3 ty0 hty hnm c9 f1
  have hg := ab_ws_get (G := G) (V := V) hsa
  rw [ab_en_o (show (ci, n, rs).1 < 100 from f7)] at hg
  obtain ⟨r3, h1, cell, q1, q2, q3, q4⟩ := hH.2.1 a _ hg
  have hrq : r3 = r2 := Option.some.inj (h1.symm.trans f1)
  subst hrq
  obtain ⟨hS, hfc, kC, hkC, hkind⟩ := c9.1 ci _ f1
  obtain ⟨cf, kf, fi, f, hi, hsl⟩ := hS k f2
  have hlay := c5 _ (f3 _ (u_in_lay f2))
  unfold u_lay at hlay
  rw [if_pos hfin] at hlay
  have hst := (u_facts hfc hkC (u_lays c5 f3 f2) hi).1
  have hcf : m.cls = cf := by
    obtain ⟨_, _, c', _, _, _, -, -, hf', -, -, -, hown2, -⟩ := Cond.laysFinal_spec hlay
    have e1 : c' = cf := by have := hi.symm.trans hf'; simp at this; exact this.1.symm
    rw [hown] at hown2
    rw [← e1]; exact Option.some.inj (c4.symm.trans hown2)
  have h6 := u_fits hfc hkC hkind (Or.inr hlay) hi hpt (hrf (ab_ad G x)).1 (hrf (ab_ad G x)).2
  refine W.putFinK c1 c2 c4 (c5 _ f4) (by rw [← f5]; exact hi) hst hcf (c8.trans hini) (by rw [q2]; exact h6) q1 q3 (by rw [hsl]; exact k2_hasslot (q4 k f2)) rfl rfl hd fun H' e1 e2 e3 => ?_
  rw [hsl] at e1 ⊢
  have hH1 : ab_H G (sk.set a (ci, n, rs.set k (x + 1))) V s H' (locs ++ [⟨G.1 + a, (ab_D G).2 ci k⟩]) := by
    refine hH.gen (c' := (ci, n, rs.set k (x + 1))) hsa List.length_set (by rw [cj_shs hsa, if_pos rfl]) ⟨rfl, rfl⟩ (fun b hb => ⟨by rw [cj_shs hsa, if_neg hb], rfl⟩) ?_ e2 e3
    rw [ab_en_o (show (ci, n, rs.set k (x + 1)).1 < 100 from f7)]
    refine ⟨r3, f1, t_OB.to (V := updV (vp_V ((List.range n).map (ab_fv G (V a) (ci, n, rs)))) k (.ref (ab_ad G x))) ⟨_, e1, q2, q3, t_set q4 hap f2 _⟩ (fun j hj => ab_fs_set (c := (ci, n, rs)) (c' := (ci, n, rs.set k (x + 1))) rfl (fun i hi2 => ?_) ?_ j (by have h9 : r3.2.2 = n := hn; show j < n; omega))⟩
    · have h8 : aa_nth (rs.set k (x + 1)) i = aa_nth rs i := by rw [cj_set_at hkr, if_neg hi2]
      show (match aa_fk ci i with
        | 0 => Value.int (V a i)
        | 1 => va_rf (ab_rf G (aa_nth (rs.set k (x + 1)) i))
        | _ => va_rf (ab_rf G (V a i).toNatClampNeg)) = (match aa_fk ci i with
        | 0 => Value.int (V a i)
        | 1 => va_rf (ab_rf G (aa_nth rs i))
        | _ => va_rf (ab_rf G (V a i).toNatClampNeg))
      rw [h8]
    · have h8 : aa_nth (rs.set k (x + 1)) k = x + 1 := by rw [cj_set_at hkr, if_pos rfl]
      rw [ab_fv1 (c := (ci, n, rs.set k (x + 1))) f6]
      show va_rf (ab_rf G (aa_nth (rs.set k (x + 1)) k)) = _
      rw [h8]
      rfl
  exact h M p e R s m args below meth c Qw H' _ cells slots ls hM hCC hH1 hL (by rw [cj_u_set]; exact hc) (by rw [cj_us_set (c' := (ci, n, rs.set k (x + 1))) hsa rfl]; exact hs) hret
/-- a Text into a row of Text -/
theorem cj_aast {G : ab_G} {ST : aa_St} {l : Launch} {d mm pc a n n2 x i : Nat} {M : ac_R} {lo : aa_Lo} {st : List Value} {sk skr : aa_Sk} {V : aa_V} {K : aa_K} {rs rs2 : List Nat} (hM : ac_M mm = some M) (hd : decode M.2.1 pc = .ok (.aastore, 1)) (hsa : aa_sh sk a = some (102, n, rs)) (hsx : aa_sh sk x = some (6, n2, rs2)) (hin : i < n) (hn : n < 3000) (hir : i < rs.length)
    (h : ab_J G ST l d mm (pc + 1) lo st (sk.set a (102, n, rs.set i (x + 1))) V skr K) : ab_J G ST l d mm pc lo (.ref x :: .int (nI i) :: .ref a :: st) sk V skr K := by
  intro M' p e R s m args below meth c Qw H locs cells slots ls hM' hC hH hL hc hs hret
  cases hM.symm.trans hM'
  have hCC := hC
  obtain ⟨c1, c2, c3, c4, c5, c6, c7, c8, c9, c10, c11, c12, c13⟩ := hC
  show W p l e R s m args below meth c H locs cells slots Qw (F0 m pc ls (.ref (ab_ad G x) :: .int (nI i) :: .ref (ab_ad G a) :: st.map (ab_v G)))
  rw [hH.lt hsa, hH.lt hsx]
  have hga := ab_ws_get (G := G) (V := V) hsa
  rw [ab_en_r (by show ¬ (102 : Nat) < 102; omega)] at hga
  have hgx := ab_ws_get (G := G) (V := V) hsx
  rw [ab_en_o (show (6, n2, rs2).1 < 100 by show 6 < 100; omega)] at hgx
  have hci : (nI i).toNatClampNeg = i := zz_ix (by omega)
  obtain ⟨r', hr', cellV, g1, g2, g3, -⟩ := hH.2.1 x _ hgx
  have hcls := (c9.1 6 (RX6, TX6, 4) rfl).2
  obtain ⟨kA, comp, k1, k2, k3, -⟩ := (c9.2 2 (ab_cy G 2, .object "FrameCounty$Text") rfl).2
  have hcomp : comp = (ab_D G).1 6 := Option.some.inj (k3.symm.trans hcls.1)
  subst hcomp
  obtain ⟨kC, hkC, -⟩ := hcls.2
  refine W.aast c1 c2 (hH.2.1 a _ hga) (fun q h => by cases h) (fun h => by cases h) k1 k2 rfl hkC ⟨nI_n0 (by omega), by show _ < (arrV _ _ _).slots.size; rw [arrV_size, hci]; exact hin⟩ g1 (fun q h => by rw [g3] at h; cases h) (by rw [g2]; exact hkC) (by rw [g2]; exact va_assign hcls) rfl rfl hd fun H1 e1 z oq => ?_
  rw [hci] at e1 ⊢
  have hH1 : ab_H G (sk.set a (102, n, rs.set i (x + 1))) V s H1 (locs ++ [⟨G.1 + a, i⟩]) := by
    refine hH.gen (c' := (102, n, rs.set i (x + 1))) hsa List.length_set (by rw [cj_shs hsa, if_pos rfl]) ⟨rfl, rfl⟩ (fun b hb => ⟨by rw [cj_shs hsa, if_neg hb], rfl⟩) ?_ z oq
    rw [ab_en_r (by show ¬ (102 : Nat) < 102; omega)]
    show H1[G.1 + a]? = some (vp_cell (ab_cy G 2) (n, .inr (.inr (.inr (.inr (fun j => ab_rf G (aa_nth (rs.set i (x + 1)) j)))))))
    rw [e1]
    show some ((arrV (ab_cy G 2) n (fun j => va_rf (ab_rf G (aa_nth rs j)))).setSlot i (.ref (G.1 + x))) = some (arrV (ab_cy G 2) n (fun j => va_rf (ab_rf G (aa_nth (rs.set i (x + 1)) j))))
    rw [arrV_store]
    refine congrArg some (cj_arrV fun j hj => ?_)
    show (if j = i then Value.ref (G.1 + x) else va_rf (ab_rf G (aa_nth rs j))) = va_rf (ab_rf G (aa_nth (rs.set i (x + 1)) j))
    rw [cj_set_at hir]
    by_cases q : j = i
    · rw [if_pos q, if_pos q, ← hH.lt hsx]
      rfl
    · rw [if_neg q, if_neg q]
  exact h M p e R s m args below meth c Qw H1 _ cells slots ls hM hCC hH1 hL (by rw [cj_u_set]; exact hc) (by rw [cj_us_set (c' := (102, n, rs.set i (x + 1))) hsa rfl]; exact hs) hret
/-- Object's own constructor -/
theorem cj_obj {G : ab_G} {ST : aa_St} {l : Launch} {d mm pc ix a : Nat} {M : ac_R} {lo : aa_Lo} {st : List Value} {sk skr : aa_Sk} {V : aa_V} {K : aa_K} (hM : ac_M mm = some M) (hd : decode M.2.1 pc = .ok (.invokespecial ix, 3)) (hlk : Cond.methodLink M.1.cls ix Lib.objectInit ∈ aa_BW) (hin : Cond.instanceMethod Lib.objectInit ∈ aa_BW) (hcd : Cond.code Lib.objectInit ⟨#[0xb1]⟩ 1 none ∈ aa_BW) (hst : aa_cat st ≤ 8)
    (h : ab_J G ST l (d + 1) mm (pc + 3) lo st sk V skr K) : ab_J G ST l (d + 1) mm pc lo (.ref a :: st) sk V skr K := by
  intro M' p e R s m args below meth c Qw H locs cells slots ls hM' hC hH hL hc hs hret
  cases hM.symm.trans hM'
  have key := h M p e R s m args below meth c Qw H locs cells slots ls hM hC hH hL hc hs hret
  obtain ⟨c1, c2, c3, c4, c5, c6, c7, c8, c9, c10, c11, c12, c13⟩ := hC
  have hW : 2 * (F0 m pc ls (st.map (ab_v G))).monitorRoom + ((st.map (ab_v G)).map fun v => v.category).sum ≤ 8 := lv_room (by rw [aa_cat_eq c10.2.2.2.2.2.1]; exact hst)
  exact W.objInit c1 c2 c4 (c5 _ hlk) (c5 _ hin) (c5 _ hcd) rfl (by rw [c3]; exact hL.1) rfl hd (by omega) (by
    have h9 : 2 * (F0 m pc ls (.ref (ab_ad G a) :: st.map (ab_v G))).monitorRoom + ((st.map (ab_v G)).map fun v => v.category).sum ≤ 8 := hW
    show 2 * (F0 m pc ls (.ref (ab_ad G a) :: st.map (ab_v G))).monitorRoom + ((st.map (ab_v G)).map fun v => v.category).sum + 12 ≤ R.locals
    omega) key
/-- a constructor's call -/
theorem cj_run {G : ab_G} {ST : aa_St} {d pc n m' ix b : Nat} {M M' : ac_R} {p : Program} {l : Launch} {e : Env} {R : Room} {s : State} {m : MethodId} {args : Array Value} {below : List Frame} {meth : Method} {c : Code} {H : Heap} {locs : List Loc} {cells slots : Nat} {ls : Array Slot} {sk skr : aa_Sk} {V : aa_V} {K : aa_K} {as st : List Value}
    (hC : ab_C G ST (d + 1) M p R s m args meth c) (hH : ab_H G sk V s H locs) (hL : ls.size = M.2.2.1) (hd : decode M.2.1 pc = .ok (.invokespecial ix, 3)) (hce : ac_ce m' n M') (hlk : ac_lk M.1.cls ix M'.1) (hin : Cond.instanceMethod M'.1 ∈ aa_BW) (hnm : M'.1.name = "<init>") (hrt : M'.2.2.2 = none) (has : as.length = n) (hcs : aa_cat st ≤ 8) (hca : aa_cat as + 1 ≤ M'.2.2.1)
    (hu : ab_u sk ≤ ab_u skr) (hus : ab_us sk ≤ ab_us skr) (hwf : aa_wf skr) (hsl : skr.length ≤ 1000000) (hcl : cells + (ab_u skr - ab_u sk) ≤ R.cells) (hsl2 : slots + (ab_us skr - ab_us sk) ≤ R.slots) (hmx : M'.2.2.1 ≤ 21)
    (hJ : ab_J G ST l d m' 0 (ab_en0 m' (.ref b :: as)) [] sk V skr K) :
    va_Run p l e R s m args below meth c H locs cells slots (ab_u skr - ab_u sk) (ab_us skr - ab_us sk) (F0 m pc ls ((as.map (ab_v G)).reverse ++ .ref (ab_ad G b) :: st.map (ab_v G))) (st.map (ab_v G)) (ab_Q G skr K (.ref (ab_ad G b) :: as.map (ab_v G)).toArray) (ab_A G) := by
  obtain ⟨e1, e2, e3, e4, e5, e6⟩ := hce
  have hMet := ab_met (as := .ref b :: as) e1 e2 (by show aa_cat as + 1 ≤ _; exact hca) hu hus hwf hsl hJ
  have hCC := hC
  obtain ⟨c1, c2, c3, c4, c5, c6, c7, c8, c9, c10, c11, c12, c13⟩ := hC
  have hW : 2 * (F0 m pc ls ((as.map (ab_v G)).reverse ++ .ref (ab_ad G b) :: st.map (ab_v G))).monitorRoom + ((st.map (ab_v G)).map fun v => v.category).sum ≤ 8 := lv_room (by rw [aa_cat_eq c10.2.2.2.2.2.1]; exact hcs)
  have hR : (ab_rm d (ab_u skr - ab_u sk) (ab_us skr - ab_us sk)).frames + 1 ≤ R.frames ∧ 8 + (M'.2.2.1 + 11) + (ab_rm d (ab_u skr - ab_u sk) (ab_us skr - ab_us sk)).locals ≤ R.locals := ⟨c11, by show 8 + (M'.2.2.1 + 11) + 40 * d ≤ R.locals; omega⟩
  have hg3 : GoodIn aa_BW (.code M'.1 M'.2.1 M'.2.2.1 none :: aa_BW) := by
    have h9 := ab_good e3
    rw [hrt] at h9
    exact h9
  rw [hrt] at hMet
  rcases hlk with hlk | ⟨host, hlk⟩
  · exact va_runI (Ts := aa_BW) ⟨c1, c2, c3, c4, c5⟩ hMet ⟨callB_of n c5 hg3 rfl rfl rfl (c5 _ e4) (c5 _ hlk) ⟨e5.1, e5.2, e6⟩ hR, hnm, c5 _ hin⟩ ⟨ab_P.blind, ab_pre hCC hH⟩ rfl (by rw [List.length_map]; exact has) hL rfl hW hd ⟨hcl, hsl2⟩
  · exact va_runIN (Ts := aa_BW) (host := host) ⟨c1, c2, c3, c4, c5⟩ hMet ⟨va_cnB n c5 hg3 rfl rfl rfl (ab_nst c10 hlk) (c5 _ e4) ⟨e5.1, e5.2, e6⟩ hR, hnm, c5 _ hin⟩ ⟨ab_P.blind, ab_pre hCC hH⟩ rfl (by rw [List.length_map]; exact has) hL rfl hW hd ⟨hcl, hsl2⟩
theorem cj_init {G : ab_G} {ST : aa_St} {l : Launch} {d mm pc m' n ix b : Nat} {M M' : ac_R} {lo : aa_Lo} {as r : List Value} {sk sk1 skr : aa_Sk} {V V1 : aa_V} {K : aa_K} (hM : ac_M mm = some M) (hd : decode M.2.1 pc = .ok (.invokespecial ix, 3)) (hce : ac_ce m' n M') (hlk : ac_lk M.1.cls ix M'.1) (hin : Cond.instanceMethod M'.1 ∈ aa_BW) (hnm : M'.1.name = "<init>") (hrt : M'.2.2.2 = none) (has : as.length = n) (hcs : aa_cat r ≤ 8) (hca : aa_cat as + 1 ≤ M'.2.2.1) (hmx : M'.2.2.1 ≤ 21)
    (hu : ab_u sk ≤ ab_u sk1) (hus : ab_us sk ≤ ab_us sk1) (hwf : aa_wf sk → aa_wf sk1) (hsl : sk.length ≤ 1000000 → sk1.length ≤ 1000000) (hu2 : ab_u sk1 ≤ ab_u skr) (hus2 : ab_us sk1 ≤ ab_us skr)
    (hJ : ab_J G ST l d m' 0 (ab_en0 m' (.ref b :: as)) [] sk V sk1 (fun r' V' => r' = none ∧ V' = V1)) (h : ab_J G ST l (d + 1) mm (pc + 3) lo r sk1 V1 skr K) : ab_J G ST l (d + 1) mm pc lo (as.reverse ++ .ref b :: r) sk V skr K := by
  intro Mx p e R s m args below meth c Qw H locs cells slots ls hM' hC hH hL hc hs hret
  cases hM.symm.trans hM'
  have hrun := cj_run (e := e) (below := below) (cells := cells) (slots := slots) hC hH hL.1 hd hce hlk hin hnm hrt has hcs hca hu hus (hwf hH.2.2.2.2) (hsl hH.2.2.2.1) (by omega) (by omega) hmx hJ
  rw [List.map_append, List.map_reverse]
  refine ab_after hrun hH hC.2.2.2.2.2.2.2.2.2.2.2.2.1 (hwf hH.2.2.2.2) (hsl hH.2.2.2.1) (fun res V' H1 locs1 hK hH1 => ?_)
  obtain ⟨rfl, rfl⟩ := hK
  exact h M p e R s m args below meth c Qw H1 locs1 _ _ ls hM hC hH1 hL ⟨by omega, hu2⟩ ⟨by omega, hus2⟩ hret
