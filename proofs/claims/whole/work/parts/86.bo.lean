/-! the computing machine: what makes cells -/
def bz_ap : bz_M → bz_M → (bz_M → bz_S) → bz_S
  | [], l, k => k l
  | x :: t, l, k => bz_ap t l (fun t' => k (x :: t'))
theorem bz_ap_eq : ∀ (M l : bz_M) (k : bz_M → bz_S), bz_ap M l k = k (M ++ l)
  | [], l, k => rfl
  | x :: t, l, k => bz_ap_eq t l (fun t' => k (x :: t'))
theorem bz_sk_app {M N : bz_M} : bz_sk (M ++ N) = bz_sk M ++ bz_sk N := List.map_append
theorem bz_sk_len {M : bz_M} : (bz_sk M).length = M.length := List.length_map _
theorem bz_nth0 (j : Nat) : aa_nth [] j = 0 := by cases j <;> rfl
theorem bz_V_ap {M : bz_M} {k n : Nat} {rs : List Nat} : bz_V (M ++ [(k, n, rs, [])]) = cj_z (bz_V M) M.length := by
  funext b j
  unfold cj_z bz_V
  rcases Nat.lt_trichotomy b M.length with q | q | q
  · rw [if_neg (by omega), List.getElem?_append_left q]
  · subst q
    rw [if_pos rfl, List.getElem?_append_right (Nat.le_refl _), Nat.sub_self]
    show nI (aa_nth [] j) = 0
    rw [bz_nth0]
    exact nI_0
  · rw [if_neg (by omega), List.getElem?_eq_none (by rw [List.length_append]; show M.length + 1 ≤ b; omega), List.getElem?_eq_none (by omega)]
theorem bz_gr_ap {M : bz_M} {c : bz_c} (hl : M.length < 151) (hc : (c.1 < 100 → ∃ r : vw_C, vwCl[c.1]? = some r ∧ r.2.2 = c.2.1) ∧ c.1 < 104) : bz_gr M (M ++ [c]) := by
  have e : bz_sk (M ++ [c]) = bz_sk M ++ [(c.1, c.2.1, c.2.2.1)] := bz_sk_app
  unfold bz_gr
  rw [e]
  refine ⟨⟨by rw [cj_u]; omega, by rw [cj_us]; omega⟩, fun h => cj_wf h hc, fun _ => ?_⟩
  rw [List.length_append, bz_sk_len]
  show M.length + 1 ≤ 1000000
  omega
def bz_new (ci n nx : Nat) : bz_Op := fun _ _ lo st M => match Nat.blt M.length 151 with
  | true => bz_f M.length (fun a => bz_ap M [(ci, n, List.replicate n 0, [])] (fun M' => some (.inl (nx, lo, .inr (.inl a) :: st, M'))))
  | false => none
theorem bo_new {mm pc ci n ix nx : Nat} {M : ac_R} {q : vw_C} {ty0 : Nat → FieldType} (hM : ac_M mm = some M) (hd : decode M.2.1 pc = .ok (.new ix, 3)) (hnx : pc + 3 = nx) (hq : vwCl[ci]? = some q) (hn : q.2.2 = n) (hin : ∀ w ∈ u_ws q.1 q.2.1 q.2.2, w ∈ aa_BW)
    (hty : ∀ k, k < q.2.2 → parseFieldDescriptor (q.2.1 k).2.2.1 = some (ty0 k)) (hdf : ∀ j, j < n → defaultValue (ty0 j) = if aa_fk ci j = 0 then .int 0 else .null) (hcl : Cond.classLink M.1.cls ix q.1 ∈ aa_BW) (hins : Cond.instantiable q.1 q.2.2 ∈ aa_BW) (hini : Cond.initialized q.1 ∈ aa_BW) (hci : ci < 100) : bz_ok false mm pc (bz_new ci n nx) := by
  intro G L xs l d ev ey hev hey lo st Mm
  unfold bz_new
  split
  · rename_i hb
    have hl := bz_lt hb
    rw [bz_f_eq, bz_ap_eq]
    have e1 : bz_sk (Mm ++ [(ci, n, List.replicate n 0, [])]) = bz_sk Mm ++ [(ci, n, List.replicate n 0)] := bz_sk_app
    have e2 : bz_V (Mm ++ [(ci, n, List.replicate n 0, [])]) = cj_z (bz_V Mm) (bz_sk Mm).length := by rw [bz_sk_len]; exact bz_V_ap
    refine ⟨bz_gr_ap hl ⟨fun _ => ⟨q, hq, hn⟩, by show ci < 104; omega⟩, fun z => absurd z Bool.false_ne_true, fun skr K u1 u2 hJ => ?_⟩
    subst hnx
    have u1' : ab_u (bz_sk (Mm ++ [(ci, n, List.replicate n 0, [])])) ≤ ab_u skr := u1
    have u2' : ab_us (bz_sk (Mm ++ [(ci, n, List.replicate n 0, [])])) ≤ ab_us skr := u2
    rw [e1, cj_u] at u1'
    rw [e1, cj_us] at u2'
    have hJ' : ab_J G (ac_ST L xs) l (d + 1) mm (pc + 3) (bz_lo lo) (.ref Mm.length :: bz_st st) (bz_sk (Mm ++ [(ci, n, List.replicate n 0, [])])) (bz_V (Mm ++ [(ci, n, List.replicate n 0, [])])) skr K := hJ
    rw [e1, e2, ← bz_sk_len (M := Mm)] at hJ'
    exact cj_newO hM hd hq hn hin hty hdf hcl hins hini hci (by rw [bz_sk_len]; exact hl) u1' u2' hJ'
  · exact True.intro
def bz_newa (kd nx : Nat) : bz_Op := fun _ _ lo st M => match st with
  | .inl n :: r => (match Nat.blt n 3000 && Nat.blt M.length 151 with
    | true => bz_f M.length (fun a => bz_ap M [(kd, n, [], [])] (fun M' => some (.inl (nx, lo, .inr (.inl a) :: r, M'))))
    | false => none)
  | _ => none
theorem bo_newI {mm pc nx : Nat} {M : ac_R} (hM : ac_M mm = some M) (hd : decode M.2.1 pc = .ok (.newarray .int, 2)) (hnx : pc + 2 = nx) (hw : Cond.arrayClass (newarray.typeOf .int) ∈ aa_BW) : bz_ok false mm pc (bz_newa 100 nx) := by
  intro G L xs l d ev ey hev hey lo st Mm
  unfold bz_newa
  split
  · rename_i n r
    split
    · rename_i hb
      obtain ⟨hb1, hb2⟩ := bz_and hb
      have hl := bz_lt hb2
      rw [bz_f_eq, bz_ap_eq]
      have e1 : bz_sk (Mm ++ [(100, n, [], [])]) = bz_sk Mm ++ [(100, n, [])] := bz_sk_app
      have e2 : bz_V (Mm ++ [(100, n, [], [])]) = cj_z (bz_V Mm) (bz_sk Mm).length := by rw [bz_sk_len]; exact bz_V_ap
      refine ⟨bz_gr_ap hl ⟨fun z => absurd z (by show ¬ 100 < 100; omega), by show 100 < 104; omega⟩, fun z => absurd z Bool.false_ne_true, fun skr K u1 u2 hJ => ?_⟩
      subst hnx
      have u1' : ab_u (bz_sk (Mm ++ [(100, n, [], [])])) ≤ ab_u skr := u1
      have u2' : ab_us (bz_sk (Mm ++ [(100, n, [], [])])) ≤ ab_us skr := u2
      rw [e1, cj_u] at u1'
      rw [e1, cj_us] at u2'
      have hJ' : ab_J G (ac_ST L xs) l (d + 1) mm (pc + 2) (bz_lo lo) (.ref Mm.length :: bz_st r) (bz_sk (Mm ++ [(100, n, [], [])])) (bz_V (Mm ++ [(100, n, [], [])])) skr K := hJ
      rw [e1, e2, ← bz_sk_len (M := Mm)] at hJ'
      exact cj_newI hM hd hw (bz_lt hb1) (by rw [bz_sk_len]; exact hl) u1' u2' hJ'
    · exact True.intro
  · exact True.intro
theorem bo_newB {mm pc nx : Nat} {M : ac_R} (hM : ac_M mm = some M) (hd : decode M.2.1 pc = .ok (.newarray .byte, 2)) (hnx : pc + 2 = nx) (hw : Cond.arrayClass (newarray.typeOf .byte) ∈ aa_BW) : bz_ok false mm pc (bz_newa 101 nx) := by
  intro G L xs l d ev ey hev hey lo st Mm
  unfold bz_newa
  split
  · rename_i n r
    split
    · rename_i hb
      obtain ⟨hb1, hb2⟩ := bz_and hb
      have hl := bz_lt hb2
      rw [bz_f_eq, bz_ap_eq]
      have e1 : bz_sk (Mm ++ [(101, n, [], [])]) = bz_sk Mm ++ [(101, n, [])] := bz_sk_app
      have e2 : bz_V (Mm ++ [(101, n, [], [])]) = cj_z (bz_V Mm) (bz_sk Mm).length := by rw [bz_sk_len]; exact bz_V_ap
      refine ⟨bz_gr_ap hl ⟨fun z => absurd z (by show ¬ 101 < 100; omega), by show 101 < 104; omega⟩, fun z => absurd z Bool.false_ne_true, fun skr K u1 u2 hJ => ?_⟩
      subst hnx
      have u1' : ab_u (bz_sk (Mm ++ [(101, n, [], [])])) ≤ ab_u skr := u1
      have u2' : ab_us (bz_sk (Mm ++ [(101, n, [], [])])) ≤ ab_us skr := u2
      rw [e1, cj_u] at u1'
      rw [e1, cj_us] at u2'
      have hJ' : ab_J G (ac_ST L xs) l (d + 1) mm (pc + 2) (bz_lo lo) (.ref Mm.length :: bz_st r) (bz_sk (Mm ++ [(101, n, [], [])])) (bz_V (Mm ++ [(101, n, [], [])])) skr K := hJ
      rw [e1, e2, ← bz_sk_len (M := Mm)] at hJ'
      exact cj_newB hM hd hw (bz_lt hb1) (by rw [bz_sk_len]; exact hl) u1' u2' hJ'
    · exact True.intro
  · exact True.intro
def bz_newq (nx : Nat) : bz_Op := fun _ _ lo st M => match st with
  | .inl n :: r => (match Nat.blt n 3000 && Nat.blt M.length 151 with
    | true => bz_f M.length (fun a => bz_ap M [(102, n, List.replicate n 0, [])] (fun M' => some (.inl (nx, lo, .inr (.inl a) :: r, M'))))
    | false => none)
  | _ => none
theorem bo_newQ {mm pc nx ix : Nat} {M : ac_R} (hM : ac_M mm = some M) (hd : decode M.2.1 pc = .ok (.anewarray ix, 3)) (hnx : pc + 3 = nx) (hcl : Cond.classLink M.1.cls ix "FrameCounty$Text" ∈ aa_BW) : bz_ok false mm pc (bz_newq nx) := by
  intro G L xs l d ev ey hev hey lo st Mm
  unfold bz_newq
  split
  · rename_i n r
    split
    · rename_i hb
      obtain ⟨hb1, hb2⟩ := bz_and hb
      have hl := bz_lt hb2
      rw [bz_f_eq, bz_ap_eq]
      have e1 : bz_sk (Mm ++ [(102, n, List.replicate n 0, [])]) = bz_sk Mm ++ [(102, n, List.replicate n 0)] := bz_sk_app
      have e2 : bz_V (Mm ++ [(102, n, List.replicate n 0, [])]) = cj_z (bz_V Mm) (bz_sk Mm).length := by rw [bz_sk_len]; exact bz_V_ap
      refine ⟨bz_gr_ap hl ⟨fun z => absurd z (by show ¬ 102 < 100; omega), by show 102 < 104; omega⟩, fun z => absurd z Bool.false_ne_true, fun skr K u1 u2 hJ => ?_⟩
      subst hnx
      have u1' : ab_u (bz_sk (Mm ++ [(102, n, List.replicate n 0, [])])) ≤ ab_u skr := u1
      have u2' : ab_us (bz_sk (Mm ++ [(102, n, List.replicate n 0, [])])) ≤ ab_us skr := u2
      rw [e1, cj_u] at u1'
      rw [e1, cj_us] at u2'
      have hJ' : ab_J G (ac_ST L xs) l (d + 1) mm (pc + 3) (bz_lo lo) (.ref Mm.length :: bz_st r) (bz_sk (Mm ++ [(102, n, List.replicate n 0, [])])) (bz_V (Mm ++ [(102, n, List.replicate n 0, [])])) skr K := hJ
      rw [e1, e2, ← bz_sk_len (M := Mm)] at hJ'
      exact cj_newQ hM hd hcl (bz_lt hb1) (by rw [bz_sk_len]; exact hl) u1' u2' hJ'
    · exact True.intro
  · exact True.intro
-- rows of rows
def bz_rs : Nat → Nat → (List Nat → bz_S) → bz_S
  | 0, _, k => k []
  | n + 1, s, k => bz_f s (fun s' => bz_rs n (Nat.succ s') (fun t => k (s' :: t)))
theorem bz_rs_eq : ∀ (n s : Nat) (k : List Nat → bz_S), bz_rs n s k = k ((List.range n).map (fun j => s + j))
  | 0, s, k => rfl
  | n + 1, s, k => by
    show bz_f s (fun s' => bz_rs n (Nat.succ s') (fun t => k (s' :: t))) = _
    rw [bz_f_eq, bz_rs_eq n (Nat.succ s), List.range_succ_eq_map, List.map_cons, List.map_map]
    congr 1
    congr 1
    apply List.map_congr_left
    intro j _
    show s.succ + j = s + (j + 1)
    omega
def bz_multi (nx : Nat) : bz_Op := fun _ _ lo st M => match st with
  | .inl k :: .inl n :: r => (match Nat.blt n 3000 && (Nat.blt k 3000 && Nat.ble (M.length + n + 1) 151) with
    | true => bz_f M.length (fun a => bz_rs n (a + 2) (fun rs => bz_ap M ((103, n, rs, []) :: List.replicate n (100, k, [], [])) (fun M' => some (.inl (nx, lo, .inr (.inl a) :: r, M')))))
    | false => none)
  | _ => none
theorem bz_mmV {M : bz_M} {n k : Nat} {rs : List Nat} : bz_V (M ++ ((103, n, rs, []) :: List.replicate n (100, k, [], []))) = cj_y (bz_V M) M.length := by
  funext b j
  unfold cj_y bz_V
  rcases Nat.lt_or_ge b M.length with q | q
  · rw [if_neg (by omega), List.getElem?_append_left q]
  · rw [if_pos q, List.getElem?_append_right q]
    cases hc : (((103, n, rs, []) :: List.replicate n (100, k, [], [])) : bz_M)[b - M.length]? with
    | none => rfl
    | some c =>
      have hm : c ∈ (103, n, rs, []) :: List.replicate n (100, k, ([] : List Nat), ([] : List Nat)) := List.mem_of_getElem? hc
      have h0 : c.2.2.2 = [] := by
        rcases List.mem_cons.mp hm with rfl | h
        · rfl
        · rw [List.eq_of_mem_replicate h]
      show nI (aa_nth c.2.2.2 j) = 0
      rw [h0, bz_nth0]
      exact nI_0
theorem bo_multi {mm pc nx ix : Nat} {M : ac_R} (hM : ac_M mm = some M) (hd : decode M.2.1 pc = .ok (.multianewarray ix 2, 4)) (hnx : pc + 4 = nx) (hcl : Cond.classLink M.1.cls ix ("[" ++ (FieldType.array .int).toString) ∈ aa_BW) (hw : Cond.arrayClass .int ∈ aa_BW) : bz_ok false mm pc (bz_multi nx) := by
  intro G L xs l d ev ey hev hey lo st Mm
  unfold bz_multi
  split
  · rename_i k n r
    split
    · rename_i hb
      obtain ⟨hb1, hb2⟩ := bz_and hb
      obtain ⟨hb2, hb3⟩ := bz_and hb2
      have hl := Nat.le_of_ble_eq_true hb3
      rw [bz_f_eq, bz_rs_eq, bz_ap_eq]
      have er : (List.range n).map (fun j => Mm.length + 2 + j) = cj_rs (bz_sk Mm).length n := by
        unfold cj_rs
        apply List.map_congr_left
        intro j _
        show Mm.length + 2 + j = (bz_sk Mm).length + 1 + j + 1
        rw [bz_sk_len]
        omega
      rw [er]
      generalize hN : Mm ++ ((103, n, cj_rs (bz_sk Mm).length n, []) :: List.replicate n (100, k, [], [])) = MM
      have e1 : bz_sk MM = bz_sk Mm ++ cj_mm (bz_sk Mm).length n k := by
        rw [← hN, bz_sk_app]
        have er2 : bz_sk (List.replicate n (100, k, [], [])) = List.replicate n (100, k, []) := List.map_replicate
        show bz_sk Mm ++ ((103, n, cj_rs (bz_sk Mm).length n) :: bz_sk (List.replicate n (100, k, [], []))) = bz_sk Mm ++ ((103, n, cj_rs (bz_sk Mm).length n) :: List.replicate n (100, k, []))
        rw [er2]
      have e2 : bz_V MM = cj_y (bz_V Mm) (bz_sk Mm).length := by rw [← hN, bz_mmV, bz_sk_len]
      have hus2 : ab_us (bz_sk MM) = ab_us (bz_sk Mm) + n + n * k := by
        rw [e1, cj_us_app]
        show ab_us (bz_sk Mm) + (n + ab_us (List.replicate n (100, k, []))) = _
        rw [cj_us_rep]
        omega
      have hlen : (bz_sk MM).length = (bz_sk Mm).length + 1 + n := by
        rw [e1, List.length_append, cj_mm_len]
        omega
      have hu2 : ab_u (bz_sk MM) = ab_u (bz_sk Mm) + 1 + n := hlen
      refine ⟨⟨⟨by show ab_u (bz_sk Mm) ≤ ab_u (bz_sk MM); omega, by show ab_us (bz_sk Mm) ≤ ab_us (bz_sk MM); omega⟩, fun h => by show aa_wf (bz_sk MM); rw [e1]; exact cj_mm_wf h, fun _ => by show (bz_sk MM).length ≤ 1000000; rw [hlen, bz_sk_len]; omega⟩, fun z => absurd z Bool.false_ne_true, fun skr K u1 u2 hJ => ?_⟩
      subst hnx
      have u1' : ab_u (bz_sk MM) ≤ ab_u skr := u1
      have u2' : ab_us (bz_sk MM) ≤ ab_us skr := u2
      rw [hu2] at u1'
      rw [hus2] at u2'
      have hJ' : ab_J G (ac_ST L xs) l (d + 1) mm (pc + 4) (bz_lo lo) (.ref Mm.length :: bz_st r) (bz_sk MM) (bz_V MM) skr K := hJ
      rw [e1, e2, ← bz_sk_len (M := Mm)] at hJ'
      exact cj_multi hM hd hcl hw (bz_lt hb1) (bz_lt hb2) (by rw [bz_sk_len]; exact hl) u1' u2' hJ'
    · exact True.intro
  · exact True.intro
-- final fields
def bz_ss : List Nat → Nat → Nat → (List Nat → bz_S) → bz_S
  | [], _, _, k => k []
  | _ :: t, 0, x, k => k (x :: t)
  | y :: t, n + 1, x, k => bz_ss t n x (fun t' => k (y :: t'))
theorem bz_ss_eq : ∀ (l : List Nat) (i x : Nat) (k : List Nat → bz_S), bz_ss l i x k = k (l.set i x)
  | [], i, x, k => rfl
  | y :: t, 0, x, k => rfl
  | y :: t, n + 1, x, k => bz_ss_eq t n x (fun t' => k (y :: t'))
theorem bz_seta {M : bz_M} {a : Nat} {c : bz_c} {rs : List Nat} (h : bz_at M a = some c) : bz_sk (M.set a (c.1, c.2.1, rs, c.2.2.2)) = (bz_sk M).set a (c.1, c.2.1, rs) ∧ bz_V (M.set a (c.1, c.2.1, rs, c.2.2.2)) = bz_V M := by
  refine ⟨List.map_set, ?_⟩
  have hl := bz_at_lt h
  rw [bz_at_eq] at h
  funext b k
  unfold bz_V
  rw [List.getElem?_set]
  by_cases q : a = b
  · subst q
    rw [if_pos rfl, if_pos hl, h]
    try rfl
  · rw [if_neg q]
theorem bz_gr_set {M : bz_M} {a : Nat} {c : bz_c} {rs : List Nat} (h : bz_at M a = some c) : bz_gr M (M.set a (c.1, c.2.1, rs, c.2.2.2)) := by
  have hs := bz_sh h
  unfold bz_gr
  rw [(bz_seta (rs := rs) h).1, cj_u_set, cj_us_set (c' := (c.1, c.2.1, rs)) hs rfl, List.length_set]
  refine ⟨⟨Nat.le_refl _, Nat.le_refl _⟩, fun hw b x hb => ?_, id⟩
  rw [cj_shs hs] at hb
  by_cases q : b = a
  · rw [if_pos q] at hb
    cases hb
    have h9 := hw a (c.1, c.2.1, c.2.2.1) hs
    exact h9
  · rw [if_neg q] at hb
    exact hw b x hb
def bz_putF (ci k nx : Nat) : bz_Op := fun _ _ lo st M => match st with
  | .inr (.inl x) :: .inr (.inl a) :: r => (match bz_at M a with
    | some (c, n, rs, is) => (match Nat.beq c ci && Nat.blt k rs.length with
      | true => bz_ss rs k (Nat.succ x) (fun rs' => bz_put M a (c, n, rs', is) (fun M' => some (.inl (nx, lo, r, M'))))
      | false => none)
    | none => none)
  | _ => none
theorem bo_putF {mm pc nx ix ci k : Nat} {M : ac_R} (hM : ac_M mm = some M) (hd : decode M.2.1 pc = .ok (.putfield ix, 3)) (hnx : pc + 3 = nx) (hf : ac_fd M ix ci k 1) (hp : ac_pF M ci k) : bz_ok false mm pc (bz_putF ci k nx) := by
  intro G L xs l d ev ey hev hey lo st Mm
  unfold bz_putF
  split
  · rename_i x a r
    split
    · rename_i c n rs is h
      split
      · rename_i hb
        obtain ⟨hb1, hb2⟩ := bz_and hb
        have e := Nat.eq_of_beq_eq_true hb1
        subst e
        rw [bz_ss_eq, bz_put_eq Mm a _ _ (bz_at_lt h)]
        have e1 := (bz_seta (rs := rs.set k (x + 1)) h).1
        have e2 := (bz_seta (rs := rs.set k (x + 1)) h).2
        refine ⟨bz_gr_set (c := (c, n, rs, is)) h, fun z => absurd z Bool.false_ne_true, fun skr K u1 u2 hJ => ?_⟩
        subst hnx
        have hJ' : ab_J G (ac_ST L xs) l (d + 1) mm (pc + 3) (bz_lo lo) (bz_st r) (bz_sk (Mm.set a (c, n, rs.set k (x + 1), is))) (bz_V (Mm.set a (c, n, rs.set k (x + 1), is))) skr K := hJ
        have e1' : bz_sk (Mm.set a (c, n, rs.set k (x + 1), is)) = (bz_sk Mm).set a (c, n, rs.set k (x + 1)) := e1
        have e2' : bz_V (Mm.set a (c, n, rs.set k (x + 1), is)) = bz_V Mm := e2
        rw [e1', e2'] at hJ'
        exact cj_putF hM hd hf hp (bz_sh h) (bz_lt hb2) hJ'
      · exact True.intro
    · exact True.intro
  · exact True.intro
def bz_aast (nx : Nat) : bz_Op := fun _ _ lo st M => match st with
  | .inr (.inl x) :: .inl i :: .inr (.inl a) :: r => (match bz_at M a with
    | some (c, n, rs, is) => (match (Nat.beq c 102 && Nat.blt i rs.length) && (Nat.blt i n && Nat.blt n 3000) with
      | true => (match bz_at M x with
        | some (c2, _, _, _) => (match Nat.beq c2 6 with
          | true => bz_ss rs i (Nat.succ x) (fun rs' => bz_put M a (c, n, rs', is) (fun M' => some (.inl (nx, lo, r, M'))))
          | false => none)
        | none => none)
      | false => none)
    | none => none)
  | _ => none
theorem bo_aast {mm pc nx : Nat} {M : ac_R} (hM : ac_M mm = some M) (hd : decode M.2.1 pc = .ok (.aastore, 1)) (hnx : pc + 1 = nx) : bz_ok false mm pc (bz_aast nx) := by
  intro G L xs l d ev ey hev hey lo st Mm
  unfold bz_aast
  split
  · rename_i x i a r
    split
    · rename_i c n rs is h
      split
      · rename_i hb
        obtain ⟨hb, hb3⟩ := bz_and hb
        obtain ⟨hb1, hb2⟩ := bz_and hb
        obtain ⟨hb3, hb4⟩ := bz_and hb3
        split
        · rename_i c2 n2 rs2 is2 h2
          split
          · rename_i hb5
            have e := Nat.eq_of_beq_eq_true hb1
            subst e
            have e := Nat.eq_of_beq_eq_true hb5
            subst e
            rw [bz_ss_eq, bz_put_eq Mm a _ _ (bz_at_lt h)]
            have e1 : bz_sk (Mm.set a (102, n, rs.set i (x + 1), is)) = (bz_sk Mm).set a (102, n, rs.set i (x + 1)) := (bz_seta (rs := rs.set i (x + 1)) h).1
            have e2 : bz_V (Mm.set a (102, n, rs.set i (x + 1), is)) = bz_V Mm := (bz_seta (rs := rs.set i (x + 1)) h).2
            refine ⟨bz_gr_set (c := (102, n, rs, is)) h, fun z => absurd z Bool.false_ne_true, fun skr K u1 u2 hJ => ?_⟩
            subst hnx
            have hJ' : ab_J G (ac_ST L xs) l (d + 1) mm (pc + 1) (bz_lo lo) (bz_st r) (bz_sk (Mm.set a (102, n, rs.set i (x + 1), is))) (bz_V (Mm.set a (102, n, rs.set i (x + 1), is))) skr K := hJ
            rw [e1, e2] at hJ'
            exact cj_aast hM hd (bz_sh h) (bz_sh h2) (bz_lt hb3) (bz_lt hb4) (bz_lt hb2) hJ'
          · exact True.intro
        · exact True.intro
      · exact True.intro
    · exact True.intro
  · exact True.intro
-- constructors' calls
def bz_obj (nx : Nat) : bz_Op := fun _ _ lo st M => match st with
  | .inr (.inl _) :: r => (match Nat.ble r.length 8 with
    | true => some (.inl (nx, lo, r, M))
    | false => none)
  | _ => none
theorem bo_obj {mm pc nx ix : Nat} {M : ac_R} (hM : ac_M mm = some M) (hd : decode M.2.1 pc = .ok (.invokespecial ix, 3)) (hnx : pc + 3 = nx) (hlk : Cond.methodLink M.1.cls ix Lib.objectInit ∈ aa_BW) (hin : Cond.instanceMethod Lib.objectInit ∈ aa_BW) (hcd : Cond.code Lib.objectInit ⟨#[0xb1]⟩ 1 none ∈ aa_BW) : bz_ok false mm pc (bz_obj nx) := by
  intro G L xs l d ev ey hev hey lo st Mm
  unfold bz_obj
  split
  · rename_i a r
    split
    · rename_i hb
      subst hnx
      exact ⟨bz_gr.same rfl, fun _ => rfl, fun skr K u1 u2 hJ => cj_obj hM hd hlk hin hcd (by rw [bz_cat]; exact Nat.le_of_ble_eq_true hb) hJ⟩
    · exact True.intro
  · exact True.intro
def bz_init (m n nl nx : Nat) : bz_Op := fun _ ey lo st M => match bz_pp n st [] with
  | some (as, .inr (.inl b) :: r) => (match Nat.ble r.length 8 && Nat.ble (as.length + 1) nl with
    | true => (match ey m (.inr (.inl b) :: as) M with
      | some (none, M') => some (.inl (nx, lo, r, M'))
      | _ => none)
    | false => none)
  | _ => none
theorem bo_init {mm pc nx ix m n nl : Nat} {M M' : ac_R} (hM : ac_M mm = some M) (hd : decode M.2.1 pc = .ok (.invokespecial ix, 3)) (hnx : pc + 3 = nx) (hce : ac_ce m n M') (hlk : ac_lk M.1.cls ix M'.1) (hin : Cond.instanceMethod M'.1 ∈ aa_BW) (hnm : M'.1.name = "<init>") (hrt : M'.2.2.2 = none) (hnl : M'.2.2.1 = nl) (hmx : nl ≤ 21) : bz_ok false mm pc (bz_init m n nl nx) := by
  intro G L xs l d ev ey hev hey lo st Mm
  unfold bz_init
  split
  · rename_i as b r hp
    split
    · rename_i hb
      obtain ⟨hb1, hb2⟩ := bz_and hb
      split
      · rename_i M2 hS
        obtain ⟨g1, -, g3⟩ := hey m _ Mm M2 none hS
        refine ⟨g1, fun z => absurd z Bool.false_ne_true, fun skr K u1 u2 hJ => ?_⟩
        subst hnx
        have h9 := aa_pop_eq n (bz_st st) [] _ _ (bz_pp_eq n st [] as _ hp)
        have hst : bz_st st = (bz_st as).reverse ++ .ref b :: bz_st r := h9.1.symm
        have hlen : (bz_st as).length = n := h9.2
        show ab_J G (ac_ST L xs) l (d + 1) mm pc (bz_lo lo) (bz_st st) (bz_sk Mm) (bz_V Mm) skr K
        rw [hst]
        exact cj_init hM hd hce hlk hin hnm hrt hlen (by rw [bz_cat]; exact Nat.le_of_ble_eq_true hb1) (by rw [bz_cat, hnl]; exact Nat.le_of_ble_eq_true hb2) (by rw [hnl]; exact hmx) g1.1.1 g1.1.2 g1.2.1 g1.2.2 u1 u2 (g3 (fun r' V' => r' = none ∧ V' = bz_V M2) ⟨rfl, rfl⟩) hJ
      · exact True.intro
    · exact True.intro
  · exact True.intro
