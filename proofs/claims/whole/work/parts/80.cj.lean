/-! constructors: the list of cells grows -/
theorem cj_ws {G : ab_G} {sk : aa_Sk} {V V' : aa_V} {c : aa_Ce} (h : ∀ k, k < sk.length → V' k = V k) : ab_ws G (sk ++ [c]) V' = ab_ws G sk V ++ [(G.1 + sk.length, ab_en G (V' sk.length) c)] := by
  unfold ab_ws
  apply List.ext_getElem?
  intro k
  rw [List.getElem?_mapIdx]
  rcases Nat.lt_trichotomy k sk.length with q | q | q
  · rw [List.getElem?_append_left q, List.getElem?_append_left (by rw [List.length_mapIdx]; exact q), List.getElem?_mapIdx, h k q]
  · subst q
    rw [List.getElem?_append_right (Nat.le_refl _), List.getElem?_append_right (by rw [List.length_mapIdx]; exact Nat.le_refl _), List.length_mapIdx, Nat.sub_self]
    rfl
  · rw [List.getElem?_eq_none (by rw [List.length_append]; show sk.length + 1 ≤ k; omega), List.getElem?_eq_none (by rw [List.length_append, List.length_mapIdx]; show sk.length + 1 ≤ k; omega)]
    rfl
theorem cj_us {sk : aa_Sk} {c : aa_Ce} : ab_us (sk ++ [c]) = ab_us sk + c.2.1 := by
  induction sk with
  | nil => show c.2.1 + 0 = 0 + c.2.1; omega
  | cons a t ih =>
    show a.2.1 + ab_us (t ++ [c]) = a.2.1 + ab_us t + c.2.1
    omega
theorem cj_u {sk : aa_Sk} {c : aa_Ce} : ab_u (sk ++ [c]) = ab_u sk + 1 := by
  show (sk ++ [c]).length = sk.length + 1
  rw [List.length_append]
  rfl
theorem cj_wf {sk : aa_Sk} {c : aa_Ce} (h : aa_wf sk) (hc : (c.1 < 100 → ∃ r : vw_C, vwCl[c.1]? = some r ∧ r.2.2 = c.2.1) ∧ c.1 < 104) : aa_wf (sk ++ [c]) := by
  have sh : ∀ (l : aa_Sk) (a : Nat) (x : aa_Ce), aa_sh (l ++ [c]) a = some x → aa_sh l a = some x ∨ x = c := by
    intro l
    induction l with
    | nil =>
      intro a x hx
      cases a with
      | zero => exact Or.inr (Option.some.inj hx).symm
      | succ a => cases hx
    | cons b t ih =>
      intro a x hx
      cases a with
      | zero => exact Or.inl hx
      | succ a => exact ih a x hx
  intro a x hx
  rcases sh sk a x hx with q | q
  · exact h a x q
  · rw [q]; exact hc
def cj_z (V : aa_V) (a : Nat) : aa_V := fun b => if b = a then fun _ => 0 else V b
theorem cj_newI {G : ab_G} {ST : aa_St} {l : Launch} {d mm pc n : Nat} {M : ac_R} {lo : aa_Lo} {st : List Value} {sk skr : aa_Sk} {V : aa_V} {K : aa_K} (hM : ac_M mm = some M) (hd : decode M.2.1 pc = .ok (.newarray .int, 2)) (hw : Cond.arrayClass (newarray.typeOf .int) ∈ aa_BW) (hn : n < 3000) (hl : sk.length < 151) (hu : ab_u sk + 1 ≤ ab_u skr) (hus : ab_us sk + n ≤ ab_us skr)
    (h : ab_J G ST l d mm (pc + 2) lo (.ref sk.length :: st) (sk ++ [(100, n, [])]) (cj_z V sk.length) skr K) : ab_J G ST l d mm pc lo (.int (nI n) :: st) sk V skr K := by
  intro M' p e R s m args below meth c Qw H locs cells slots ls hM' hC hH hL hc hs hret
  cases hM.symm.trans hM'
  obtain ⟨c1, c2, c3, c4, c5, c6, c7, c8, c9, c10, c11, c12, c13, hN⟩ := id hC
  obtain ⟨h1, h2, h3, h4, h5⟩ := hH
  have hsz : H.size = G.1 + sk.length := h1 hl
  refine va_newaK c1 c2 (c5 _ hw) rfl hd rfl (nI_n0 (by omega)) (zz_ix (by omega)) (by show n * 4 ≤ 536870912; omega) (by omega) (by omega) rfl fun H1 cA e1 z1 o1 hAr hNm => ?_
  have hcA : cA = ab_cy G 0 := Option.some.inj (hNm.symm.trans hN.1.1)
  subst hcA
  have hk : ∀ (k : Nat) (x : Nat × va_E), (ab_ws G sk V)[k]? = some x → H1[x.1]? = H[x.1]? := fun k x hx => o1 x.1 ((h2 k x hx).lt)
  have eV : ∀ k, k < sk.length → cj_z V sk.length k = V k := fun k q => if_neg (by omega)
  have hH1 : ab_H G (sk ++ [(100, n, [])]) (cj_z V sk.length) s H1 locs := by
    refine ⟨fun _ => ?_, ?_, ⟨Nat.le_trans h3.1 (by omega), fun x a b => (o1 x (Nat.lt_of_lt_of_le a h3.1)).trans (h3.2.1 x a b), h3.2.2⟩, ?_, cj_wf h5 ⟨fun q => by exact absurd q (by show ¬ 100 < 100; omega), by show 100 < 104; omega⟩⟩
    · rw [z1, hsz, List.length_append]; rfl
    · rw [cj_ws eV]
      refine (h2.kept hk).app (fun k x hx => ?_)
      have hz : k < 1 := (List.getElem?_eq_some_iff.mp hx).1
      rw [show k = 0 by omega] at hx
      cases hx
      show H1[G.1 + sk.length]? = _
      rw [← hsz, e1]
      show _ = some (vp_cell (ab_cy G 0) (n, .inl (cj_z V sk.length sk.length)))
      rw [show cj_z V sk.length sk.length = fun _ => 0 from if_pos rfl]
      rfl
    · rw [List.length_append]; show sk.length + 1 ≤ 1000000; omega
  have key := h M p e R s m args below meth c Qw H1 locs (cells + 1) (slots + n) ls hM hC hH1 hL ⟨by rw [cj_u]; omega, by rw [cj_u]; omega⟩ ⟨by rw [cj_us]; show slots + n + ab_us skr ≤ R.slots + (ab_us sk + n); omega, by rw [cj_us]; exact hus⟩ hret
  have ev : ab_v G (.ref sk.length) = .ref H.size := by
    show Value.ref (ab_ad G sk.length) = _
    rw [show ab_ad G sk.length = G.1 + sk.length from if_pos (by omega), hsz]
  rw [List.map_cons, ev] at key
  exact key
theorem cj_newB {G : ab_G} {ST : aa_St} {l : Launch} {d mm pc n : Nat} {M : ac_R} {lo : aa_Lo} {st : List Value} {sk skr : aa_Sk} {V : aa_V} {K : aa_K} (hM : ac_M mm = some M) (hd : decode M.2.1 pc = .ok (.newarray .byte, 2)) (hw : Cond.arrayClass (newarray.typeOf .byte) ∈ aa_BW) (hn : n < 3000) (hl : sk.length < 151) (hu : ab_u sk + 1 ≤ ab_u skr) (hus : ab_us sk + n ≤ ab_us skr)
    (h : ab_J G ST l d mm (pc + 2) lo (.ref sk.length :: st) (sk ++ [(101, n, [])]) (cj_z V sk.length) skr K) : ab_J G ST l d mm pc lo (.int (nI n) :: st) sk V skr K := by
  intro M' p e R s m args below meth c Qw H locs cells slots ls hM' hC hH hL hc hs hret
  cases hM.symm.trans hM'
  obtain ⟨c1, c2, c3, c4, c5, c6, c7, c8, c9, c10, c11, c12, c13, hN⟩ := id hC
  obtain ⟨h1, h2, h3, h4, h5⟩ := hH
  have hsz : H.size = G.1 + sk.length := h1 hl
  refine va_newaK c1 c2 (c5 _ hw) rfl hd rfl (nI_n0 (by omega)) (zz_ix (by omega)) (by show n * 1 ≤ 536870912; omega) (by omega) (by omega) rfl fun H1 cA e1 z1 o1 hAr hNm => ?_
  have hcA : cA = ab_cy G 1 := Option.some.inj (hNm.symm.trans hN.1.2)
  subst hcA
  have hk : ∀ (k : Nat) (x : Nat × va_E), (ab_ws G sk V)[k]? = some x → H1[x.1]? = H[x.1]? := fun k x hx => o1 x.1 ((h2 k x hx).lt)
  have eV : ∀ k, k < sk.length → cj_z V sk.length k = V k := fun k q => if_neg (by omega)
  have hH1 : ab_H G (sk ++ [(101, n, [])]) (cj_z V sk.length) s H1 locs := by
    refine ⟨fun _ => ?_, ?_, ⟨Nat.le_trans h3.1 (by omega), fun x a b => (o1 x (Nat.lt_of_lt_of_le a h3.1)).trans (h3.2.1 x a b), h3.2.2⟩, ?_, cj_wf h5 ⟨fun q => by exact absurd q (by show ¬ 101 < 100; omega), by show 101 < 104; omega⟩⟩
    · rw [z1, hsz, List.length_append]; rfl
    · rw [cj_ws eV]
      refine (h2.kept hk).app (fun k x hx => ?_)
      have hz : k < 1 := (List.getElem?_eq_some_iff.mp hx).1
      rw [show k = 0 by omega] at hx
      cases hx
      show H1[G.1 + sk.length]? = _
      rw [← hsz, e1]
      show _ = some (vp_cell (ab_cy G 1) (n, .inl (cj_z V sk.length sk.length)))
      rw [show cj_z V sk.length sk.length = fun _ => 0 from if_pos rfl]
      rfl
    · rw [List.length_append]; show sk.length + 1 ≤ 1000000; omega
  have key := h M p e R s m args below meth c Qw H1 locs (cells + 1) (slots + n) ls hM hC hH1 hL ⟨by rw [cj_u]; omega, by rw [cj_u]; omega⟩ ⟨by rw [cj_us]; show slots + n + ab_us skr ≤ R.slots + (ab_us sk + n); omega, by rw [cj_us]; exact hus⟩ hret
  have ev : ab_v G (.ref sk.length) = .ref H.size := by
    show Value.ref (ab_ad G sk.length) = _
    rw [show ab_ad G sk.length = G.1 + sk.length from if_pos (by omega), hsz]
  rw [List.map_cons, ev] at key
  exact key
