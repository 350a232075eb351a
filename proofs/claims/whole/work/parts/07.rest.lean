/-! rows of references, lengths, statics, Strings, switches, arraycopy -/
theorem as_ar_ {mm pc : Nat} {M : ac_R} (hM : ac_M mm = some M) {kd nx : Nat} (hkd : kd = 102 ∨ kd = 103) (hd : decode M.2.1 pc = .ok (.aaload, 1)) (hn : pc + 1 = nx) : ab_Snd mm pc (aa_ar_ kd nx) := by
  intro G ST l d lo st sk V skr K ret go hrt h hk M' p e R s m args below meth c Qw H locs cells slots ls hM' hC hH hL hc hs hret
  cases hM.symm.trans hM'
  subst hn
  cases st with
  | nil => exact h.elim
  | cons v st =>
    cases v with
    | int i =>
      cases st with
      | nil => exact h.elim
      | cons v st =>
        cases v with
        | ref a =>
          obtain ⟨n, rs, q, hsa, hin, hq, h⟩ := h
          have kk := hk _ _ _ _ h M p e R s m args below meth c Qw H locs cells slots ls hM hC hH hL hc hs hret
          obtain ⟨c1, c2, c3, c4, c5, c6, c7, c8, c9, c10, c11, c12, c13⟩ := hC
          have hg := ab_ws_get (G := G) (V := V) hsa
          have had := hH.lt hsa
          have hlt : i.toNatClampNeg < n := Nat.not_le.mp fun q => hin (Or.inr q)
          show W p l e R s m args below meth c H locs cells slots Qw (F0 m pc ls (.int i :: .ref (ab_ad G a) :: st.map (ab_v G)))
          rw [had]
          have hv : ∀ cA : ClassId, (arrV cA n (fun j => va_rf (ab_rf G (aa_nth rs j)))).slots[i.toNatClampNeg]? = some (.ref (ab_ad G q)) := fun cA => by
            rw [arrV_read _ _ hlt, hq]
            rfl
          rcases hkd with rfl | rfl
          · rw [ab_en_r (by show ¬ (102 : Nat) < 102; omega)] at hg
            exact W.aald (v := .ref (ab_ad G q)) (ty := .object "FrameCounty$Text") c1 c2 (hH.2.1 a _ hg) ((c9.2 2 (ab_cy G 2, .object "FrameCounty$Text") rfl).1 n (fun j => va_rf (ab_rf G (aa_nth rs j)))) rfl (fun q => by cases q) (by show ¬ (i < 0 ∨ (arrV _ _ _).slots.size ≤ _); rw [arrV_size]; exact hin) (hv _) rfl rfl hd kk
          · rw [ab_en_r (by show ¬ (103 : Nat) < 102; omega)] at hg
            exact W.aald (v := .ref (ab_ad G q)) (ty := .array .int) c1 c2 (hH.2.1 a _ hg) ((c9.2 3 (ab_cy G 3, .array .int) rfl).1 n (fun j => va_rf (ab_rf G (aa_nth rs j)))) rfl (fun q => by cases q) (by show ¬ (i < 0 ∨ (arrV _ _ _).slots.size ≤ _); rw [arrV_size]; exact hin) (hv _) rfl rfl hd kk
        | _ => exact h.elim
    | _ => exact h.elim
/-- the type of a row, by its kind -/
theorem ab_tyk (G : ab_G) {k : Nat} (h1 : 100 ≤ k) (h2 : k < 104) : ∃ ty, (ab_ty G)[k - 100]? = some (ab_cy G (k - 100), ty) := by
  rcases (show k = 100 ∨ k = 101 ∨ k = 102 ∨ k = 103 by omega) with rfl | rfl | rfl | rfl <;> exact ⟨_, rfl⟩
theorem ab_en_a {G : ab_G} {W : Nat → Int32} {c : aa_Ce} (h : 100 ≤ c.1) : ∃ x, ab_en G W c = .inl (ab_cy G (c.1 - 100), c.2.1, x) := by
  by_cases h2 : c.1 < 102
  · exact ⟨_, ab_en_i (by omega) h2⟩
  · exact ⟨_, ab_en_r h2⟩
theorem ab_lenv {G : ab_G} {ST : aa_St} {d pc kd a n : Nat} {M : ac_R} {p : Program} {l : Launch} {e : Env} {R : Room} {s : State} {m : MethodId} {args : Array Value} {below : List Frame} {meth : Method} {c : Code} {Qw : State → Prop} {H : Heap} {locs : List Loc} {cells slots : Nat} {ls : Array Slot} {sk : aa_Sk} {V : aa_V} {rs : List Nat} {st : List Value}
    (hC : ab_C G ST d M p R s m args meth c) (hH : ab_H G sk V s H locs) (hs : aa_sh sk a = some (kd, n, rs)) (hk : 100 ≤ kd) (hd : decode M.2.1 pc = .ok (.arraylength, 1))
    (kk : W p l e R s m args below meth c H locs cells slots Qw (F0 m (pc + 1) ls (.int (nI n) :: st))) : W p l e R s m args below meth c H locs cells slots Qw (F0 m pc ls (.ref (ab_ad G a) :: st)) := by
  obtain ⟨c1, c2, c3, c4, c5, c6, c7, c8, c9, c10, c11, c12, c13⟩ := hC
  rw [hH.lt hs]
  have hg := ab_ws_get (G := G) (V := V) hs
  obtain ⟨x, hx⟩ := ab_en_a (G := G) (W := V a) (c := (kd, n, rs)) hk
  rw [hx] at hg
  obtain ⟨ty, hty⟩ := ab_tyk G hk (hH.2.2.2.2 a _ hs).2
  exact va_alen c1 c2 c9 hH.2.1 a (kd - 100) hg hty rfl hd kk
theorem as_len {mm pc : Nat} {M : ac_R} (hM : ac_M mm = some M) {nx : Nat} (hd : decode M.2.1 pc = .ok (.arraylength, 1)) (hn : pc + 1 = nx) : ab_Snd mm pc (aa_len nx) := by
  intro G ST l d lo st sk V skr K ret go hrt h hk M' p e R s m args below meth c Qw H locs cells slots ls hM' hC hH hL hc hs hret
  cases hM.symm.trans hM'
  subst hn
  cases st with
  | nil => exact h.elim
  | cons v st =>
    cases v with
    | ref a =>
      simp only [aa_len] at h
      cases hlt : Nat.blt a 1000000 with
      | true =>
        simp only [hlt] at h
        cases hsa : aa_sh sk a with
        | none => simp only [hsa] at h
        | some ce =>
          obtain ⟨c0, n, rs⟩ := ce
          simp only [hsa] at h
          cases hb : Nat.ble 100 c0 with
          | false => simp only [hb] at h
          | true =>
            simp only [hb] at h
            exact ab_lenv hC hH hsa (Nat.le_of_ble_eq_true hb) hd (hk _ _ _ _ h M p e R s m args below meth c Qw H locs cells slots ls hM hC hH hL hc hs hret)
      | false =>
        simp only [hlt] at h
        cases hlt2 : Nat.blt a 2000000 with
        | false => simp only [hlt2] at h
        | true =>
          simp only [hlt2] at h
          obtain ⟨hj, h⟩ := h
          have ha : a = 1000000 + (a - 1000000) := by
            have : ¬ a < 1000000 := fun q => by
              have : Nat.blt a 1000000 = true := Nat.ble_eq_true_of_le q
              rw [this] at hlt
              cases hlt
            exact (Nat.add_sub_cancel' (Nat.not_lt.mp this)).symm
          have kk := hk _ _ _ _ h M p e R s m args below meth c Qw H locs cells slots ls hM hC hH hL hc hs hret
          obtain ⟨c1, c2, c3, c4, c5, c6, c7, c8, c9, c10, c11, c12, c13⟩ := hC
          obtain ⟨r1, r2, r3⟩ := c10.2.2.2.2.2.2.1 _ hj
          rw [← ha] at r3
          exact va_tlen c1 c2 r3 hH.2.2.1 rfl hd kk
    | _ => exact h.elim
theorem as_lens {mm pc : Nat} {M : ac_R} (hM : ac_M mm = some M) {nx : Nat} (hd : decode M.2.1 pc = .ok (.arraylength, 1)) (hn : pc + 1 = nx) : ab_Snd mm pc (aa_lens nx) := by
  intro G ST l d lo st sk V skr K ret go hrt h hk M' p e R s m args below meth c Qw H locs cells slots ls hM' hC hH hL hc hs hret
  cases hM.symm.trans hM'
  subst hn
  cases st with
  | nil => exact h.elim
  | cons v st =>
    cases v with
    | ref a =>
      obtain ⟨c0, n, rs, hsa, hb, h⟩ := h
      exact ab_lenv hC hH hsa hb hd (hk _ _ _ _ h M p e R s m args below meth c Qw H locs cells slots ls hM hC hH hL hc hs hret)
    | _ => exact h.elim
theorem as_alb {mm pc : Nat} {M : ac_R} (hM : ac_M mm = some M) {nx : Nat} (hd : decode M.2.1 pc = .ok (.baload, 1)) (hn : pc + 1 = nx) : ab_Snd mm pc (aa_alb nx) := by
  intro G ST l d lo st sk V skr K ret go hrt h hk M' p e R s m args below meth c Qw H locs cells slots ls hM' hC hH hL hc hs hret
  cases hM.symm.trans hM'
  subst hn
  cases st with
  | nil => exact h.elim
  | cons v st =>
    cases v with
    | int i =>
      cases st with
      | nil => exact h.elim
      | cons v st =>
        cases v with
        | ref a =>
          obtain ⟨j, ha, hj, hin, h⟩ := h
          subst ha
          have hq := (hC.2.2.2.2.2.2.2.2.2.1.2.2.2.2.2.2.1 (100 + j) (Or.inr ⟨by omega, by omega⟩)).1
          rw [if_neg (by omega)] at hq
          exact ab_alst (kd := 101) hC hH hq.symm (Or.inr ⟨rfl, hd⟩) hin (hk _ _ _ _ h M p e R s m args below meth c Qw H locs cells slots ls hM hC hH hL hc hs hret)
        | _ => exact h.elim
    | _ => exact h.elim
theorem as_lenb {mm pc : Nat} {M : ac_R} (hM : ac_M mm = some M) {nx : Nat} (hd : decode M.2.1 pc = .ok (.arraylength, 1)) (hn : pc + 1 = nx) : ab_Snd mm pc (aa_lenb nx) := by
  intro G ST l d lo st sk V skr K ret go hrt h hk M' p e R s m args below meth c Qw H locs cells slots ls hM' hC hH hL hc hs hret
  cases hM.symm.trans hM'
  subst hn
  cases st with
  | nil => exact h.elim
  | cons v st =>
    cases v with
    | ref a =>
      obtain ⟨j, ha, hj, h⟩ := h
      subst ha
      have kk := hk _ _ _ _ h M p e R s m args below meth c Qw H locs cells slots ls hM hC hH hL hc hs hret
      obtain ⟨c1, c2, c3, c4, c5, c6, c7, c8, c9, c10, c11, c12, c13⟩ := hC
      obtain ⟨r1, r2, r3⟩ := c10.2.2.2.2.2.2.1 (100 + j) (Or.inr ⟨by omega, by omega⟩)
      exact va_tlen c1 c2 r3 hH.2.2.1 rfl hd kk
    | _ => exact h.elim
-- Strings and statics
theorem as_gS {mm pc : Nat} {M : ac_R} (hM : ac_M mm = some M) {ix k nx : Nat} (hd : decode M.2.1 pc = .ok (.getfield ix, 3)) (hw : (k = 0 ∧ Cond.fieldLink M.1.cls ix "java/lang/String" "coder" "B" ∈ aa_BW) ∨ (k = 1 ∧ Cond.fieldLink M.1.cls ix "java/lang/String" "value" "[B" ∈ aa_BW)) (hn : pc + 3 = nx) : ab_Snd mm pc (aa_gS k nx) := by
  intro G ST l d lo st sk V skr K ret go hrt h hk M' p e R s m args below meth c Qw H locs cells slots ls hM' hC hH hL hc hs hret
  cases hM.symm.trans hM'
  subst hn
  cases st with
  | nil => exact h.elim
  | cons v st =>
    cases v with
    | ref a =>
      obtain ⟨h1, h2, h⟩ := h
      obtain ⟨j, hj⟩ : ∃ j : Nat, a = 2000000 + j := ⟨a - 2000000, (Nat.add_sub_cancel' h1).symm⟩
      subst hj
      have hj : j < 12 := Nat.lt_of_add_lt_add_left h2
      have e1 : 2000000 + j - 999900 = 1000100 + j := by omega
      rcases hw with ⟨rfl, hw⟩ | ⟨rfl, hw⟩
      · have kk := hk _ _ _ _ h M p e R s m args below meth c Qw H locs cells slots ls hM hC hH hL hc hs hret
        obtain ⟨c1, c2, c3, c4, c5, c6, c7, c8, c9, c10, c11, c12, c13⟩ := hC
        exact vk_getf c1 c2 (c10.2.2.2.2.2.2.2.2.1 j hj).2.1 hH.2.2.1 c4 (c5 _ hw) (fun x hx => hx) hd kk
      · have kk := hk _ _ _ _ h M p e R s m args below meth c Qw H locs cells slots ls hM hC hH hL hc hs hret
        rw [e1] at kk
        obtain ⟨c1, c2, c3, c4, c5, c6, c7, c8, c9, c10, c11, c12, c13⟩ := hC
        exact vk_getf c1 c2 (c10.2.2.2.2.2.2.2.2.1 j hj).2.2 hH.2.2.1 c4 (c5 _ hw) (fun x hx => hx) hd kk
    | _ => exact h.elim
theorem as_gst {mm pc : Nat} {M : ac_R} (hM : ac_M mm = some M) {ix nx : Nat} {v : Value} (hd : decode M.2.1 pc = .ok (.getstatic ix, 3))
    (hw : (v = .ref 1000000 ∧ Cond.fieldLink M.1.cls ix "FrameCounty$Works" "UNDER" "[I" ∈ aa_BW) ∨ (v = .ref 1000001 ∧ Cond.fieldLink M.1.cls ix "FrameCounty$Weeks" "POWERS" "[I" ∈ aa_BW) ∨ (v = .int 1 ∧ Cond.fieldLink M.1.cls ix "java/lang/String" "COMPACT_STRINGS" "Z" ∈ aa_BW) ∨ (v = .float 0 ∧ Cond.fieldLink M.1.cls ix "jdk/internal/util/Preconditions" "SIOOBE_FORMATTER" "Ljava/util/function/BiFunction;" ∈ aa_BW)) (hn : pc + 3 = nx) : ab_Snd mm pc (aa_pu v nx) := by
  intro G ST l d lo st sk V skr K ret go hrt h hk M' p e R s m args below meth c Qw H locs cells slots ls hM' hC hH hL hc hs hret
  cases hM.symm.trans hM'
  subst hn
  have kk := hk _ _ _ _ h M p e R s m args below meth c Qw H locs cells slots ls hM hC hH hL hc hs hret
  obtain ⟨c1, c2, c3, c4, c5, c6, c7, c8, c9, c10, c11, c12, c13⟩ := hC
  obtain ⟨g1, g2, g3, g4, g5, g6, g7, g8, g9, g10⟩ := c10
  rcases hw with ⟨rfl, hw⟩ | ⟨rfl, hw⟩ | ⟨rfl, hw⟩ | ⟨rfl, hw⟩
  · exact va_gets c1 c2 g2 hH.2.2.1 c4 (c5 _ hw) (fun x hx => hx) hd kk
  · exact va_gets c1 c2 g3 hH.2.2.1 c4 (c5 _ hw) (fun x hx => hx) hd kk
  · exact va_gets c1 c2 g4 hH.2.2.1 c4 (c5 _ hw) (fun x hx => hx) hd kk
  · exact va_gets c1 c2 g5 hH.2.2.1 c4 (c5 _ hw) (fun x hx => hx) hd kk
theorem as_ldcS {mm pc : Nat} {M : ac_R} (hM : ac_M mm = some M) {ix nx j : Nat} {tx : String} (hd : decode M.2.1 pc = .ok (.ldc ix, 2)) (hw : ac_str[j]? = some (M.1.cls, ix, tx)) (hn : pc + 2 = nx) : ab_Snd mm pc (aa_pu (.ref (2000000 + j)) nx) := by
  intro G ST l d lo st sk V skr K ret go hrt h hk M' p e R s m args below meth c Qw H locs cells slots ls hM' hC hH hL hc hs hret
  cases hM.symm.trans hM'
  subst hn
  have kk := hk _ _ _ _ h M p e R s m args below meth c Qw H locs cells slots ls hM hC hH hL hc hs hret
  obtain ⟨c1, c2, c3, c4, c5, c6, c7, c8, c9, c10, c11, c12, c13⟩ := hC
  exact va_ldcS c1 c2 c4 (c10.2.2.2.2.2.2.2.2.2 j _ hw) hd kk
-- switches
theorem aa_cs_out {dft : Nat} {x : Int32} {lo : aa_Lo} {st : List Value} {V : aa_V} {go : aa_Go} : ∀ (l : List (Int32 × Nat)), aa_cs dft x lo st V go l → (∃ t, (x, t) ∈ l ∧ go t lo st V) ∨ ((∀ q ∈ l, ¬ x = q.1) ∧ go dft lo st V)
  | [], h => Or.inr ⟨fun q hq => by simp at hq, h⟩
  | (v, t) :: r, h => by
    by_cases hx : x = v
    · exact Or.inl ⟨t, by rw [hx]; exact List.mem_cons_self, h.1 hx⟩
    · rcases aa_cs_out r (h.2 hx) with ⟨t', h1, h2⟩ | ⟨h1, h2⟩
      · exact Or.inl ⟨t', List.mem_cons_of_mem _ h1, h2⟩
      · refine Or.inr ⟨fun q hq => ?_, h2⟩
        rcases List.mem_cons.mp hq with rfl | hq
        · exact hx
        · exact h1 q hq
/-- a tableswitch from lo on: the pairs of the list are all that don't go to the default, and each goes where the table says -/
theorem as_tsw {mm pc : Nat} {M : ac_R} (hM : ac_M mm = some M) {dflt lo0 hi : Int} {offs : Array Int} {len dt : Nat} {ps : List (Int32 × Nat)} (hd : decode M.2.1 pc = .ok (.tableswitch dflt lo0 hi offs, len)) (hdt : (pc : Int) + dflt = (dt : Int))
    (hps : ∀ q ∈ ps, ¬ q.1.toInt < lo0 ∧ ¬ hi < q.1.toInt ∧ ∃ o, offs[(q.1.toInt - lo0).toNat]? = some o ∧ (pc : Int) + o = (q.2 : Int))
    (hall : ∀ k : Nat, k < (hi - lo0 + 1).toNat → offs[k]? = some dflt ∨ ∃ q ∈ ps, q.1.toInt = lo0 + k) : ab_Snd mm pc (aa_sw dt ps) := by
  intro G ST l d lo st sk V skr K ret go hrt h hk M' p e R s m args below meth c Qw H locs cells slots ls hM' hC hH hL hc hs hret
  cases hM.symm.trans hM'
  have hx := hC.1
  have hb := hC.2.1
  cases st with
  | nil => exact h.elim
  | cons v st =>
    cases v with
    | int x =>
      rcases aa_cs_out ps h with ⟨t, h1, h2⟩ | ⟨h1, h2⟩
      · obtain ⟨q1, q2, o, q3, q4⟩ := hps _ h1
        exact lv_tableIn hx hb hd q1 q2 q3 q4 (hk _ _ _ _ h2 M p e R s m args below meth c Qw H locs cells slots ls hM hC hH hL hc hs hret)
      · by_cases a1 : x.toInt < lo0
        · exact lv_tableOut hx hb hd (Or.inl a1) hdt (hk _ _ _ _ h2 M p e R s m args below meth c Qw H locs cells slots ls hM hC hH hL hc hs hret)
        · by_cases a2 : hi < x.toInt
          · exact lv_tableOut hx hb hd (Or.inr a2) hdt (hk _ _ _ _ h2 M p e R s m args below meth c Qw H locs cells slots ls hM hC hH hL hc hs hret)
          · rcases hall (x.toInt - lo0).toNat (by omega) with q | ⟨q, hq, q2⟩
            · exact lv_tableIn hx hb hd a1 a2 q hdt (hk _ _ _ _ h2 M p e R s m args below meth c Qw H locs cells slots ls hM hC hH hL hc hs hret)
            · exact absurd (Int32.toInt_inj.mp (by omega)) (h1 q hq)
    | _ => exact h.elim
theorem as_lsw {mm pc : Nat} {M : ac_R} (hM : ac_M mm = some M) {dflt : Int} {pa : Array (Int × Int)} {len dt : Nat} {ps : List (Int32 × Nat)} (hd : decode M.2.1 pc = .ok (.lookupswitch dflt pa, len)) (hsrt : (pa.toList.zip (pa.toList.drop 1)).all (fun (a, next) => a.1 < next.1) = true) (hdt : (pc : Int) + dflt = (dt : Int))
    (hps : ∀ q ∈ ps, ∃ o, Op.lookupswitch.offset pa.toList dflt q.1.toInt = o ∧ (pc : Int) + o = (q.2 : Int))
    (hall : ∀ x : Int32, (∀ q ∈ ps, ¬ x = q.1) → Op.lookupswitch.offset pa.toList dflt x.toInt = dflt) : ab_Snd mm pc (aa_sw dt ps) := by
  intro G ST l d lo st sk V skr K ret go hrt h hk M' p e R s m args below meth c Qw H locs cells slots ls hM' hC hH hL hc hs hret
  cases hM.symm.trans hM'
  have hx := hC.1
  have hb := hC.2.1
  cases st with
  | nil => exact h.elim
  | cons v st =>
    cases v with
    | int x =>
      rcases aa_cs_out ps h with ⟨t, h1, h2⟩ | ⟨h1, h2⟩
      · obtain ⟨o, q3, q4⟩ := hps _ h1
        exact lv_lookup hx hb hd hsrt q3 q4 (hk _ _ _ _ h2 M p e R s m args below meth c Qw H locs cells slots ls hM hC hH hL hc hs hret)
      · exact lv_lookup hx hb hd hsrt (hall x h1) hdt (hk _ _ _ _ h2 M p e R s m args below meth c Qw H locs cells slots ls hM hC hH hL hc hs hret)
    | _ => exact h.elim
theorem aa_cat_eq {G : ab_G} (hG : G.2.2.2.2.2.category = 1) : ∀ st : List Value, ((st.map (ab_v G)).map fun v => v.category).sum = aa_cat st
  | [] => rfl
  | v :: t => by
    have ih := aa_cat_eq hG t
    rw [List.map_cons, List.map_cons, List.sum_cons, ih, ab_vc hG]
    cases v <;> simp [aa_cat, Value.category] <;> omega
theorem ab_H.copy {G : ab_G} {sk : aa_Sk} {V V' : aa_V} {s : State} {H H1 : Heap} {locs locs1 : List Loc} (hH : ab_H G sk V s H locs) (hN : ac_N ≤ sk.length) (hP : va_P (ab_D G) vwCl (ab_ws G sk V') H1) (hS : va_S (ab_A G) s.heap H1 locs1) : ab_H G sk V' s H1 locs1 :=
  ⟨fun q => absurd q (Nat.not_lt.mpr hN), hP, hS, hH.2.2.2.1, hH.2.2.2.2⟩
theorem as_acp {mm pc : Nat} {M : ac_R} (hM : ac_M mm = some M) {ix nx : Nat} (hd : decode M.2.1 pc = .ok (.invokestatic ix, 3)) (hw : Cond.methodLink M.1.cls ix arraycopyName ∈ aa_BW ∧ Cond.native arraycopyName ∈ aa_BW ∧ Cond.static arraycopyName ∈ aa_BW ∧ Cond.initialized "java/lang/System" ∈ aa_BW) (hn : pc + 3 = nx) : ab_Snd mm pc (aa_acp nx) := by
  intro G ST l d lo st sk V skr K ret go hrt h hk M' p e R s m args below meth c Qw H locs cells slots ls hM' hC hH hL hc hs hret
  cases hM.symm.trans hM'
  subst hn
  match st, h with
  | .int n :: .int dp :: .ref b :: .int sp :: .ref a :: r, h =>
    obtain ⟨n0, n1, r0, r1, ha, hb, h1, h2, h3, h4, h5, h6, h7, h⟩ := h
    have hCC := hC
    obtain ⟨c1, c2, c3, c4, c5, c6, c7, c8, c9, c10, c11, c12, c13⟩ := hC
    have ga := ab_ws_get (G := G) (V := V) ha
    have gb := ab_ws_get (G := G) (V := V) hb
    rw [ab_en_i (by show ¬ (100 : Nat) < 100; omega) (by show (100 : Nat) < 102; omega)] at ga gb
    show W p l e R s m args below meth c H locs cells slots Qw (F0 m pc ls (.int n :: .int dp :: .ref (ab_ad G b) :: .int sp :: .ref (ab_ad G a) :: r.map (ab_v G)))
    rw [hH.lt ha, hH.lt hb]
    have hroom : ((r.map (ab_v G)).map fun v => v.category).sum + (nativeFrameWords "java/lang/System" "arraycopy" 5 + 11) ≤ R.locals := by
      have h7 : nativeFrameWords "java/lang/System" "arraycopy" 5 = 7 := by decide +kernel
      rw [aa_cat_eq c10.2.2.2.2.2.1, h7]
      omega
    refine va_copyi (rest := r.map (ab_v G)) c1 c2 (by rw [c3, hL.1]) c4 (c5 _ hw.1) (c5 _ hw.2.1) (c5 _ hw.2.2.1) (c5 _ hw.2.2.2) c9 hH.2.1 ab_wsD hH.2.2.1 a b 0 0 ga gb (ab_tyi G) (ab_tyi G) rfl h1 h2 h3 h4 h5 (fun i hi => rfl) (by omega) hroom hd (fun H1 locs1 hP1 _ hS1 => ?_)
    rw [ab_ws_set (V' := aa_row V b (va_cpy (V a) (V b) sp.toNatClampNeg dp.toNatClampNeg n.toNatClampNeg)) hb (fun b' hb' => if_neg hb') (by rw [ab_en_i (by show ¬ (100 : Nat) < 100; omega) (by show (100 : Nat) < 102; omega)]; unfold aa_row; rw [if_pos rfl])] at hP1
    exact hk _ _ _ _ h M p e R s m args below meth c Qw H1 locs1 cells slots ls hM hCC (hH.copy h7 hP1 hS1) hL hc hs hret
  | [], h => exact h.elim
