/-! what the law's entry gives: the classes, the statics, the String constants -/
def ws_F : List Cond := flatC (Jvm.Cond.and given_1 narrow_1)
def ws_tm (i : Nat) : Term := match ac_str[i]? with
  | some q => .string q.1 q.2.1
  | none => .string "" 0
theorem ws_1 : ∀ i, i < 12 → Cond.exactly (ws_tm i) "java/lang/String" ∈ ws_F := by decide +kernel
theorem ws_2 : ∀ i, i < 12 → Cond.eq (.field (ws_tm i) "java/lang/String" "coder" "B") (.int 0) ∈ ws_F := by decide +kernel
theorem ws_3 : ∀ i, i < 12 → Cond.arrayOf (.field (ws_tm i) "java/lang/String" "value" "[B") .byte ∈ ws_F := by decide +kernel
theorem ws_4 : ∀ i, i < 12 → Cond.eq (.length (.field (ws_tm i) "java/lang/String" "value" "[B")) (.int (Int32.ofNat (ac_len.getD i 0))) ∈ ws_F := by decide +kernel
theorem ws_5 : ∀ i, i < 12 → ∀ j, j < ac_len.getD i 0 → Cond.eq (.elem (.field (ws_tm i) "java/lang/String" "value" "[B") (.int (Int32.ofNat j))) (.int ((ac_byt.getD i []).getD j 0)) ∈ ws_F := by decide +kernel
theorem ws_6 : ∀ i, i < 12 → ∀ j, j < 12 → i ≠ j → Cond.not (Cond.eq (ws_tm i) (ws_tm j)) ∈ ws_F ∨ Cond.not (Cond.eq (ws_tm j) (ws_tm i)) ∈ ws_F := by decide +kernel
theorem ws_7 : ∀ i, i < 12 → ac_len.getD i 0 < 2 ^ 31 := by decide +kernel
theorem ws_8 : ∀ q ∈ ac_str, Cond.stringRef q.1 q.2.1 q.2.2 ∈ lw_tbl := by decide +kernel
theorem ws_9 : ∀ q ∈ ac_nest, Cond.methodLinkNest q.1 q.2.1 q.2.2.1 q.2.2.2 ∈ lw_tbl := by decide +kernel
def ws_U : List Int32 := [-1, 0, 0, 1, 2, 1]
def ws_P : List Int32 := [1, 3, 9, 27, 81, 243]
theorem ws_U1 : ∀ j, j < 6 → Cond.eq (.elem (.static "FrameCounty$Works" "UNDER" "[I") (.int (Int32.ofNat j))) (.int (aa_nthI ws_U j)) ∈ ws_F := by decide +kernel
theorem ws_P1 : ∀ j, j < 6 → Cond.eq (.elem (.static "FrameCounty$Weeks" "POWERS" "[I") (.int (Int32.ofNat j))) (.int (aa_nthI ws_P j)) ∈ ws_F := by decide +kernel
theorem ws_U2 : Cond.arrayOf (.static "FrameCounty$Works" "UNDER" "[I") .int ∈ ws_F ∧ Cond.eq (.length (.static "FrameCounty$Works" "UNDER" "[I")) (.int (Int32.ofNat 6)) ∈ ws_F := by decide +kernel
theorem ws_P2 : Cond.arrayOf (.static "FrameCounty$Weeks" "POWERS" "[I") .int ∈ ws_F ∧ Cond.eq (.length (.static "FrameCounty$Weeks" "POWERS" "[I")) (.int (Int32.ofNat 6)) ∈ ws_F := by decide +kernel
theorem ws_C1 : Cond.eq (.static "java/lang/String" "COMPACT_STRINGS" "Z") (.int 1) ∈ ws_F := by decide +kernel
theorem ws_S1 : Cond.isRef (.static "jdk/internal/util/Preconditions" "SIOOBE_FORMATTER" "Ljava/util/function/BiFunction;") ∈ ws_F := by decide +kernel
theorem ws_getD : ∀ (l : List Int32) (j : Nat), l.getD j 0 = aa_nthI l j
  | [], j => by simp [aa_nthI]
  | x :: t, 0 => by simp [aa_nthI]
  | x :: t, n + 1 => by
    have ih := ws_getD t n
    simp only [List.getD_cons_succ, aa_nthI]
    exact ih
theorem ws_len : ∀ i, i < 12 → ac_len.getD i 0 = aa_nth ac_len i ∧ ac_byt.getD i [] = aa_nthL2 ac_byt i := by decide +kernel
/-- the classes -/
theorem ws_K {s : State} {b : Addr} (hts : ∀ w ∈ aa_BW, w.before #[Value.ref b] s = true) : ∃ (dC : Nat → ClassId) (dI : Nat → Nat → Nat), ∀ (k : Nat) (q : vw_C), vwCl[k]? = some q → u_Kn s q.1 q.2.1 q.2.2 (dC k) (dI k) := by
  obtain ⟨c0, i0, k0⟩ := u_known (C := RX0) (T := TX0) (N := 4) (n := 4) hts aa_inW0 (hts (.instantiable RX0 4) (aa_bw 271 (by decide +kernel) rfl))
  obtain ⟨c1, i1, k1⟩ := u_known (C := RX1) (T := TX1) (N := 6) (n := 6) hts aa_inW1 (hts (.instantiable RX1 6) (aa_bw 245 (by decide +kernel) rfl))
  obtain ⟨c2, i2, k2⟩ := u_known (C := RX2) (T := TX2) (N := 5) (n := 5) hts aa_inW2 (hts (.instantiable RX2 5) (aa_bw 168 (by decide +kernel) rfl))
  obtain ⟨c3, i3, k3⟩ := u_known (C := RX3) (T := TX3) (N := 9) (n := 9) hts aa_inW3 (hts (.instantiable RX3 9) (aa_bw 322 (by decide +kernel) rfl))
  obtain ⟨c4, i4, k4⟩ := u_known (C := RX4) (T := TX4) (N := 3) (n := 3) hts aa_inW4 (hts (.instantiable RX4 3) (aa_bw 102 (by decide +kernel) rfl))
  obtain ⟨c5, i5, k5⟩ := u_known (C := RX5) (T := TX5) (N := 3) (n := 3) hts aa_inW5 (hts (.instantiable RX5 3) (aa_bw 304 (by decide +kernel) rfl))
  obtain ⟨c6, i6, k6⟩ := u_known (C := RX6) (T := TX6) (N := 4) (n := 4) hts aa_inW6 (hts (.instantiable RX6 4) (aa_bw 358 (by decide +kernel) rfl))
  obtain ⟨c7, i7, k7⟩ := u_known (C := RX7) (T := TX7) (N := 16) (n := 16) hts aa_inW7 (hts (.instantiable RX7 16) (aa_bw 190 (by decide +kernel) rfl))
  obtain ⟨c8, i8, k8⟩ := u_known (C := RX8) (T := TX8) (N := 2) (n := 2) hts aa_inW8 (hts (.instantiable RX8 2) (aa_bw 290 (by decide +kernel) rfl))
  obtain ⟨c9, i9, k9⟩ := u_known (C := RX9) (T := TX9) (N := 10) (n := 10) hts aa_inW9 (hts (.instantiable RX9 10) (aa_bw 131 (by decide +kernel) rfl))
  obtain ⟨c10, i10, k10⟩ := u_known (C := RX10) (T := TX10) (N := 14) (n := 14) hts aa_inW10 (hts (.instantiable RX10 14) (aa_bw 94 (by decide +kernel) rfl))
  obtain ⟨c11, i11, k11⟩ := u_known (C := RX11) (T := TX11) (N := 67) (n := 67) hts aa_inW11 (hts (.instantiable RX11 67) (aa_bw 1221 (by decide +kernel) rfl))
  refine ⟨fun k => match k with | 0 => c0 | 1 => c1 | 2 => c2 | 3 => c3 | 4 => c4 | 5 => c5 | 6 => c6 | 7 => c7 | 8 => c8 | 9 => c9 | 10 => c10 | _ => c11, fun k => match k with | 0 => i0 | 1 => i1 | 2 => i2 | 3 => i3 | 4 => i4 | 5 => i5 | 6 => i6 | 7 => i7 | 8 => i8 | 9 => i9 | 10 => i10 | _ => i11, ?_⟩
  intro k q hq
  match k, hq with
  | 0, hq => cases hq; exact k0
  | 1, hq => cases hq; exact k1
  | 2, hq => cases hq; exact k2
  | 3, hq => cases hq; exact k3
  | 4, hq => cases hq; exact k4
  | 5, hq => cases hq; exact k5
  | 6, hq => cases hq; exact k6
  | 7, hq => cases hq; exact k7
  | 8, hq => cases hq; exact k8
  | 9, hq => cases hq; exact k9
  | 10, hq => cases hq; exact k10
  | 11, hq => cases hq; exact k11
  | k + 12, hq => simp [vwCl] at hq
/-- the classes of arrays -/
theorem ws_Y {s : State} {b : Addr} (hts : ∀ w ∈ lw_tbl, w.before #[Value.ref b] s = true) : ∃ cy : Nat → ClassId, (∀ (k : Nat) (q : ClassId × FieldType), ([(cy 0, .int), (cy 1, .byte), (cy 2, .object "FrameCounty$Text"), (cy 3, .array .int)] : List (ClassId × FieldType))[k]? = some q → ArrOfT s q.1 q.2 ∧ va_RA s q.1 q.2) ∧
    (s.vm.findClass ("[" ++ (FieldType.int).toString) = some (cy 0) ∧ s.vm.findClass ("[" ++ (FieldType.byte).toString) = some (cy 1)) ∧ (s.vm.findClass ("[" ++ (FieldType.object "FrameCounty$Text").toString) = some (cy 2) ∧ s.vm.findClass ("[" ++ (FieldType.array .int).toString) = some (cy 3)) ∧ va_AO "FrameCounty$Text" s ∧ (Cond.arrayOver (.array .int)).before #[] s = true := by
  have wI : (Cond.arrayClass .int).before #[Value.ref b] s = true := hts _ (List.mem_of_getElem? (i := 129) (by decide +kernel))
  have wB : (Cond.arrayClass .byte).before #[Value.ref b] s = true := hts _ (List.mem_of_getElem? (i := 355) (by decide +kernel))
  have wT : (Cond.arrayOver (.object "FrameCounty$Text")).before #[Value.ref b] s = true := hts _ (List.mem_of_getElem? (i := 357) (by decide +kernel))
  have wA : (Cond.arrayOver (.array .int)).before #[Value.ref b] s = true := hts _ (List.mem_of_getElem? (i := 108) (by decide +kernel))
  obtain ⟨cI, kI, pI, a1, a2, a3⟩ := Cond.arrayClass_spec wI
  obtain ⟨cB, kB, pB, b1, b2, b3⟩ := Cond.arrayClass_spec wB
  obtain ⟨pT, cT, kT, t1, t2, t3, t4, t5⟩ := Cond.arrayOver_spec wT
  obtain ⟨pA, cA, kA, g1, g2, g3, g4, g5⟩ := arrayOverA_spec wA
  refine ⟨fun k => match k with | 0 => cI | 1 => cB | 2 => cT | _ => cA, fun k q hq => ?_, ⟨a1, b1⟩, ⟨t5, g5⟩, va_AO.of wT, over_moved (Vm.Alike.refl _) wA⟩
  match k, hq with
  | 0, hq => cases hq; exact ⟨fun n z => ⟨fun k h => (by cases h), kI, a2, pI, a3⟩, a1⟩
  | 1, hq => cases hq; exact ⟨fun n z => ⟨fun k h => (by cases h), kB, b2, pB, b3⟩, b1⟩
  | 2, hq => cases hq; exact ⟨fun n z => ⟨fun k h => (by cases h), kT, t3, pT, t4⟩, kT, pT, t3, t4, t1, t5⟩
  | 3, hq => cases hq; exact ⟨fun n z => ⟨fun k h => (by cases h), kA, g3, pA, g4⟩, g5⟩
  | k + 4, hq => simp at hq
theorem ws_ST0 {L : Nat} {xs : Nat → Int32} : ∀ j : Nat, ¬ (j < 3 ∨ 100 ≤ j ∧ j < 112) → (ac_ST L xs j).1 = 0
  | 0, h => absurd (Or.inl (by decide)) h
  | 1, h => absurd (Or.inl (by decide)) h
  | 2, h => absurd (Or.inl (by decide)) h
  | j + 3, h => by
    have e : ac_ST L xs (j + 3) = (0, 0, fun _ => 0) := if_neg (fun q => h (Or.inr q))
    exact congrArg (fun z => z.1) e
theorem ws_C {p : Program} {s : State} {m : MethodId} {meth : Method} {c : Code} {b L : Nat} {xs : Nat → Int32} (hL : L ≤ 3072) (hx : p.tables.exec = Jvm.exec) (hb : c.code = code) (hr : meth.sig.returnType = ret) (hml : c.maxLocals = 4) (hown : s.vm.findClass "FrameCountyLaw" = some m.cls) (hts : ∀ w ∈ lw_tbl, w.before #[Value.ref b] s = true) (hX : va_X b L xs s s.heap) (hbl : b < s.heap.size) (hlocks : meth.locks = false) (hgv : (Jvm.Cond.and given_1 narrow_1).before #[Value.ref b] s = true) (hnm : meth.name = "law") :
    ∃ G : ab_G, G.1 = s.heap.size ∧ ab_ad G 1000002 = b ∧ ∀ (d : Nat) (R : Room), d ≤ R.frames → 40 * d ≤ R.locals → ab_C G (ac_ST L xs) d ac_r301 p R s m #[Value.ref b] meth c := by
  have htB : ∀ w ∈ aa_BW, w.before #[Value.ref b] s = true := fun w h => hts w (List.mem_filter.mp h).1
  have hF : ∀ w ∈ ws_F, w.before #[Value.ref b] s = true := flat_of_before _ hgv
  have hA : ∀ a : Nat, a < s.heap.size → ¬ (fun q : Nat => s.heap.size ≤ q) a := fun a h => Nat.not_le.mpr h
  obtain ⟨dC, dI, hK⟩ := ws_K htB
  obtain ⟨cy, hY, n1, n2, n3, n4⟩ := ws_Y hts
  obtain ⟨tU, u1, u2⟩ := va_Tof (tm := .static "FrameCounty$Works" "UNDER" "[I") (ty := .int) (N := 6) (f := fun j => .int (aa_nthI ws_U j)) (A := fun q : Nat => s.heap.size ≤ q) (by decide) (hF _ ws_U2.1) (va_eqt (hF _ ws_U2.2)) (fun j hj => va_eqt (hF _ (ws_U1 j hj))) hA
  obtain ⟨tP, p1, p2⟩ := va_Tof (tm := .static "FrameCounty$Weeks" "POWERS" "[I") (ty := .int) (N := 6) (f := fun j => .int (aa_nthI ws_P j)) (A := fun q : Nat => s.heap.size ≤ q) (by decide) (hF _ ws_P2.1) (va_eqt (hF _ ws_P2.2)) (fun j hj => va_eqt (hF _ (ws_P1 j hj))) hA
  have zU : va_Z "FrameCounty$Works" "UNDER" "[I" (.ref tU) (fun q : Nat => s.heap.size ≤ q) s s.heap := va_Zof (hts _ (List.mem_of_getElem? (i := 1219) (by decide +kernel))) (hts _ (List.mem_of_getElem? (i := 77) (by decide +kernel))) u1 hA
  have zP : va_Z "FrameCounty$Weeks" "POWERS" "[I" (.ref tP) (fun q : Nat => s.heap.size ≤ q) s s.heap := va_Zof (hts _ (List.mem_of_getElem? (i := 1103) (by decide +kernel))) (hts _ (List.mem_of_getElem? (i := 82) (by decide +kernel))) p1 hA
  have zC : va_Z "java/lang/String" "COMPACT_STRINGS" "Z" (.int 1) (fun q : Nat => s.heap.size ≤ q) s s.heap := va_Zof (hts _ (List.mem_of_getElem? (i := 390) (by decide +kernel))) (hts _ (List.mem_of_getElem? (i := 86) (by decide +kernel))) (va_eqi (hF _ ws_C1)) hA
  obtain ⟨fv, zS, fc⟩ : ∃ v : Value, va_Z "jdk/internal/util/Preconditions" "SIOOBE_FORMATTER" "Ljava/util/function/BiFunction;" v (fun q : Nat => s.heap.size ≤ q) s s.heap ∧ v.category = 1 := by
    rcases va_Zqof (A := fun q : Nat => s.heap.size ≤ q) (hts _ (List.mem_of_getElem? (i := 406) (by decide +kernel))) (hts _ (List.mem_of_getElem? (i := 88) (by decide +kernel))) (hF _ ws_S1) hA with h | ⟨t, h⟩
    · exact ⟨_, h, rfl⟩
    · exact ⟨_, h, rfl⟩
  obtain ⟨adK, adV, hS, hSe⟩ := vk_Sof (N := 12) (tm := ws_tm) (len := ac_len) (byt := ac_byt) (A := fun q : Nat => s.heap.size ≤ q) ws_7 (fun i hi => hF _ (ws_1 i hi)) (fun i hi => hF _ (ws_2 i hi)) (fun i hi => hF _ (ws_3 i hi)) (fun i hi => hF _ (ws_4 i hi)) (fun i hi j hj => hF _ (ws_5 i hi j hj))
    (fun i j hi hj hij => (ws_6 i hi j hj hij).elim (fun h => Or.inl (hF _ h)) (fun h => Or.inr (hF _ h))) hA
  let G : ab_G := (s.heap.size, (fun j => match j with | 0 => tU | 1 => tP | 2 => b | j => if j < 1000000 then adV (j - 100) else adK (j - 1000000)), dC, dI, cy, fv)
  have aV : ∀ j : Nat, j < 12 → ab_ad G (1000000 + (100 + j)) = adV j := fun j hj => by
    show (if 1000000 + (100 + j) < 1000000 then _ else G.2.1 (1000000 + (100 + j) - 1000000)) = _
    rw [if_neg (by omega), show 1000000 + (100 + j) - 1000000 = (97 + j) + 3 by omega]
    show (if (97 + j) + 3 < 1000000 then adV ((97 + j) + 3 - 100) else adK ((97 + j) + 3 - 1000000)) = _
    rw [if_pos (by omega), show (97 + j) + 3 - 100 = j by omega]
  have aK : ∀ j : Nat, j < 12 → ab_ad G (2000000 + j) = adK j := fun j hj => by
    show (if 2000000 + j < 1000000 then _ else G.2.1 (2000000 + j - 1000000)) = _
    rw [if_neg (by omega), show 2000000 + j - 1000000 = (999997 + j) + 3 by omega]
    show (if (999997 + j) + 3 < 1000000 then adV ((999997 + j) + 3 - 100) else adK ((999997 + j) + 3 - 1000000)) = _
    rw [if_neg (by omega), show (999997 + j) + 3 - 1000000 = j by omega]
  refine ⟨G, rfl, rfl, fun d R hd1 hd2 => ⟨hx, hb, hml, hown, htB, hr, hlocks, hnm, ⟨hK, hY⟩, ⟨fun q hq => ?_, zU, zP, zC, zS, fc, fun j hj => ?_, ws_ST0, fun j hj => ?_, fun j q hq => ?_⟩, hd1, hd2, Nat.le_refl _, n1, n2, n3, n4⟩⟩
  · exact va_tabs rfl rfl (hts _ (ws_9 q hq))
  · rcases hj with h | h
    · rcases (show j = 0 ∨ j = 1 ∨ j = 2 by omega) with rfl | rfl | rfl
      · exact ⟨rfl, by show 6 < 2 ^ 31; omega, u2⟩
      · exact ⟨rfl, by show 6 < 2 ^ 31; omega, p2⟩
      · refine ⟨rfl, by show L < 2 ^ 31; omega, ?_⟩
        obtain ⟨scr, e1, e2, e3, e4, e5⟩ := hX
        exact ⟨scr, e1, e2, e3, by show L ≤ _; omega, by rw [e4]; rfl, e5, Nat.not_le.mpr hbl⟩
    · obtain ⟨i, rfl⟩ : ∃ i, j = 100 + i := ⟨j - 100, by omega⟩
      have hi : i < 12 := by omega
      have hT := (hS.1 i hi).2.2.2
      rw [bz_STj hi, if_neg (by omega), if_neg (by omega), aV i hi]
      obtain ⟨w1, w2⟩ := ws_len i hi
      have hlt := ws_7 i hi
      rw [w1] at hlt hT
      refine ⟨rfl, hlt, ?_⟩
      have ef : (fun j => Value.int ((ac_byt.getD i []).getD j 0)) = fun j => Value.int (aa_nthI (aa_nthL2 ac_byt i) j) := by
        funext j
        rw [ws_getD, w2]
      rw [ef] at hT
      exact hT
  · rw [aK j hj]
    obtain ⟨o1, o2, o3, -⟩ := hS.1 j hj
    refine ⟨o1, o2, ?_⟩
    have e : ab_ad G (1000100 + j) = adV j := by
      rw [show 1000100 + j = 1000000 + (100 + j) by omega]
      exact aV j hj
    rw [e]
    exact o3
  · have hj : j < 12 := (List.getElem?_eq_some_iff.mp hq).1
    rw [aK j hj]
    have hm := ws_8 q (List.mem_of_getElem? hq)
    refine vk_R.of (A := #[Value.ref b]) (hts _ hm) ?_
    have h2 := hSe j hj
    have e : ws_tm j = .string q.1 q.2.1 := by
      unfold ws_tm
      rw [hq]
    rw [e] at h2
    exact h2
