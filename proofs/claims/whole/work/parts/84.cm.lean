/-! rows of rows, made at once: the outer row first, then its rows, each put into the outer one -/
def cm_f (h i : Nat) : Nat → Value := fun j => if j < i then .ref (h + 1 + j) else .null
theorem cm_f_s (h i : Nat) : updV (cm_f h i) i (.ref (h + 1 + i)) = cm_f h (i + 1) := by
  funext j
  unfold updV cm_f
  by_cases q : j = i
  · subst q
    rw [if_pos rfl, if_pos (Nat.lt_succ_self _)]
  · rw [if_neg q]
    by_cases z : j < i
    · rw [if_pos z, if_pos (Nat.lt_succ_of_lt z)]
    · rw [if_neg z, if_neg (by omega)]
/-- behind i of the inner rows -/
def cm_s (T : State) (cA cI : ClassId) (N M : Nat) : Nat → State
  | 0 => T.pushCell (arrV cA N (cm_f T.heap.size 0))
  | i + 1 => ((cm_s T cA cI N M i).pushCell (arrV cI M (fun _ => .int 0))).setCell T.heap.size (arrV cA N (cm_f T.heap.size (i + 1)))
theorem cm_is (T : State) (cA cI : ClassId) (N M : Nat) : ∀ i : Nat, (cm_s T cA cI N M i).heap.size = T.heap.size + 1 + i ∧ (cm_s T cA cI N M i).vm = T.vm ∧ (cm_s T cA cI N M i).slotsUsed = T.slotsUsed + N + i * M ∧ (cm_s T cA cI N M i).heap[T.heap.size]? = some (arrV cA N (cm_f T.heap.size i)) ∧
    (∀ q : Nat, q < T.heap.size → (cm_s T cA cI N M i).heap[q]? = T.heap[q]?) ∧ ∀ j : Nat, j < i → (cm_s T cA cI N M i).heap[T.heap.size + 1 + j]? = some (arrV cI M (fun _ => .int 0))
  | 0 => by
    refine ⟨?_, rfl, ?_, State.heap_pushCell_size _ _, fun q hq => State.heap_pushCell_of_lt _ _ hq, fun j hj => absurd hj (Nat.not_lt_zero _)⟩
    · exact Array.size_push _
    · show T.slotsUsed + (arrV cA N (cm_f T.heap.size 0)).slots.size = T.slotsUsed + N + 0 * M
      rw [arrV_size]
      omega
  | i + 1 => by
    obtain ⟨a1, a2, a6, a3, a4, a5⟩ := cm_is T cA cI N M i
    generalize hU : cm_s T cA cI N M i = U at a1 a2 a3 a4 a5 a6
    have e : cm_s T cA cI N M (i + 1) = (U.pushCell (arrV cI M (fun _ => .int 0))).setCell T.heap.size (arrV cA N (cm_f T.heap.size (i + 1))) := by
      rw [← hU]; rfl
    rw [e]
    have hz : (U.pushCell (arrV cI M (fun _ => .int 0))).heap.size = U.heap.size + 1 := Array.size_push _
    have hlt : T.heap.size < (U.pushCell (arrV cI M (fun _ => .int 0))).heap.size := by omega
    have hlu : T.heap.size < U.heap.size := by omega
    refine ⟨?_, a2, ?_, heapAt_setCell_self _ hlt, fun q hq => ?_, fun j hj => ?_⟩
    · have h9 := size_setCell (U.pushCell (arrV cI M (fun _ => .int 0))) T.heap.size (arrV cA N (cm_f T.heap.size (i + 1)))
      omega
    · show U.slotsUsed + (arrV cI M (fun _ => .int 0)).slots.size = _
      rw [arrV_size, a6, Nat.succ_mul]
      omega
    · rw [heapAt_setCell_ne _ (show T.heap.size ≠ q by omega), State.heap_pushCell_of_lt _ _ (show q < U.heap.size by omega)]
      exact a4 q hq
    · rw [heapAt_setCell_ne _ (show T.heap.size ≠ T.heap.size + 1 + j by omega)]
      rcases Nat.lt_or_ge j i with z | z
      · rw [State.heap_pushCell_of_lt _ _ (show T.heap.size + 1 + j < U.heap.size by omega)]
        exact a5 j z
      · have ej : T.heap.size + 1 + j = U.heap.size := by omega
        rw [ej]
        exact State.heap_pushCell_size _ _
theorem cm_top (T : State) (g : JFrame) (cA cI : ClassId) (N M : Nat) : ∀ i : Nat, cm_s (T.setTop g) cA cI N M i = (cm_s T cA cI N M i).setTop g
  | 0 => rfl
  | i + 1 => by
    show ((cm_s (T.setTop g) cA cI N M i).pushCell _).setCell _ _ = _
    rw [cm_top T g cA cI N M i]
    rfl
section
variable {p : Program} {l : Launch} {e : Env} {R : Room} {s : State} {m : MethodId} {args : Array Value} {below : List Frame} {meth : Method} {c : Code} {H : Heap} {locs : List Loc} {cells slots : Nat} {Q : State → Prop}
theorem cm_X {T : State} (X : Stand p l e R s m args below meth c T locs cells slots) (cA cI : ClassId) (N M : Nat) : ∀ i : Nat, Stand p l e R s m args below meth c (cm_s T cA cI N M i) locs (cells + 1 + i) (slots + N + i * M)
  | 0 => by
    have h := X.pushed (arrV cA N (cm_f T.heap.size 0))
    rw [arrV_size] at h
    rw [Nat.zero_mul]
    exact h
  | i + 1 => by
    have h := cm_X X cA cI N M i
    obtain ⟨a1, a2, a6, a3, a4, a5⟩ := cm_is T cA cI N M i
    have hlu : T.heap.size < (cm_s T cA cI N M i).heap.size := by omega
    have h2 := h.pushed (arrV cI M (fun _ => .int 0))
    rw [arrV_size] at h2
    have h3 := h2.stored (a := T.heap.size) (cell := arrV cA N (cm_f T.heap.size i)) (by rw [State.heap_pushCell_of_lt _ _ hlu]; exact a3) i (.ref (T.heap.size + 1 + i))
    rw [arrV_store, cm_f_s] at h3
    have h4 := h3.forget (fun y hy => by
      rw [List.mem_singleton.mp hy]
      exact X.same.2.1)
    have e1 : slots + N + (i + 1) * M = slots + N + i * M + M := by rw [Nat.succ_mul]; omega
    rw [e1]
    exact h4
theorem cm_rf (t : FieldType) (a : Nat) : fits (.array t) (.ref a) = true := rfl
section
variable {E : CtlPost} {d : Bool} {acts : List Action}
/-- one row of ints -/
theorem cm_m1 {comp cc : ClassId} {kc : Class} {k : Int32} (hkc : s.vm.classes[comp]? = some kc) (hkindc : kc.kind = .array cc .int) (hk : ¬ k < 0)
    (hl2 : ¬ k.toNatClampNeg > e.platform.arrayLengthLimit) (hh2 : ¬ k.toNatClampNeg * componentBytes .int > e.platform.maxHeapBytes)
    (h1 : s.heap.size < e.platform.maxCells) (h2 : s.slotsUsed + k.toNatClampNeg ≤ e.platform.maxSlots) {Q : Addr → Pre} (hq : ∀ acts', Q s.heap.size d acts' (s.pushCell (arrV comp k.toNatClampNeg (fun _ => .int 0)))) :
    wp (multianewarray.make comp [k]) Q E e d acts s := by
  rw [multianewarray.make]
  simp only [wp_bind', W.ite, hk, if_false, wp_pure', W.theClass, hkc, hkindc, Option.some.injEq, exists_eq_left']
  refine W.newArray_of hkc hkindc hl2 hh2 h1 h2 rfl (fun acts' => ?_)
  have h9 := hq acts'
  rw [← arrV_new] at h9
  exact h9
/-- rows in a row -/
theorem cm_m2 {cA comp cc : ClassId} {kA kc : Class} {n k : Int32} (hkA : s.vm.classes[cA]? = some kA) (hkindA : kA.kind = .array comp (.array .int)) (hkc : s.vm.classes[comp]? = some kc) (hkindc : kc.kind = .array cc .int) (hn : ¬ n < 0) (hk : ¬ k < 0)
    (hl1 : ¬ n.toNatClampNeg > e.platform.arrayLengthLimit) (hh1 : ¬ n.toNatClampNeg * componentBytes (.array .int) > e.platform.maxHeapBytes)
    (hl2 : ¬ k.toNatClampNeg > e.platform.arrayLengthLimit) (hh2 : ¬ k.toNatClampNeg * componentBytes .int > e.platform.maxHeapBytes)
    (hc : s.heap.size + (1 + n.toNatClampNeg) ≤ e.platform.maxCells) (hs : s.slotsUsed + (n.toNatClampNeg + n.toNatClampNeg * k.toNatClampNeg) ≤ e.platform.maxSlots)
    {Q : Addr → Pre} (hq : ∀ d' acts', Q s.heap.size d' acts' (cm_s s cA comp n.toNatClampNeg k.toNatClampNeg n.toNatClampNeg)) :
    wp (multianewarray.make cA [n, k]) Q E e d acts s := by
  have hfind : ([k].find? (· < 0)) = none := by simp [hk]
  rw [multianewarray.make]
  simp only [wp_bind', W.ite, hn, if_false, wp_pure', W.theClass, hkA, hkindA, Option.some.injEq, exists_eq_left']
  refine W.newArray_of hkA hkindA hl1 hh1 (by omega) (by have := Nat.zero_le (n.toNatClampNeg * k.toNatClampNeg); omega) rfl (fun acts' => ?_)
  simp only [hfind]
  rw [ite_self, wp_bind', Std.Legacy.Range.forIn_eq_forIn_range']
  have hsz : ([:n.toNatClampNeg] : Std.Legacy.Range).size = n.toNatClampNeg := by simp [Std.Legacy.Range.size]
  rw [hsz]
  show wp (forIn (List.range' 0 n.toNatClampNeg 1) PUnit.unit _) _ E e d acts' _
  refine wp_forIn_inv (fun rest s' => ∃ i, i ≤ n.toNatClampNeg ∧ rest = List.range' i (n.toNatClampNeg - i) ∧ s' = cm_s s cA comp n.toNatClampNeg k.toNatClampNeg i) _ _ ⟨0, Nat.zero_le _, rfl, ?_⟩ ?_ ?_
  · rw [arrV_new]
    have e0 : (fun _ : Nat => Value.null) = cm_f s.heap.size 0 := by
      funext j
      unfold cm_f
      rw [if_neg (Nat.not_lt_zero _)]
    rw [e0]
    rfl
  · rintro x rest s' d' acts'' Q' ⟨i, hi, hl, rfl⟩ hnext
    have hlt : i < n.toNatClampNeg := by
      rcases Nat.lt_or_ge i n.toNatClampNeg with z | z
      · exact z
      · rw [show n.toNatClampNeg - i = 0 from by omega] at hl
        simp at hl
    obtain ⟨rfl, hrest⟩ : x = i ∧ rest = List.range' (i + 1) (n.toNatClampNeg - (i + 1)) := by
      rw [show n.toNatClampNeg - i = (n.toNatClampNeg - (i + 1)) + 1 from by omega, List.range'_succ] at hl
      exact ⟨(List.cons.inj hl).1, (List.cons.inj hl).2⟩
    obtain ⟨i1, i2, i6, i3, i4, i5⟩ := cm_is s cA comp n.toNatClampNeg k.toNatClampNeg x
    have hmul : x * k.toNatClampNeg + k.toNatClampNeg ≤ n.toNatClampNeg * k.toNatClampNeg := by
      have := Nat.mul_le_mul_right k.toNatClampNeg (show x + 1 ≤ n.toNatClampNeg from hlt)
      rw [Nat.succ_mul] at this
      exact this
    simp only [wp_bind']
    refine cm_m1 (by rw [i2]; exact hkc) hkindc hk hl2 hh2 (by omega) (by omega) (fun acts3 => ?_)
    have hlt0 : s.heap.size < (cm_s s cA comp n.toNatClampNeg k.toNatClampNeg x).heap.size := by omega
    simp only [wp_bind', W.writeLoc, wp_pure']
    refine ⟨arrV cA n.toNatClampNeg (cm_f s.heap.size x), (by rw [State.heap_pushCell_of_lt _ _ hlt0]; exact i3), (by intro z; cases z), (by rw [arrV_size]; exact hlt), ?_, hnext _ _ _ ⟨x + 1, hlt, hrest, ?_⟩⟩
    · show State.fitsSlot _ cA .none x (.ref _) = true
      have hv : ((cm_s s cA comp n.toNatClampNeg k.toNatClampNeg x).pushCell (arrV comp k.toNatClampNeg (fun _ => .int 0))).vm = s.vm := i2
      simp [State.fitsSlot, State.slotType?, hv, i2, hkA, hkindA, cm_rf]
    · rw [arrV_store, i1]
      show _ = ((cm_s s cA comp n.toNatClampNeg k.toNatClampNeg x).pushCell (arrV comp k.toNatClampNeg (fun _ => .int 0))).setCell s.heap.size (arrV cA n.toNatClampNeg (cm_f s.heap.size (x + 1)))
      rw [cm_f_s]
  · rintro s' d' acts'' ⟨i, hi, hl, rfl⟩
    have hiN : i = n.toNatClampNeg := by
      rcases Nat.lt_or_ge i n.toNatClampNeg with z | z
      · rw [show n.toNatClampNeg - i = (n.toNatClampNeg - (i + 1)) + 1 from by omega, List.range'_succ] at hl
        cases hl
      · omega
    subst hiN
    simp only [wp_pure']
    exact hq _ _
end
theorem cm_W {cc : ByteArray} (hexec : p.tables.exec = Jvm.exec) (hb : c.code = cc) {own : String} {index : Nat} (hown : s.vm.findClass own = some m.cls) (hclink : (Cond.classLink own index ("[" ++ (FieldType.array .int).toString)).before args s = true)
    (hover : (Cond.arrayOver (.array .int)).before #[] s = true) (harr : (Cond.arrayClass .int).before args s = true)
    {g : JFrame} (hg : g.method = m) (hdg : decode cc g.pc = .ok (.multianewarray index 2, 4)) {n k : Int32} {N M : Nat} {rest : List Value} (hstack : g.stack = .int k :: .int n :: rest) (hn : ¬ n < 0) (hk : ¬ k < 0) (hN : n.toNatClampNeg = N) (hM : k.toNatClampNeg = M) (hb1 : N * 4 ≤ 536870912) (hb2 : M * 4 ≤ 536870912)
    (hcells : cells + (1 + N) ≤ R.cells) (hslots : slots + (N + N * M) ≤ R.slots)
    (kk : ∀ (H' : Heap) (cA cI : ClassId), s.vm.findClass ("[" ++ (FieldType.array .int).toString) = some cA → s.vm.findClass ("[" ++ (FieldType.int).toString) = some cI → H'.size = H.size + 1 + N → (∀ q : Nat, q < H.size → H'[q]? = H[q]?) → H'[H.size]? = some (arrV cA N (cm_f H.size N)) → (∀ j : Nat, j < N → H'[H.size + 1 + j]? = some (arrV cI M (fun _ => .int 0))) →
      W p l e R s m args below meth c H' locs (cells + 1 + N) (slots + N + N * M) Q { g with pc := g.pc + 4, stack := .ref H.size :: rest }) : W p l e R s m args below meth c H locs cells slots Q g := by
  intro T hT X
  subst hT; subst hb; subst hg; subst hN; subst hM
  have hpl : e.platform.magicAccessors = ({} : Platform).magicAccessors := by rw [X.admits.platform]
  obtain ⟨comp, cA, kA, hcomp, -, hkA, hkindA, hnameA⟩ := arrayOverA_spec hover
  obtain ⟨comp', kC, cc, hcomp', hkC, hkindC⟩ := Cond.arrayClass_spec harr
  have ecomp : comp' = comp := Option.some.inj (hcomp'.symm.trans hcomp)
  subst ecomp
  obtain ⟨c0, hfc0, hcl⟩ := Cond.classLink_spec hown hclink e.platform hpl
  have ec : c0 = cA := Option.some.inj (hfc0.symm.trans hnameA)
  subst ec
  obtain ⟨hg₁, hwarm₁, hready₁⟩ := State.classEntry (e := e) X.warmed hcl
  generalize T.vm.noted g.method.cls index (.cls c0) = vm₁ at hg₁ hwarm₁ hready₁
  have hal : s.vm.Alike vm₁ := hwarm₁.alike
  obtain ⟨kA₁, hkA₁, heA⟩ := hal.2.2 _ _ hkA
  obtain ⟨kC₁, hkC₁, heC⟩ := hal.2.2 _ _ hkC
  have hkindA₁ : kA₁.kind = .array comp' (.array .int) := by rw [heA]; exact hkindA
  have hkindC₁ : kC₁.kind = .array cc .int := by rw [heC]; exact hkindC
  have X₁ := X.noted hwarm₁
  have XS := fun i => cm_X X₁ c0 comp' n.toNatClampNeg k.toNatClampNeg i
  have IS := fun i => cm_is (T.setVm vm₁) c0 comp' n.toNatClampNeg k.toNatClampNeg i
  obtain ⟨t, a1, b1⟩ := kk _ c0 comp' hnameA hcomp' (IS n.toNatClampNeg).1 (IS n.toNatClampNeg).2.2.2.2.1 (IS n.toNatClampNeg).2.2.2.1 (IS n.toNatClampNeg).2.2.2.2.2 _ rfl (XS n.toNatClampNeg)
  refine ⟨t, ?_, b1⟩
  have hl1 : ¬ n.toNatClampNeg > e.platform.arrayLengthLimit := by rw [Launch.admits_arrayLengthLimit X.admits]; omega
  have hh1 : ¬ n.toNatClampNeg * componentBytes (.array .int) > e.platform.maxHeapBytes := by
    rw [Launch.admits_maxHeapBytes X.admits]; show ¬ n.toNatClampNeg * 4 > 536870912; omega
  have hl2 : ¬ k.toNatClampNeg > e.platform.arrayLengthLimit := by rw [Launch.admits_arrayLengthLimit X.admits]; omega
  have hh2 : ¬ k.toNatClampNeg * componentBytes .int > e.platform.maxHeapBytes := by
    rw [Launch.admits_maxHeapBytes X.admits]; show ¬ k.toNatClampNeg * 4 > 536870912; omega
  jvm_step X.here [hexec, hdg]
  simp only [multianewarray.sem, wp_bind', W.resolveClassAt_links (State.method?_setTop g X.here.top) hg₁]
  rw [W.popN, if_neg (by decide)]
  refine ⟨g, State.topJava?_setTop' (s := T.setVm vm₁) g X.here.top, [.int n, .int k], rest, rfl, hstack, ?_⟩
  simp only [List.mapM_cons, List.mapM_nil, wp_bind', wp_pure']
  obtain ⟨r1, r2⟩ := X₁.roomAbove hcells hslots
  have r1' : T.heap.size + (1 + n.toNatClampNeg) ≤ e.platform.maxCells := r1
  have r2' : T.slotsUsed + (n.toNatClampNeg + n.toNatClampNeg * k.toNatClampNeg) ≤ e.platform.maxSlots := r2
  refine cm_m2 (s := ((T.setTop g).setVm vm₁).setTop { g with stack := rest }) (kA := kA₁) (kc := kC₁) (comp := comp') (cc := cc) hkA₁ hkindA₁ hkC₁ hkindC₁ hn hk hl1 hh1 hl2 hh2 r1' r2' (fun d' acts' => ?_)
  have XF := XS n.toNatClampNeg
  have eS : ((T.setTop g).setVm vm₁).setTop { g with stack := rest } = (T.setVm vm₁).setTop { g with stack := rest } := by
    show ((T.setVm vm₁).setTop g).setTop _ = _
    rw [State.setTop_setTop]
  rw [eS, cm_top]
  simp only [wp_bind', W.mark, W.pushRef, State.topJava?_setTop' _ XF.here.top, Option.some.injEq, exists_eq_left', State.setTop_setTop, State.heap_setTop]
  intro acts4
  simp [jvm, XF.here.top]
  exact a1
end
