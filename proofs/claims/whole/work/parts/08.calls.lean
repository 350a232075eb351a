/-! calls -/
def ab_P (G : ab_G) (ST : aa_St) (sk : aa_Sk) (V : aa_V) (U : State) : Prop := (sk.length < ac_N → U.heap.size = G.1 + sk.length) ∧ (G.1 ≤ U.heap.size ∧ cx_N G U) ∧ va_P (ab_D G) vwCl (ab_ws G sk V) U.heap ∧ va_K (ab_D G) vwCl (ab_ty G) U ∧ ab_SW G ST U U.heap ∧ sk.length ≤ 1000000 ∧ aa_wf sk
def ab_Q (G : ab_G) (skr : aa_Sk) (K : aa_K) : Array Value → State → Outcome → State → Prop := fun _ st oc t => ∃ (r : Option Value) (V' : aa_V), oc = .returned (r.map (ab_v G)) ∧ K r V' ∧ (skr.length < ac_N → t.heap.size = G.1 + skr.length) ∧ va_P (ab_D G) vwCl (ab_ws G skr V') t.heap ∧ va_F (ab_A G) st t
theorem ab_P.blind {G : ab_G} {ST : aa_St} {sk : aa_Sk} {V : aa_V} {av : List Value} : FrameBlind (va_Pc av (ab_P G ST sk V)) := by
  intro a U g mk q
  obtain ⟨q1, q2, q3, q4, q5, q6, q7, q8⟩ := q
  exact ⟨q1, q2, q3, q4, va_K.moved (u := U) (U := U.calling g mk a) (Vm.Alike.refl U.vm) q5, ab_SW.same (s := U) (U := U.calling g mk a) rfl q6, q7, q8⟩
def ab_rm (d mc ms : Nat) : Room := { frames := d, cells := mc, slots := ms, locals := 40 * d }
theorem ab_met {G : ab_G} {ST : aa_St} {l : Launch} {d mm : Nat} {M : ac_R} {as : List Value} {sk skr : aa_Sk} {V : aa_V} {K : aa_K} (hM : ac_M mm = some M) (hy : plainName M.1.cls = true) (hlen : aa_cat as ≤ M.2.2.1) (hu : ab_u sk ≤ ab_u skr) (hus : ab_us sk ≤ ab_us skr) (hwf : aa_wf skr) (hsl : skr.length ≤ 1000000)
    (hJ : ab_J G ST l d mm 0 (ab_en0 mm as) [] sk V skr K) : Met l M.1 (.code M.1 M.2.1 M.2.2.1 M.2.2.2 :: aa_BW) (ab_rm d (ab_u skr - ab_u sk) (ab_us skr - ab_us sk)) (va_Pc (as.map (ab_v G)) (ab_P G ST sk V)) (ab_Q G skr K) (ab_u skr - ab_u sk) (ab_us skr - ab_us sk) (ab_A G) := by
  refine Met.ofW (cc := M.2.1) (maxL := M.2.2.1) (ret := M.2.2.2) hy rfl ?_
  intro p e s m args below meth c s₁ B hml hv
  obtain ⟨rfl, p1, p2, p3, p4, p5, p6, p7⟩ := hv
  have hx := B.exec
  have hb := B.bytes
  have hr := B.returns
  have hts := atoms_spec (ws := .code M.1 M.2.1 M.2.2.1 M.2.2.2 :: aa_BW) B.pre
  have hown : s.vm.findClass M.1.cls = some m.cls := findClass_of_methodNamed B.named
  have hlocks := B.notSynchronized
  have hin : meth.name = M.1.name := (name_of_methodNamed B.named B.method).1
  have hG := p5.2.2.2.2.2.1
  rw [lg_entry_eq]
  have hL := ab_entry hG as M.2.2.1 hlen
  have hen : ab_en0 mm as = aa_pad M.2.2.1 (aa_ar as) := by unfold ab_en0; rw [hM]
  rw [hen] at hJ
  have hA : ∀ q : Nat, s.heap.size ≤ q → ab_A G q := fun q h => Nat.le_trans p2.1 h
  refine hJ M p e _ s m _ below meth c _ s.heap [] 0 0 _ hM ⟨hx, hb, hml, hown, fun w hw => hts w (List.mem_cons_of_mem _ hw), hr, hlocks, hin, p4, p5, Nat.le_refl _, Nat.le_refl _, p2⟩ ⟨p1, p3, va_S.rf, p6, p7⟩ hL ?_ ?_ ?_
  · exact ⟨by show 0 + ab_u skr ≤ ab_u skr - ab_u sk + ab_u sk; omega, hu⟩
  · exact ⟨by show 0 + ab_us skr ≤ ab_us skr - ab_us sk + ab_us sk; omega, hus⟩
  · intro r V' H' locs' cells' slots' ls' pc' hK hH' hc' hs' hre
    refine W.widen (k := ab_u skr - ab_u sk) (n := ab_us skr - ab_us sk) hc' hs' ?_
    have hq : ∀ t : State, t.heap = H' → s.WarmedH t.vm → ab_Q G skr K (as.map (ab_v G)).toArray s (.returned (r.map (ab_v G))) t := fun t ht _ => ⟨r, V', rfl, hK, by rw [ht]; exact hH'.1, by rw [ht]; exact hH'.2.1, hH'.2.2.1.F ht⟩
    have hf : ∀ q ∈ locs', ab_A G q.base := hH'.2.2.1.2.2
    cases r with
    | none =>
      obtain ⟨hd, hret⟩ := hre
      exact W.vret hx hb (hr.trans hret) hq hf hd
    | some v =>
      cases v with
      | int x =>
        obtain ⟨hd, ty, hret, hnr⟩ := hre
        exact W.zret hx hb (hr.trans hret) hnr hq hf hd
      | long x =>
        obtain ⟨hd, hret⟩ := hre
        exact W.lret hx hb (hr.trans hret) hq hf hd
      | ref a =>
        obtain ⟨hd, n, hret⟩ := hre
        exact W.aret hx hb (hr.trans hret) (Or.inl ⟨n, rfl⟩) (Or.inr ⟨_, rfl⟩) hq hf hd
      | _ => exact hre.elim
theorem ab_after {G : ab_G} {p : Program} {l : Launch} {e : Env} {R : Room} {s : State} {m : MethodId} {args : Array Value} {below : List Frame} {meth : Method} {c : Code} {Qw : State → Prop} {H : Heap} {locs : List Loc} {cells slots mc ms pc : Nat} {ls : Array Slot} {sk skr : aa_Sk} {V : aa_V} {K : aa_K} {st0 rest : List Value} {a : Array Value}
    (hr : va_Run p l e R s m args below meth c H locs cells slots mc ms (F0 m pc ls st0) rest (ab_Q G skr K a) (ab_A G)) (hH : ab_H G sk V s H locs) (hb : G.1 ≤ s.heap.size) (hwf : aa_wf skr) (hsl : skr.length ≤ 1000000)
    (kk : ∀ (r : Option Value) (V' : aa_V) (H1 : Heap) (locs1 : List Loc), K r V' → ab_H G skr V' s H1 locs1 → W p l e R s m args below meth c H1 locs1 (cells + mc) (slots + ms) Qw (F0 m (pc + 3) ls ((r.map (ab_v G)).toList ++ rest))) : W p l e R s m args below meth c H locs cells slots Qw (F0 m pc ls st0) := by
  intro T hT X
  obtain ⟨v, st₀, t, T', L, h0, X', hL, e1, e2, ⟨r, V', hv, hK, hz, hP, hF⟩, st⟩ := hr T hT X
  cases hv
  have hS := hH.2.2.1
  obtain ⟨t2, a1, b1⟩ := kk r V' T'.heap (locs ++ L) hK ⟨fun q => by rw [e1]; exact hz q, by rw [e1]; exact hP, ⟨Nat.le_trans hS.1 (by rw [e1, ← h0]; exact hF.1), fun q h1 h2 => by
      rw [e1, hF.2 q (by rw [h0]; exact Nat.lt_of_lt_of_le h1 hS.1) h2, h0]
      exact hS.2.1 q h1 h2, fun q hq => by
      rcases List.mem_append.mp hq with h | h
      · exact hS.2.2 q h
      · exact hL q h⟩, hsl, hwf⟩ T' rfl X'
  exact ⟨t2, st t2 a1, b1⟩
/-- the state that a call meets -/
theorem ab_pre {G : ab_G} {ST : aa_St} {d : Nat} {M : ac_R} {p : Program} {R : Room} {s : State} {m : MethodId} {args : Array Value} {meth : Method} {c : Code} {H : Heap} {locs : List Loc} {sk : aa_Sk} {V : aa_V} {av : List Value}
    (hC : ab_C G ST d M p R s m args meth c) (hH : ab_H G sk V s H locs) : ∀ U : State, U.heap = H → s.WarmedH U.vm → va_Pc av (ab_P G ST sk V) av.toArray U := by
  intro U hU hW
  obtain ⟨c1, c2, c3, c4, c5, c6, c7, c8, c9, c10, c11, c12, c13⟩ := hC
  have hS := hH.2.2.1
  have hkept : ab_SW G ST s H := c10.kept fun a h1 h2 => hS.2.1 a h1 h2
  exact ⟨rfl, by rw [hU]; exact hH.1, ⟨by rw [hU]; exact Nat.le_trans c13.1 hS.1, c13.2.moved hW.alike⟩, by rw [hU]; exact hH.2.1, c9.moved hW.alike, by rw [hU]; exact hkept.warm hW, hH.2.2.2.1, hH.2.2.2.2⟩
/-- what a callee's own words rest on -/
theorem ab_good {M : ac_R} (h : Cond.code M.1 M.2.1 M.2.2.1 M.2.2.2 ∈ aa_BW) : GoodIn aa_BW (.code M.1 M.2.1 M.2.2.1 M.2.2.2 :: aa_BW) := fun w hw => by
  rcases List.mem_cons.mp hw with rfl | hw
  · exact aa_bwg h
  · exact aa_bwg hw
/-- what a callee is: its words -/
def ac_ce (mm n : Nat) (M : ac_R) : Prop := ac_M mm = some M ∧ plainName M.1.cls = true ∧ Cond.code M.1 M.2.1 M.2.2.1 M.2.2.2 ∈ aa_BW ∧ Cond.initialized M.1.cls ∈ aa_BW ∧ (M.1.cls ≠ "java/lang/invoke/MethodHandle" ∧ M.1.cls ≠ "java/lang/invoke/VarHandle") ∧ (parseMethodDescriptor M.1.desc).map (fun d => d.parameters.length) = some n
/-- how a site finds it: by the tables, or as a nest mate -/
def ac_lk (own : String) (ix : Nat) (y : MethodName) : Prop := Cond.methodLink own ix y ∈ aa_BW ∨ ∃ host, (own, ix, y, host) ∈ ac_nest
theorem aa_pop_eq : ∀ (n : Nat) (st acc as r : List Value), aa_pop n st acc = some (as, r) → as.reverse ++ r = acc.reverse ++ st ∧ as.length = n + acc.length
  | 0, st, acc, as, r, h => by simp only [aa_pop] at h; cases h; exact ⟨rfl, by omega⟩
  | n + 1, [], acc, as, r, h => by simp [aa_pop] at h
  | n + 1, v :: st, acc, as, r, h => by
    simp only [aa_pop] at h
    obtain ⟨h1, h2⟩ := aa_pop_eq n st (v :: acc) as r h
    exact ⟨by rw [h1]; simp, by rw [h2]; simp; omega⟩
/-- a call's answer goes on the stack -/
def aa_kOk (rk : aa_Kk) : Prop := ∀ (k : List Value → aa_V → Prop) (r : Option Value) (V : aa_V), rk k r V → k r.toList V
theorem aa_kI_ok : aa_kOk aa_kI := by
  intro k r V h
  cases r with
  | none => exact h.elim
  | some v => cases v <;> first | exact h | exact h.elim
theorem aa_kL_ok : aa_kOk aa_kL := by
  intro k r V h
  cases r with
  | none => exact h.elim
  | some v => cases v <;> first | exact h | exact h.elim
theorem aa_kR_ok : aa_kOk aa_kR := by
  intro k r V h
  cases r with
  | none => exact h.elim
  | some v => cases v <;> first | exact h | exact h.elim
theorem aa_kV_ok : aa_kOk aa_kV := by
  intro k r V h
  cases r with
  | none => exact h
  | some v => exact h.elim
theorem ab_tl (G : ab_G) (r : Option Value) (st : List Value) : (r.map (ab_v G)).toList ++ st.map (ab_v G) = (r.toList ++ st).map (ab_v G) := by cases r <;> rfl
theorem ab_nst {G : ab_G} {ST : aa_St} {s : State} {H : Heap} (h : ab_SW G ST s H) {own : String} {ix : Nat} {y : MethodName} {host : String} (hm : (own, ix, y, host) ∈ ac_nest) : va_Nw (.methodLinkNest own ix y host) s := h.1 _ hm
/-- a static call's run -/
theorem ab_runs {G : ab_G} {ST : aa_St} {d pc n m' ix : Nat} {M M' : ac_R} {p : Program} {l : Launch} {e : Env} {R : Room} {s : State} {m : MethodId} {args : Array Value} {below : List Frame} {meth : Method} {c : Code} {H : Heap} {locs : List Loc} {cells slots : Nat} {ls : Array Slot} {sk skr : aa_Sk} {V : aa_V} {K : aa_K} {as st : List Value}
    (hC : ab_C G ST (d + 1) M p R s m args meth c) (hH : ab_H G sk V s H locs) (hL : ls.size = M.2.2.1) (hd : decode M.2.1 pc = .ok (.invokestatic ix, 3)) (hce : ac_ce m' n M') (hlk : ac_lk M.1.cls ix M'.1) (hst : Cond.static M'.1 ∈ aa_BW) (has : as.length = n) (hcs : aa_cat st ≤ 8) (hca : aa_cat as ≤ M'.2.2.1)
    (hu : ab_u sk ≤ ab_u skr) (hus : ab_us sk ≤ ab_us skr) (hwf : aa_wf skr) (hsl : skr.length ≤ 1000000) (hcl : cells + (ab_u skr - ab_u sk) ≤ R.cells) (hsl2 : slots + (ab_us skr - ab_us sk) ≤ R.slots) (hmx : M'.2.2.1 ≤ 21)
    (hJ : ab_J G ST l d m' 0 (ab_en0 m' as) [] sk V skr K) :
    va_Run p l e R s m args below meth c H locs cells slots (ab_u skr - ab_u sk) (ab_us skr - ab_us sk) (F0 m pc ls ((as.map (ab_v G)).reverse ++ st.map (ab_v G))) (st.map (ab_v G)) (ab_Q G skr K (as.map (ab_v G)).toArray) (ab_A G) := by
  obtain ⟨e1, e2, e3, e4, e5, e6⟩ := hce
  have hMet := ab_met e1 e2 hca hu hus hwf hsl hJ
  have hCC := hC
  obtain ⟨c1, c2, c3, c4, c5, c6, c7, c8, c9, c10, c11, c12, c13⟩ := hC
  have hW : 2 * (F0 m pc ls ((as.map (ab_v G)).reverse ++ st.map (ab_v G))).monitorRoom + ((st.map (ab_v G)).map fun v => v.category).sum ≤ 8 := lv_room (by rw [aa_cat_eq c10.2.2.2.2.2.1]; exact hcs)
  have hR : (ab_rm d (ab_u skr - ab_u sk) (ab_us skr - ab_us sk)).frames + 1 ≤ R.frames ∧ 8 + (M'.2.2.1 + 11) + (ab_rm d (ab_u skr - ab_u sk) (ab_us skr - ab_us sk)).locals ≤ R.locals := ⟨c11, by show 8 + (M'.2.2.1 + 11) + 40 * d ≤ R.locals; omega⟩
  rcases hlk with hlk | ⟨host, hlk⟩
  · exact va_runS (Ts := aa_BW) ⟨c1, c2, c3, c4, c5⟩ hMet ⟨callB_of n c5 (ab_good e3) rfl rfl rfl (c5 _ e4) (c5 _ hlk) ⟨e5.1, e5.2, e6⟩ hR, c5 _ hst⟩ ⟨ab_P.blind, ab_pre hCC hH⟩ rfl (by rw [List.length_map]; exact has) hL rfl hW hd ⟨hcl, hsl2⟩
  · exact va_runSN (Ts := aa_BW) (host := host) ⟨c1, c2, c3, c4, c5⟩ hMet ⟨va_cnB n c5 (ab_good e3) rfl rfl rfl (ab_nst c10 hlk) (c5 _ e4) ⟨e5.1, e5.2, e6⟩ hR, c5 _ hst, trivial⟩ ⟨ab_P.blind, ab_pre hCC hH⟩ rfl (by rw [List.length_map]; exact has) hL rfl hW hd ⟨hcl, hsl2⟩
theorem as_ccs {mm pc : Nat} {M : ac_R} (hM : ac_M mm = some M) {ix m' n nl nx : Nat} {rk : aa_Kk} {M' : ac_R} (hrk : aa_kOk rk) (hd : decode M.2.1 pc = .ok (.invokestatic ix, 3)) (hce : ac_ce m' n M') (hlk : ac_lk M.1.cls ix M'.1) (hst : Cond.static M'.1 ∈ aa_BW) (hnl : M'.2.2.1 = nl) (hmx : nl ≤ 21) (hn : pc + 3 = nx) : ab_Snd mm pc (aa_ccs m' n nl rk nx) := by
  intro G ST l d lo st sk V skr K ret go hrt h hk Mx p e R s m args below meth c Qw H locs cells slots ls hM' hC hH hL hc hs hret
  cases hM.symm.trans hM'
  subst hn
  subst hnl
  simp only [aa_ccs] at h
  cases hp : aa_pop n st [] with
  | none => simp only [hp] at h
  | some q =>
    obtain ⟨as, r⟩ := q
    simp only [hp] at h
    cases hb : (Nat.ble (aa_cat r) 8 && Nat.ble (aa_cat as) M'.2.2.1) with
    | false => simp only [hb] at h
    | true =>
      simp only [hb] at h
      rw [Bool.and_eq_true] at hb
      obtain ⟨h1, h2⟩ := aa_pop_eq n st [] as r hp
      have hst2 : st = as.reverse ++ r := by rw [h1]; rfl
      subst hst2
      have hrun := ab_runs (e := e) (below := below) (cells := cells) (slots := slots) hC hH hL.1 hd hce hlk hst (by rw [h2]; rfl) (Nat.le_of_ble_eq_true hb.1) (Nat.le_of_ble_eq_true hb.2) (Nat.le_refl _) (Nat.le_refl _) hH.2.2.2.2 hH.2.2.2.1 (by omega) (by omega) hmx h
      rw [List.map_append, List.map_reverse]
      refine ab_after hrun hH hC.2.2.2.2.2.2.2.2.2.2.2.2.1 hH.2.2.2.2 hH.2.2.2.1 (fun res V' H1 locs1 hK hH1 => ?_)
      rw [ab_tl]
      exact hk (pc + 3) lo (res.toList ++ r) V' (hrk (fun pre V' => go (pc + 3) lo (pre ++ r) V') res V' hK) M p e R s m args below meth c Qw H1 locs1 _ _ ls hM hC hH1 hL (by omega) (by omega) hret
/-- an instance call's run -/
theorem ab_runv {G : ab_G} {ST : aa_St} {d pc n m' ix b : Nat} {M M' : ac_R} {p : Program} {l : Launch} {e : Env} {R : Room} {s : State} {m : MethodId} {args : Array Value} {below : List Frame} {meth : Method} {c : Code} {H : Heap} {locs : List Loc} {cells slots : Nat} {ls : Array Slot} {sk skr : aa_Sk} {V : aa_V} {K : aa_K} {as st : List Value}
    (hC : ab_C G ST (d + 1) M p R s m args meth c) (hH : ab_H G sk V s H locs) (hL : ls.size = M.2.2.1) (hd : decode M.2.1 pc = .ok (.invokevirtual ix, 3)) (hce : ac_ce m' n M') (hlk : ac_lk M.1.cls ix M'.1) (hin : Cond.instanceMethod M'.1 ∈ aa_BW) (hse : Cond.selects M'.1.cls M'.1 M'.1 ∈ aa_BW) (has : as.length = n) (hcs : aa_cat st ≤ 8) (hca : aa_cat as + 1 ≤ M'.2.2.1)
    (hrv : ∃ cell : Cell, H[ab_ad G b]? = some cell ∧ cell.vm.isStatics = false ∧ s.vm.findClass M'.1.cls = some cell.cls)
    (hu : ab_u sk ≤ ab_u skr) (hus : ab_us sk ≤ ab_us skr) (hwf : aa_wf skr) (hsl : skr.length ≤ 1000000) (hcl : cells + (ab_u skr - ab_u sk) ≤ R.cells) (hsl2 : slots + (ab_us skr - ab_us sk) ≤ R.slots) (hmx : M'.2.2.1 ≤ 21)
    (hJ : ab_J G ST l d m' 0 (ab_en0 m' (.ref b :: as)) [] sk V skr K) :
    va_Run p l e R s m args below meth c H locs cells slots (ab_u skr - ab_u sk) (ab_us skr - ab_us sk) (F0 m pc ls ((as.map (ab_v G)).reverse ++ .ref (ab_ad G b) :: st.map (ab_v G))) (st.map (ab_v G)) (ab_Q G skr K (.ref (ab_ad G b) :: as.map (ab_v G)).toArray) (ab_A G) := by
  obtain ⟨e1, e2, e3, e4, e5, e6⟩ := hce
  have hMet := ab_met (as := .ref b :: as) e1 e2 (by show aa_cat as + 1 ≤ _; exact hca) hu hus hwf hsl hJ
  have hCC := hC
  obtain ⟨c1, c2, c3, c4, c5, c6, c7, c8, c9, c10, c11, c12, c13⟩ := hC
  have hW : 2 * (F0 m pc ls ((as.map (ab_v G)).reverse ++ .ref (ab_ad G b) :: st.map (ab_v G))).monitorRoom + ((st.map (ab_v G)).map fun v => v.category).sum ≤ 8 := lv_room (by rw [aa_cat_eq c10.2.2.2.2.2.1]; exact hcs)
  have hR : (ab_rm d (ab_u skr - ab_u sk) (ab_us skr - ab_us sk)).frames + 1 ≤ R.frames ∧ 8 + (M'.2.2.1 + 11) + (ab_rm d (ab_u skr - ab_u sk) (ab_us skr - ab_us sk)).locals ≤ R.locals := ⟨c11, by show 8 + (M'.2.2.1 + 11) + 40 * d ≤ R.locals; omega⟩
  rcases hlk with hlk | ⟨host, hlk⟩
  · exact va_runV (Ts := aa_BW) (C := M'.1.cls) ⟨c1, c2, c3, c4, c5⟩ hMet ⟨callB_of n c5 (ab_good e3) rfl rfl rfl (c5 _ e4) (c5 _ hlk) ⟨e5.1, e5.2, e6⟩ hR, c5 _ hin, c5 _ hse⟩ ⟨ab_P.blind, hrv, ab_pre hCC hH⟩ rfl (by rw [List.length_map]; exact has) hL rfl hW hd ⟨hcl, hsl2⟩
  · exact va_runVN (Ts := aa_BW) (C := M'.1.cls) (host := host) ⟨c1, c2, c3, c4, c5⟩ hMet ⟨va_cnB n c5 (ab_good e3) rfl rfl rfl (ab_nst c10 hlk) (c5 _ e4) ⟨e5.1, e5.2, e6⟩ hR, c5 _ hin, c5 _ hse⟩ ⟨ab_P.blind, hrv, ab_pre hCC hH⟩ rfl (by rw [List.length_map]; exact has) hL rfl hW hd ⟨hcl, hsl2⟩
theorem ab_recv {G : ab_G} {ST : aa_St} {d ci b n : Nat} {M : ac_R} {p : Program} {R : Room} {s : State} {m : MethodId} {args : Array Value} {meth : Method} {c : Code} {H : Heap} {locs : List Loc} {sk : aa_Sk} {V : aa_V} {rs : List Nat} {q : vw_C}
    (hC : ab_C G ST d M p R s m args meth c) (hH : ab_H G sk V s H locs) (hs : aa_sh sk b = some (ci, n, rs)) (hq : vwCl[ci]? = some q) (hci : ci < 100) : ∃ cell : Cell, H[ab_ad G b]? = some cell ∧ cell.vm.isStatics = false ∧ s.vm.findClass q.1 = some cell.cls := by
  obtain ⟨c1, c2, c3, c4, c5, c6, c7, c8, c9, c10, c11, c12, c13⟩ := hC
  have hg := ab_ws_get (G := G) (V := V) hs
  rw [ab_en_o (show (ci, n, rs).1 < 100 from hci)] at hg
  rw [hH.lt hs]
  exact va_recv c9 hH.2.1 hq hg
/-- what an instance call rests on -/
def ac_cv (M : ac_R) (ix m' n nl ci : Nat) (M' : ac_R) : Prop := ac_ce m' n M' ∧ ac_lk M.1.cls ix M'.1 ∧ Cond.instanceMethod M'.1 ∈ aa_BW ∧ Cond.selects M'.1.cls M'.1 M'.1 ∈ aa_BW ∧ M'.2.2.1 = nl ∧ nl ≤ 21 ∧ ∃ q : vw_C, vwCl[ci]? = some q ∧ q.1 = M'.1.cls ∧ ci < 100
theorem ab_callv {G : ab_G} {ST : aa_St} {l : Launch} {d mm pc m' n nl nx ix b : Nat} {M M' : ac_R} {rk : aa_Kk} {lo : aa_Lo} {as r : List Value} {sk skr : aa_Sk} {V : aa_V} {K : aa_K} {go : aa_Go} (hM : ac_M mm = some M) (hrk : aa_kOk rk) (hd : decode M.2.1 pc = .ok (.invokevirtual ix, 3)) (hce : ac_ce m' n M') (hlk : ac_lk M.1.cls ix M'.1) (hin : Cond.instanceMethod M'.1 ∈ aa_BW) (hse : Cond.selects M'.1.cls M'.1 M'.1 ∈ aa_BW) (hnl : M'.2.2.1 = nl) (hmx : nl ≤ 21) (hn : pc + 3 = nx)
    (has : as.length = n) (hb : (Nat.ble (aa_cat r) 8 && Nat.ble (aa_cat as + 1) nl) = true)
    (hrv : ∀ (p : Program) (R : Room) (s : State) (m : MethodId) (args : Array Value) (meth : Method) (c : Code) (H : Heap) (locs : List Loc), ab_C G ST (d + 1) M p R s m args meth c → ab_H G sk V s H locs → ∃ cell : Cell, H[ab_ad G b]? = some cell ∧ cell.vm.isStatics = false ∧ s.vm.findClass M'.1.cls = some cell.cls)
    (h : ab_E G ST l d sk m' (.ref b :: as) V (rk (fun pre V' => go nx lo (pre ++ r) V'))) (hk : ∀ (pc' : Nat) (lo' : aa_Lo) (st' : List Value) (V' : aa_V), go pc' lo' st' V' → ab_J G ST l (d + 1) mm pc' lo' st' sk V' skr K) : ab_J G ST l (d + 1) mm pc lo (as.reverse ++ .ref b :: r) sk V skr K := by
  intro Mx p e R s m args below meth c Qw H locs cells slots ls hM' hC hH hL hc hs hret
  cases hM.symm.trans hM'
  subst hn
  subst hnl
  rw [Bool.and_eq_true] at hb
  have hrun := ab_runv (e := e) (below := below) (cells := cells) (slots := slots) hC hH hL.1 hd hce hlk hin hse has (Nat.le_of_ble_eq_true hb.1) (Nat.le_of_ble_eq_true hb.2) (hrv p R s m args meth c H locs hC hH) (Nat.le_refl _) (Nat.le_refl _) hH.2.2.2.2 hH.2.2.2.1 (by omega) (by omega) hmx h
  rw [List.map_append, List.map_reverse]
  refine ab_after hrun hH hC.2.2.2.2.2.2.2.2.2.2.2.2.1 hH.2.2.2.2 hH.2.2.2.1 (fun res V' H1 locs1 hK hH1 => ?_)
  rw [ab_tl]
  exact hk (pc + 3) lo (res.toList ++ r) V' (hrk (fun pre V' => go (pc + 3) lo (pre ++ r) V') res V' hK) M p e R s m args below meth c Qw H1 locs1 _ _ ls hM hC hH1 hL (by omega) (by omega) hret
theorem as_ccv {mm pc : Nat} {M : ac_R} (hM : ac_M mm = some M) {ix m' n nl ci nx : Nat} {rk : aa_Kk} {M' : ac_R} (hrk : aa_kOk rk) (hd : decode M.2.1 pc = .ok (.invokevirtual ix, 3)) (hcv : ac_cv M ix m' n nl ci M') (hn : pc + 3 = nx) : ab_Snd mm pc (aa_ccv m' n nl ci rk nx) := by
  intro G ST l d lo st sk V skr K ret go hrt h hk
  obtain ⟨hce, hlk, hin, hse, hnl, hmx, q, hq, hqc, hci⟩ := hcv
  simp only [aa_ccv] at h
  cases hp : aa_pop n st [] with
  | none => simp only [hp] at h
  | some qq =>
    obtain ⟨as, r⟩ := qq
    simp only [hp] at h
    cases r with
    | nil => exact h.elim
    | cons v r =>
      cases v with
      | ref b =>
        simp only at h
        cases hb : (Nat.ble (aa_cat r) 8 && Nat.ble (aa_cat as + 1) nl) with
        | false => simp only [hb] at h
        | true =>
          simp only [hb] at h
          cases hsa : aa_sh sk b with
          | none => simp only [hsa] at h
          | some ce =>
            obtain ⟨c0, n0, rs⟩ := ce
            simp only [hsa] at h
            cases hbq : Nat.beq c0 ci with
            | false => simp only [hbq] at h
            | true =>
              simp only [hbq] at h
              have hb2 := Nat.eq_of_beq_eq_true hbq
              subst hb2
              obtain ⟨h1, h2⟩ := aa_pop_eq n st [] as _ hp
              have hst2 : st = as.reverse ++ .ref b :: r := by rw [h1]; rfl
              rw [hst2]
              exact ab_callv hM hrk hd hce hlk hin hse hnl hmx hn (by rw [h2]; rfl) hb (fun p R s m args meth c H locs hC hH => by rw [← hqc]; exact ab_recv hC hH hsa hq hci) h hk
      | _ => exact h.elim
theorem as_ccu {mm pc : Nat} {M : ac_R} (hM : ac_M mm = some M) {ix m' n nl ci nx : Nat} {rk : aa_Kk} {M' : ac_R} (hrk : aa_kOk rk) (hd : decode M.2.1 pc = .ok (.invokevirtual ix, 3)) (hcv : ac_cv M ix m' n nl ci M') (hn : pc + 3 = nx) : ab_Snd mm pc (aa_ccu m' n nl ci rk nx) := by
  intro G ST l d lo st sk V skr K ret go hrt h hk
  obtain ⟨hce, hlk, hin, hse, hnl, hmx, q, hq, hqc, hci⟩ := hcv
  simp only [aa_ccu] at h
  cases hp : aa_pop n st [] with
  | none => simp only [hp] at h
  | some qq =>
    obtain ⟨as, r⟩ := qq
    simp only [hp] at h
    cases r with
    | nil => exact h.elim
    | cons v r =>
      cases v with
      | ref b =>
        simp only at h
        cases hb : (Nat.ble (aa_cat r) 8 && Nat.ble (aa_cat as + 1) nl) with
        | false => simp only [hb] at h
        | true =>
          simp only [hb] at h
          obtain ⟨⟨n0, rs, hsa⟩, h⟩ := h
          obtain ⟨h1, h2⟩ := aa_pop_eq n st [] as _ hp
          have hst2 : st = as.reverse ++ .ref b :: r := by rw [h1]; rfl
          rw [hst2]
          exact ab_callv hM hrk hd hce hlk hin hse hnl hmx hn (by rw [h2]; rfl) hb (fun p R s m args meth c H locs hC hH => by rw [← hqc]; exact ab_recv hC hH hsa hq hci) h hk
      | _ => exact h.elim
/-- a String's own method -/
theorem as_ccS {mm pc : Nat} {M : ac_R} (hM : ac_M mm = some M) {ix m' n nl nx : Nat} {rk : aa_Kk} {M' : ac_R} (hrk : aa_kOk rk) (hd : decode M.2.1 pc = .ok (.invokevirtual ix, 3)) (hce : ac_ce m' n M') (hlk : ac_lk M.1.cls ix M'.1) (hin : Cond.instanceMethod M'.1 ∈ aa_BW) (hse : Cond.selects M'.1.cls M'.1 M'.1 ∈ aa_BW) (hnl : M'.2.2.1 = nl) (hmx : nl ≤ 21) (hcl : M'.1.cls = "java/lang/String") (hn : pc + 3 = nx) : ab_Snd mm pc (aa_ccS m' n nl rk nx) := by
  intro G ST l d lo st sk V skr K ret go hrt h hk
  simp only [aa_ccS] at h
  cases hp : aa_pop n st [] with
  | none => simp only [hp] at h
  | some qq =>
    obtain ⟨as, r⟩ := qq
    simp only [hp] at h
    cases r with
    | nil => exact h.elim
    | cons v r =>
      cases v with
      | ref b =>
        simp only at h
        cases hb : (Nat.ble (aa_cat r) 8 && Nat.ble (aa_cat as + 1) nl) with
        | false => simp only [hb] at h
        | true =>
          simp only [hb] at h
          obtain ⟨g1, g2, h⟩ := h
          obtain ⟨h1, h2⟩ := aa_pop_eq n st [] as _ hp
          have hst2 : st = as.reverse ++ .ref b :: r := by rw [h1]; rfl
          rw [hst2]
          obtain ⟨j, hj⟩ : ∃ j : Nat, b = 2000000 + j := ⟨b - 2000000, (Nat.add_sub_cancel' g1).symm⟩
          subst hj
          have hj : j < 12 := Nat.lt_of_add_lt_add_left g2
          refine ab_callv hM hrk hd hce hlk hin hse hnl hmx hn (by rw [h2]; rfl) hb (fun p R s m args meth c H locs hC hH => ?_) h hk
          obtain ⟨c1, c2, c3, c4, c5, c6, c7, c8, c9, c10, c11, c12, c13⟩ := hC
          obtain ⟨cell, q1, q2, q3, -⟩ := (c10.2.2.2.2.2.2.2.2.1 j hj).1.kept hH.2.2.1.2.1
          rw [hcl]
          exact ⟨cell, q1, q2, q3⟩
      | _ => exact h.elim
