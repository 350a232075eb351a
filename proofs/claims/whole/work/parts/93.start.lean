/-! the law, from its entry -/
theorem by_Ev.mono {old : Bool} {G : ab_G} {ST : aa_St} {l : Launch} {d d' : Nat} {ev : bz_E} (h : by_Ev old G ST l d ev) (hd : d ≤ d') : by_Ev old G ST l d' ev := by
  intro m as M M' r hr
  obtain ⟨h1, h2, h3⟩ := h m as M M' r hr
  exact ⟨h1, h2, fun K hK => (h3 K hK).mono hd (fun _ _ q => q)⟩
set_option maxRecDepth 100000 in
theorem st_J {G : ab_G} {L : Nat} {xs : Nat → Int32} {l : Launch} (hL : L ≤ 3072) : ab_J G (ac_ST L xs) l 61 301 0 [some (.ref 1000002), none, none, none] [] [] (bz_V []) ac_SK (fun r _ => r = some (.int 1)) := by
  have h1 : by_Ev true G (ac_ST L xs) l 60 (bf_kn 20) := by_Ev.mono (d := 20) (by rw [bf_kn_eq]; exact bz_ev_ok bD_o_ok 20) (by decide)
  have h2 : by_Ev false G (ac_ST L xs) l 60 (bf_ev 20) := by_Ev.mono (d := 20) (bf_ev_ok 20) (by decide)
  have run : bz_gd false G (ac_ST L xs) l 60 301 bf_0 (bz_it bd_301 (bf_kn 20) (bf_ev 20) 10 bf_0) := bz_it_ok bd_301_ok h1 h2 10 bf_0
  rw [bf_run] at run
  obtain ⟨-, -, f⟩ := run
  have h := law_loop (G := G) (xs := xs) (l := l) (d := 0) hL (fun hV hQ => cs_149 hV hQ) (K := fun r _ => r = some (.int 1)) (fun _ => rfl) L 0 (V := bz_V bf_M) (by omega) (by omega) bf_nv
  have e : bz_sk bf_1.2.2.2 = ac_SK := bf_sk
  refine f ac_SK _ (by rw [e]; exact Nat.le_refl _) (by rw [e]; exact Nat.le_refl _) ?_
  rw [e]
  exact h
set_option maxRecDepth 100000 in
theorem whole_start {p : Program} {e : Env} {s : State} {m : MethodId} {below : List Frame} {meth : Method} {c : Code} (l : Launch) (hflags : l.flags = flags0) {b L : Nat} {xs : Nat → Int32} (hL : L ≤ 3072) (C0 : lw_At p s m meth c b L xs) : W p l e room_1 s m #[Value.ref b] below meth c s.heap [] 0 0 (lw_Z below #[Value.ref b] s) (entryFrame m ([Value.ref b] : List Value).toArray 4) := by
  obtain ⟨hx, hb, hr, hml, hown, hts, hX, hbl, hlocks, hgv, hnm⟩ := id C0
  obtain ⟨G, hG1, hGb, hC⟩ := ws_C hL hx hb hr hml hown hts hX hbl hlocks hgv hnm
  have hC1 := hC 61 room_1 (Nat.le_of_ble_eq_true rfl) (Nat.le_of_ble_eq_true rfl)
  have hcat : G.2.2.2.2.2.category = 1 := hC1.2.2.2.2.2.2.2.2.2.1.2.2.2.2.2.1
  have hLo := ab_entry hcat [.ref 1000002] 4 (Nat.le_of_ble_eq_true rfl)
  have ev : ([.ref 1000002] : List Value).map (ab_v G) = [.ref b] := by
    show [Value.ref (ab_ad G 1000002)] = _
    rw [hGb]
  rw [ev] at hLo
  rw [lg_entry_eq]
  have hH : ab_H G [] (bz_V []) s s.heap [] := by
    refine ⟨fun _ => by rw [hG1]; rfl, fun k q hq => ?_, va_S.rf, Nat.zero_le _, fun a c h => ?_⟩
    · have h0 : (ab_ws G [] (bz_V []))[k]? = none := by
        rw [ab_ws_at]
        rfl
      rw [h0] at hq
      cases hq
    · cases a <;> cases h
  refine st_J hL ac_r301 p e room_1 s m #[Value.ref b] below meth c (lw_Z below #[Value.ref b] s) s.heap [] 0 0 _ mk_301 hC1 hH hLo ⟨Nat.le_of_ble_eq_true rfl, Nat.zero_le _⟩ ⟨Nat.le_of_ble_eq_true rfl, Nat.zero_le _⟩ ?_
  intro r V' H' locs' cells' slots' ls' pc' hK hH' hc' hs' hre
  have hK' : r = some (.int 1) := hK
  subst hK'
  refine va_forget (fun q hq => ?_) ?_
  · have h1 := hH'.2.2.1.2.2 q hq
    have h2 : G.1 ≤ q.base := h1
    rw [hG1] at h2
    exact h2
  · exact W.widen (k := 600000) (n := 7302250) hc' hs' (lw_ret hx hb hr hlocks hre.1)
