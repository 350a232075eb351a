/-! tables of the computing machine: methods that make no cells -/
def bd_26 : bz_T := [(11, [(0, bz_pu (.inl 0) 1), (1, bz_sti 2 2), (2, bz_ldi 2 3), (3, bz_lda 1 4), (4, bz_ccS 289 0 1 1 7), (7, bz_icmp bh_lt 10 51), (10, bz_lda 0 11), (11, bz_gI 3 1 14)]), (29, [(14, bz_pu (.inl 160) 17), (17, bz_icmp bh_lt 20 51), (20, bz_lda 0 21), (21, bz_gR 3 0 24), (24, bz_lda 0 25), (25, bz_gI 3 1 28), (28, bz_lda 1 29), (29, bz_ldi 2 30)]), (41, [(30, bz_ccS 290 1 2 1 33), (33, bz_un bh_i2b 34), (34, bz_as 101 bh_i2b 35), (35, bz_lda 0 36), (36, bz_dup 37), (37, bz_gI 3 1 40), (40, bz_pu (.inl 1) 41), (41, bz_bin bh_add 42)]), (51, [(42, bz_pI 3 1 45), (45, bz_inc 2 1 48), (48, bz_go 2), (51, bz_retv)])]
theorem bd_26_0 : ∀ q ∈ ([(0, bz_pu (.inl 0) 1), (1, bz_sti 2 2), (2, bz_ldi 2 3), (3, bz_lda 1 4), (4, bz_ccS 289 0 1 1 7), (7, bz_icmp bh_lt 10 51), (10, bz_lda 0 11), (11, bz_gI 3 1 14)] : List (Nat × bz_Op)), bz_ok true 26 q.1 q.2 :=
  List.forall_mem_cons.mpr ⟨(bz_of (A := aa_pu (.int 0) 1) (as_iconst mk_26 (n := 0) (by decide +kernel) (by decide +kernel) rfl) (bs_pu rfl) : bz_ok true 26 0 (bz_pu (.inl 0) 1)),
  List.forall_mem_cons.mpr ⟨(bz_of (A := aa_sti 2 2) (as_istore_n mk_26 (k := 2) (by decide +kernel) rfl (by decide) rfl) bs_sti : bz_ok true 26 1 (bz_sti 2 2)),
  List.forall_mem_cons.mpr ⟨(bz_of (A := aa_ldi 2 3) (as_iload_n mk_26 (k := 2) (by decide +kernel) rfl rfl) bs_ldi : bz_ok true 26 2 (bz_ldi 2 3)),
  List.forall_mem_cons.mpr ⟨(bz_of (A := aa_lda 1 4) (as_aload_n mk_26 (k := 1) (by decide +kernel) rfl rfl) bs_lda : bz_ok true 26 3 (bz_lda 1 4)),
  List.forall_mem_cons.mpr ⟨(bz_of (A := aa_ccS 289 0 1 aa_kI 7) (as_ccS mk_26 (ix := 29) (M' := ac_r289) aa_kI_ok (by decide +kernel) ce_289 lk_RX3_29 ci_289 cv_289 rfl (by decide) rfl rfl) (bs_ccS bz_k1) : bz_ok true 26 4 (bz_ccS 289 0 1 1 7)),
  List.forall_mem_cons.mpr ⟨(bz_of (A := aa_icmp (fun x y => x < y) 10 51) (as_icmp_ge mk_26 (off := 44) (by decide +kernel) (by decide +kernel) rfl) (bs_icmp bh_lt_ok) : bz_ok true 26 7 (bz_icmp bh_lt 10 51)),
  List.forall_mem_cons.mpr ⟨(bz_of (A := aa_lda 0 11) (as_aload_n mk_26 (k := 0) (by decide +kernel) rfl rfl) bs_lda : bz_ok true 26 10 (bz_lda 0 11)),
  List.forall_mem_cons.mpr ⟨(bz_of (A := aa_gI 3 1 14) (as_gI mk_26 (ix := 25) (by decide +kernel) (fd_RX3_25 rfl) rfl) bs_gI : bz_ok true 26 11 (bz_gI 3 1 14)),
  fun _ h => absurd h List.not_mem_nil⟩⟩⟩⟩⟩⟩⟩⟩
theorem bd_26_1 : ∀ q ∈ ([(14, bz_pu (.inl 160) 17), (17, bz_icmp bh_lt 20 51), (20, bz_lda 0 21), (21, bz_gR 3 0 24), (24, bz_lda 0 25), (25, bz_gI 3 1 28), (28, bz_lda 1 29), (29, bz_ldi 2 30)] : List (Nat × bz_Op)), bz_ok true 26 q.1 q.2 :=
  List.forall_mem_cons.mpr ⟨(bz_of (A := aa_pu (.int 160) 17) (as_sipush mk_26 (n := 160) (by decide +kernel) (by decide +kernel) rfl) (bs_pu rfl) : bz_ok true 26 14 (bz_pu (.inl 160) 17)),
  List.forall_mem_cons.mpr ⟨(bz_of (A := aa_icmp (fun x y => x < y) 20 51) (as_icmp_ge mk_26 (off := 34) (by decide +kernel) (by decide +kernel) rfl) (bs_icmp bh_lt_ok) : bz_ok true 26 17 (bz_icmp bh_lt 20 51)),
  List.forall_mem_cons.mpr ⟨(bz_of (A := aa_lda 0 21) (as_aload_n mk_26 (k := 0) (by decide +kernel) rfl rfl) bs_lda : bz_ok true 26 20 (bz_lda 0 21)),
  List.forall_mem_cons.mpr ⟨(bz_of (A := aa_gR 3 0 24) (as_gR mk_26 (ix := 11) (by decide +kernel) (fd_RX3_11 rfl) rfl) bs_gR : bz_ok true 26 21 (bz_gR 3 0 24)),
  List.forall_mem_cons.mpr ⟨(bz_of (A := aa_lda 0 25) (as_aload_n mk_26 (k := 0) (by decide +kernel) rfl rfl) bs_lda : bz_ok true 26 24 (bz_lda 0 25)),
  List.forall_mem_cons.mpr ⟨(bz_of (A := aa_gI 3 1 28) (as_gI mk_26 (ix := 25) (by decide +kernel) (fd_RX3_25 rfl) rfl) bs_gI : bz_ok true 26 25 (bz_gI 3 1 28)),
  List.forall_mem_cons.mpr ⟨(bz_of (A := aa_lda 1 29) (as_aload_n mk_26 (k := 1) (by decide +kernel) rfl rfl) bs_lda : bz_ok true 26 28 (bz_lda 1 29)),
  List.forall_mem_cons.mpr ⟨(bz_of (A := aa_ldi 2 30) (as_iload_n mk_26 (k := 2) (by decide +kernel) rfl rfl) bs_ldi : bz_ok true 26 29 (bz_ldi 2 30)),
  fun _ h => absurd h List.not_mem_nil⟩⟩⟩⟩⟩⟩⟩⟩
theorem bd_26_2 : ∀ q ∈ ([(30, bz_ccS 290 1 2 1 33), (33, bz_un bh_i2b 34), (34, bz_as 101 bh_i2b 35), (35, bz_lda 0 36), (36, bz_dup 37), (37, bz_gI 3 1 40), (40, bz_pu (.inl 1) 41), (41, bz_bin bh_add 42)] : List (Nat × bz_Op)), bz_ok true 26 q.1 q.2 :=
  List.forall_mem_cons.mpr ⟨(bz_of (A := aa_ccS 290 1 2 aa_kI 33) (as_ccS mk_26 (ix := 35) (M' := ac_r290) aa_kI_ok (by decide +kernel) ce_290 lk_RX3_35 ci_290 cv_290 rfl (by decide) rfl rfl) (bs_ccS bz_k1) : bz_ok true 26 30 (bz_ccS 290 1 2 1 33)),
  List.forall_mem_cons.mpr ⟨(bz_of (A := aa_un (fun x => x.toInt8.toInt32) 34) (as_i2b mk_26 (by decide +kernel) rfl) (bs_un bh_i2b_ok) : bz_ok true 26 33 (bz_un bh_i2b 34)),
  List.forall_mem_cons.mpr ⟨(bz_of (A := aa_as 101 (fun x => x.toInt8.toInt32) 35) (as_as mk_26 (Or.inr ⟨rfl, fun _ => rfl, by decide +kernel⟩) rfl) (bs_as bh_i2b_ok) : bz_ok true 26 34 (bz_as 101 bh_i2b 35)),
  List.forall_mem_cons.mpr ⟨(bz_of (A := aa_lda 0 36) (as_aload_n mk_26 (k := 0) (by decide +kernel) rfl rfl) bs_lda : bz_ok true 26 35 (bz_lda 0 36)),
  List.forall_mem_cons.mpr ⟨(bz_of (A := aa_dup 37) (as_dup mk_26 (by decide +kernel) rfl) bs_dup : bz_ok true 26 36 (bz_dup 37)),
  List.forall_mem_cons.mpr ⟨(bz_of (A := aa_gI 3 1 40) (as_gI mk_26 (ix := 25) (by decide +kernel) (fd_RX3_25 rfl) rfl) bs_gI : bz_ok true 26 37 (bz_gI 3 1 40)),
  List.forall_mem_cons.mpr ⟨(bz_of (A := aa_pu (.int 1) 41) (as_iconst mk_26 (n := 1) (by decide +kernel) (by decide +kernel) rfl) (bs_pu rfl) : bz_ok true 26 40 (bz_pu (.inl 1) 41)),
  List.forall_mem_cons.mpr ⟨(bz_of (A := aa_bin (fun x y => x + y) 42) (as_iadd mk_26 (by decide +kernel) rfl) (bs_bin bh_add_ok) : bz_ok true 26 41 (bz_bin bh_add 42)),
  fun _ h => absurd h List.not_mem_nil⟩⟩⟩⟩⟩⟩⟩⟩
theorem bd_26_3 : ∀ q ∈ ([(42, bz_pI 3 1 45), (45, bz_inc 2 1 48), (48, bz_go 2), (51, bz_retv)] : List (Nat × bz_Op)), bz_ok true 26 q.1 q.2 :=
  List.forall_mem_cons.mpr ⟨(bz_of (A := aa_pI 3 1 45) (as_pI mk_26 (ix := 25) (by decide +kernel) (fd_RX3_25 rfl) pt_3_1 rfl) bs_pI : bz_ok true 26 42 (bz_pI 3 1 45)),
  List.forall_mem_cons.mpr ⟨(bz_of (A := aa_inc 2 1 48) (as_iinc mk_26 (n := 1) (by decide +kernel) (by decide +kernel) (by decide) rfl) (bs_inc (by decide +kernel)) : bz_ok true 26 45 (bz_inc 2 1 48)),
  List.forall_mem_cons.mpr ⟨(bz_of (A := aa_go 2) (as_goto mk_26 (off := (-46)) (by decide +kernel) (by decide +kernel)) bs_go : bz_ok true 26 48 (bz_go 2)),
  List.forall_mem_cons.mpr ⟨(bz_of (A := aa_retv) (as_vret mk_26 (by decide +kernel) rfl) bs_retv : bz_ok true 26 51 (bz_retv)),
  fun _ h => absurd h List.not_mem_nil⟩⟩⟩⟩
theorem bd_26_ok : bz_tk true 26 bd_26 :=
  List.forall_mem_cons.mpr ⟨bd_26_0,
  List.forall_mem_cons.mpr ⟨bd_26_1,
  List.forall_mem_cons.mpr ⟨bd_26_2,
  List.forall_mem_cons.mpr ⟨bd_26_3,
  fun _ h => absurd h List.not_mem_nil⟩⟩⟩⟩
def bd_28 : bz_T := [(11, [(0, bz_lda 0 1), (1, bz_ccv 29 0 5 3 0 4), (4, bz_lda 0 5), (5, bz_pu (.inl 0) 6), (6, bz_pI 3 6 9), (9, bz_lda 0 10), (10, bz_pu (.inl 4294967295) 11), (11, bz_pI 3 7 14)]), (27, [(14, bz_lda 0 15), (15, bz_lda 1 16), (16, bz_pC 3 8 19), (19, bz_lda 0 20), (20, bz_gC 3 8 23), (23, bz_ccv 68 0 1 6 0 26), (26, bz_lda 0 27), (27, bz_pu (.inl 306) 30)]), (44, [(30, bz_ccv 39 1 2 3 0 33), (33, bz_lda 0 34), (34, bz_pu (.inl 0) 35), (35, bz_ccv 40 1 3 3 0 38), (38, bz_lda 0 39), (39, bz_pu (.inl 59) 41), (41, bz_ccv 39 1 2 3 0 44), (44, bz_lda 0 45)]), (60, [(45, bz_gC 3 8 48), (48, bz_ccv 69 0 1 6 0 51), (51, bz_lda 0 52), (52, bz_pu (.inl 307) 55), (55, bz_ccv 39 1 2 3 0 58), (58, bz_lda 0 59), (59, bz_pu (.inl 0) 60), (60, bz_ccv 40 1 3 3 0 63)]), (79, [(63, bz_lda 0 64), (64, bz_pu (.inl 59) 66), (66, bz_ccv 39 1 2 3 0 69), (69, bz_lda 0 70), (70, bz_ccv 37 0 1 3 1 73), (73, bz_pu (.inl 256) 76), (76, bz_icmp bh_eq 83 79), (79, bz_lda 0 80)]), (92, [(80, bz_ccv 38 0 1 3 0 83), (83, bz_lda 0 84), (84, bz_pu (.inl 0) 85), (85, bz_pI 3 1 88), (88, bz_lda 0 89), (89, bz_gI 3 7 92), (92, bz_reti)])]
theorem bd_28_0 : ∀ q ∈ ([(0, bz_lda 0 1), (1, bz_ccv 29 0 5 3 0 4), (4, bz_lda 0 5), (5, bz_pu (.inl 0) 6), (6, bz_pI 3 6 9), (9, bz_lda 0 10), (10, bz_pu (.inl 4294967295) 11), (11, bz_pI 3 7 14)] : List (Nat × bz_Op)), bz_ok true 28 q.1 q.2 :=
  List.forall_mem_cons.mpr ⟨(bz_of (A := aa_lda 0 1) (as_aload_n mk_28 (k := 0) (by decide +kernel) rfl rfl) bs_lda : bz_ok true 28 0 (bz_lda 0 1)),
  List.forall_mem_cons.mpr ⟨(bz_of (A := aa_ccv 29 0 5 3 aa_kV 4) (as_ccv mk_28 (ix := 39) aa_kV_ok (by decide +kernel) (cx_RX3_39 rfl) rfl) (bs_ccv bz_k0) : bz_ok true 28 1 (bz_ccv 29 0 5 3 0 4)),
  List.forall_mem_cons.mpr ⟨(bz_of (A := aa_lda 0 5) (as_aload_n mk_28 (k := 0) (by decide +kernel) rfl rfl) bs_lda : bz_ok true 28 4 (bz_lda 0 5)),
  List.forall_mem_cons.mpr ⟨(bz_of (A := aa_pu (.int 0) 6) (as_iconst mk_28 (n := 0) (by decide +kernel) (by decide +kernel) rfl) (bs_pu rfl) : bz_ok true 28 5 (bz_pu (.inl 0) 6)),
  List.forall_mem_cons.mpr ⟨(bz_of (A := aa_pI 3 6 9) (as_pI mk_28 (ix := 42) (by decide +kernel) (fd_RX3_42 rfl) pt_3_6 rfl) bs_pI : bz_ok true 28 6 (bz_pI 3 6 9)),
  List.forall_mem_cons.mpr ⟨(bz_of (A := aa_lda 0 10) (as_aload_n mk_28 (k := 0) (by decide +kernel) rfl rfl) bs_lda : bz_ok true 28 9 (bz_lda 0 10)),
  List.forall_mem_cons.mpr ⟨(bz_of (A := aa_pu (.int (-1)) 11) (as_iconst mk_28 (n := (-1)) (by decide +kernel) (by decide +kernel) rfl) (bs_pu (by decide +kernel)) : bz_ok true 28 10 (bz_pu (.inl 4294967295) 11)),
  List.forall_mem_cons.mpr ⟨(bz_of (A := aa_pI 3 7 14) (as_pI mk_28 (ix := 45) (by decide +kernel) (fd_RX3_45 rfl) pt_3_7 rfl) bs_pI : bz_ok true 28 11 (bz_pI 3 7 14)),
  fun _ h => absurd h List.not_mem_nil⟩⟩⟩⟩⟩⟩⟩⟩
theorem bd_28_1 : ∀ q ∈ ([(14, bz_lda 0 15), (15, bz_lda 1 16), (16, bz_pC 3 8 19), (19, bz_lda 0 20), (20, bz_gC 3 8 23), (23, bz_ccv 68 0 1 6 0 26), (26, bz_lda 0 27), (27, bz_pu (.inl 306) 30)] : List (Nat × bz_Op)), bz_ok true 28 q.1 q.2 :=
  List.forall_mem_cons.mpr ⟨(bz_of (A := aa_lda 0 15) (as_aload_n mk_28 (k := 0) (by decide +kernel) rfl rfl) bs_lda : bz_ok true 28 14 (bz_lda 0 15)),
  List.forall_mem_cons.mpr ⟨(bz_of (A := aa_lda 1 16) (as_aload_n mk_28 (k := 1) (by decide +kernel) rfl rfl) bs_lda : bz_ok true 28 15 (bz_lda 1 16)),
  List.forall_mem_cons.mpr ⟨(bz_of (A := aa_pC 3 8 19) (as_pC mk_28 (ix := 48) (by decide +kernel) (fd_RX3_48 rfl) pt_3_8 rfl) bs_pC : bz_ok true 28 16 (bz_pC 3 8 19)),
  List.forall_mem_cons.mpr ⟨(bz_of (A := aa_lda 0 20) (as_aload_n mk_28 (k := 0) (by decide +kernel) rfl rfl) bs_lda : bz_ok true 28 19 (bz_lda 0 20)),
  List.forall_mem_cons.mpr ⟨(bz_of (A := aa_gC 3 8 23) (as_gC mk_28 (ix := 48) (by decide +kernel) (fd_RX3_48 rfl) rfl) bs_gC : bz_ok true 28 20 (bz_gC 3 8 23)),
  List.forall_mem_cons.mpr ⟨(bz_of (A := aa_ccu 68 0 1 6 aa_kV 26) (as_ccu mk_28 (ix := 52) aa_kV_ok (by decide +kernel) (cx_RX3_52 rfl) rfl) (bs_ccu bz_k0) : bz_ok true 28 23 (bz_ccv 68 0 1 6 0 26)),
  List.forall_mem_cons.mpr ⟨(bz_of (A := aa_lda 0 27) (as_aload_n mk_28 (k := 0) (by decide +kernel) rfl rfl) bs_lda : bz_ok true 28 26 (bz_lda 0 27)),
  List.forall_mem_cons.mpr ⟨(bz_of (A := aa_pu (.int 306) 30) (as_sipush mk_28 (n := 306) (by decide +kernel) (by decide +kernel) rfl) (bs_pu rfl) : bz_ok true 28 27 (bz_pu (.inl 306) 30)),
  fun _ h => absurd h List.not_mem_nil⟩⟩⟩⟩⟩⟩⟩⟩
theorem bd_28_2 : ∀ q ∈ ([(30, bz_ccv 39 1 2 3 0 33), (33, bz_lda 0 34), (34, bz_pu (.inl 0) 35), (35, bz_ccv 40 1 3 3 0 38), (38, bz_lda 0 39), (39, bz_pu (.inl 59) 41), (41, bz_ccv 39 1 2 3 0 44), (44, bz_lda 0 45)] : List (Nat × bz_Op)), bz_ok true 28 q.1 q.2 :=
  List.forall_mem_cons.mpr ⟨(bz_of (A := aa_ccv 39 1 2 3 aa_kV 33) (as_ccv mk_28 (ix := 57) aa_kV_ok (by decide +kernel) (cx_RX3_57 rfl) rfl) (bs_ccv bz_k0) : bz_ok true 28 30 (bz_ccv 39 1 2 3 0 33)),
  List.forall_mem_cons.mpr ⟨(bz_of (A := aa_lda 0 34) (as_aload_n mk_28 (k := 0) (by decide +kernel) rfl rfl) bs_lda : bz_ok true 28 33 (bz_lda 0 34)),
  List.forall_mem_cons.mpr ⟨(bz_of (A := aa_pu (.int 0) 35) (as_iconst mk_28 (n := 0) (by decide +kernel) (by decide +kernel) rfl) (bs_pu rfl) : bz_ok true 28 34 (bz_pu (.inl 0) 35)),
  List.forall_mem_cons.mpr ⟨(bz_of (A := aa_ccv 40 1 3 3 aa_kV 38) (as_ccv mk_28 (ix := 61) aa_kV_ok (by decide +kernel) (cx_RX3_61 rfl) rfl) (bs_ccv bz_k0) : bz_ok true 28 35 (bz_ccv 40 1 3 3 0 38)),
  List.forall_mem_cons.mpr ⟨(bz_of (A := aa_lda 0 39) (as_aload_n mk_28 (k := 0) (by decide +kernel) rfl rfl) bs_lda : bz_ok true 28 38 (bz_lda 0 39)),
  List.forall_mem_cons.mpr ⟨(bz_of (A := aa_pu (.int 59) 41) (as_bipush mk_28 (n := 59) (by decide +kernel) (by decide +kernel) rfl) (bs_pu rfl) : bz_ok true 28 39 (bz_pu (.inl 59) 41)),
  List.forall_mem_cons.mpr ⟨(bz_of (A := aa_ccv 39 1 2 3 aa_kV 44) (as_ccv mk_28 (ix := 57) aa_kV_ok (by decide +kernel) (cx_RX3_57 rfl) rfl) (bs_ccv bz_k0) : bz_ok true 28 41 (bz_ccv 39 1 2 3 0 44)),
  List.forall_mem_cons.mpr ⟨(bz_of (A := aa_lda 0 45) (as_aload_n mk_28 (k := 0) (by decide +kernel) rfl rfl) bs_lda : bz_ok true 28 44 (bz_lda 0 45)),
  fun _ h => absurd h List.not_mem_nil⟩⟩⟩⟩⟩⟩⟩⟩
theorem bd_28_3 : ∀ q ∈ ([(45, bz_gC 3 8 48), (48, bz_ccv 69 0 1 6 0 51), (51, bz_lda 0 52), (52, bz_pu (.inl 307) 55), (55, bz_ccv 39 1 2 3 0 58), (58, bz_lda 0 59), (59, bz_pu (.inl 0) 60), (60, bz_ccv 40 1 3 3 0 63)] : List (Nat × bz_Op)), bz_ok true 28 q.1 q.2 :=
  List.forall_mem_cons.mpr ⟨(bz_of (A := aa_gC 3 8 48) (as_gC mk_28 (ix := 48) (by decide +kernel) (fd_RX3_48 rfl) rfl) bs_gC : bz_ok true 28 45 (bz_gC 3 8 48)),
  List.forall_mem_cons.mpr ⟨(bz_of (A := aa_ccu 69 0 1 6 aa_kV 51) (as_ccu mk_28 (ix := 64) aa_kV_ok (by decide +kernel) (cx_RX3_64 rfl) rfl) (bs_ccu bz_k0) : bz_ok true 28 48 (bz_ccv 69 0 1 6 0 51)),
  List.forall_mem_cons.mpr ⟨(bz_of (A := aa_lda 0 52) (as_aload_n mk_28 (k := 0) (by decide +kernel) rfl rfl) bs_lda : bz_ok true 28 51 (bz_lda 0 52)),
  List.forall_mem_cons.mpr ⟨(bz_of (A := aa_pu (.int 307) 55) (as_sipush mk_28 (n := 307) (by decide +kernel) (by decide +kernel) rfl) (bs_pu rfl) : bz_ok true 28 52 (bz_pu (.inl 307) 55)),
  List.forall_mem_cons.mpr ⟨(bz_of (A := aa_ccv 39 1 2 3 aa_kV 58) (as_ccv mk_28 (ix := 57) aa_kV_ok (by decide +kernel) (cx_RX3_57 rfl) rfl) (bs_ccv bz_k0) : bz_ok true 28 55 (bz_ccv 39 1 2 3 0 58)),
  List.forall_mem_cons.mpr ⟨(bz_of (A := aa_lda 0 59) (as_aload_n mk_28 (k := 0) (by decide +kernel) rfl rfl) bs_lda : bz_ok true 28 58 (bz_lda 0 59)),
  List.forall_mem_cons.mpr ⟨(bz_of (A := aa_pu (.int 0) 60) (as_iconst mk_28 (n := 0) (by decide +kernel) (by decide +kernel) rfl) (bs_pu rfl) : bz_ok true 28 59 (bz_pu (.inl 0) 60)),
  List.forall_mem_cons.mpr ⟨(bz_of (A := aa_ccv 40 1 3 3 aa_kV 63) (as_ccv mk_28 (ix := 61) aa_kV_ok (by decide +kernel) (cx_RX3_61 rfl) rfl) (bs_ccv bz_k0) : bz_ok true 28 60 (bz_ccv 40 1 3 3 0 63)),
  fun _ h => absurd h List.not_mem_nil⟩⟩⟩⟩⟩⟩⟩⟩
theorem bd_28_4 : ∀ q ∈ ([(63, bz_lda 0 64), (64, bz_pu (.inl 59) 66), (66, bz_ccv 39 1 2 3 0 69), (69, bz_lda 0 70), (70, bz_ccv 37 0 1 3 1 73), (73, bz_pu (.inl 256) 76), (76, bz_icmp bh_eq 83 79), (79, bz_lda 0 80)] : List (Nat × bz_Op)), bz_ok true 28 q.1 q.2 :=
  List.forall_mem_cons.mpr ⟨(bz_of (A := aa_lda 0 64) (as_aload_n mk_28 (k := 0) (by decide +kernel) rfl rfl) bs_lda : bz_ok true 28 63 (bz_lda 0 64)),
  List.forall_mem_cons.mpr ⟨(bz_of (A := aa_pu (.int 59) 66) (as_bipush mk_28 (n := 59) (by decide +kernel) (by decide +kernel) rfl) (bs_pu rfl) : bz_ok true 28 64 (bz_pu (.inl 59) 66)),
  List.forall_mem_cons.mpr ⟨(bz_of (A := aa_ccv 39 1 2 3 aa_kV 69) (as_ccv mk_28 (ix := 57) aa_kV_ok (by decide +kernel) (cx_RX3_57 rfl) rfl) (bs_ccv bz_k0) : bz_ok true 28 66 (bz_ccv 39 1 2 3 0 69)),
  List.forall_mem_cons.mpr ⟨(bz_of (A := aa_lda 0 70) (as_aload_n mk_28 (k := 0) (by decide +kernel) rfl rfl) bs_lda : bz_ok true 28 69 (bz_lda 0 70)),
  List.forall_mem_cons.mpr ⟨(bz_of (A := aa_ccv 37 0 1 3 aa_kI 73) (as_ccv mk_28 (ix := 67) aa_kI_ok (by decide +kernel) (cx_RX3_67 rfl) rfl) (bs_ccv bz_k1) : bz_ok true 28 70 (bz_ccv 37 0 1 3 1 73)),
  List.forall_mem_cons.mpr ⟨(bz_of (A := aa_pu (.int 256) 76) (as_sipush mk_28 (n := 256) (by decide +kernel) (by decide +kernel) rfl) (bs_pu rfl) : bz_ok true 28 73 (bz_pu (.inl 256) 76)),
  List.forall_mem_cons.mpr ⟨(bz_of (A := aa_icmp (fun x y => x = y) 83 79) (as_icmp_eq mk_28 (off := 7) (by decide +kernel) (by decide +kernel) rfl) (bs_icmp bh_eq_ok) : bz_ok true 28 76 (bz_icmp bh_eq 83 79)),
  List.forall_mem_cons.mpr ⟨(bz_of (A := aa_lda 0 80) (as_aload_n mk_28 (k := 0) (by decide +kernel) rfl rfl) bs_lda : bz_ok true 28 79 (bz_lda 0 80)),
  fun _ h => absurd h List.not_mem_nil⟩⟩⟩⟩⟩⟩⟩⟩
theorem bd_28_5 : ∀ q ∈ ([(80, bz_ccv 38 0 1 3 0 83), (83, bz_lda 0 84), (84, bz_pu (.inl 0) 85), (85, bz_pI 3 1 88), (88, bz_lda 0 89), (89, bz_gI 3 7 92), (92, bz_reti)] : List (Nat × bz_Op)), bz_ok true 28 q.1 q.2 :=
  List.forall_mem_cons.mpr ⟨(bz_of (A := aa_ccv 38 0 1 3 aa_kV 83) (as_ccv mk_28 (ix := 70) aa_kV_ok (by decide +kernel) (cx_RX3_70 rfl) rfl) (bs_ccv bz_k0) : bz_ok true 28 80 (bz_ccv 38 0 1 3 0 83)),
  List.forall_mem_cons.mpr ⟨(bz_of (A := aa_lda 0 84) (as_aload_n mk_28 (k := 0) (by decide +kernel) rfl rfl) bs_lda : bz_ok true 28 83 (bz_lda 0 84)),
  List.forall_mem_cons.mpr ⟨(bz_of (A := aa_pu (.int 0) 85) (as_iconst mk_28 (n := 0) (by decide +kernel) (by decide +kernel) rfl) (bs_pu rfl) : bz_ok true 28 84 (bz_pu (.inl 0) 85)),
  List.forall_mem_cons.mpr ⟨(bz_of (A := aa_pI 3 1 88) (as_pI mk_28 (ix := 25) (by decide +kernel) (fd_RX3_25 rfl) pt_3_1 rfl) bs_pI : bz_ok true 28 85 (bz_pI 3 1 88)),
  List.forall_mem_cons.mpr ⟨(bz_of (A := aa_lda 0 89) (as_aload_n mk_28 (k := 0) (by decide +kernel) rfl rfl) bs_lda : bz_ok true 28 88 (bz_lda 0 89)),
  List.forall_mem_cons.mpr ⟨(bz_of (A := aa_gI 3 7 92) (as_gI mk_28 (ix := 45) (by decide +kernel) (fd_RX3_45 rfl) rfl) bs_gI : bz_ok true 28 89 (bz_gI 3 7 92)),
  List.forall_mem_cons.mpr ⟨(bz_of (A := aa_reti) (as_iret mk_28 (by decide +kernel) rfl) bs_reti : bz_ok true 28 92 (bz_reti)),
  fun _ h => absurd h List.not_mem_nil⟩⟩⟩⟩⟩⟩⟩
theorem bd_28_ok : bz_tk true 28 bd_28 :=
  List.forall_mem_cons.mpr ⟨bd_28_0,
  List.forall_mem_cons.mpr ⟨bd_28_1,
  List.forall_mem_cons.mpr ⟨bd_28_2,
  List.forall_mem_cons.mpr ⟨bd_28_3,
  List.forall_mem_cons.mpr ⟨bd_28_4,
  List.forall_mem_cons.mpr ⟨bd_28_5,
  fun _ h => absurd h List.not_mem_nil⟩⟩⟩⟩⟩⟩
def bd_29 : bz_T := [(11, [(0, bz_pu (.inl 0) 1), (1, bz_sti 1 2), (2, bz_pu (.inl 258) 5), (5, bz_sti 2 6), (6, bz_lda 0 7), (7, bz_pu (.inl 0) 8), (8, bz_pI 3 5 11), (11, bz_pu (.inl 0) 12)]), (27, [(12, bz_sti 3 13), (13, bz_ldi 3 14), (14, bz_pu (.inl 160) 17), (17, bz_icmp bh_gt 131 20), (20, bz_ldi 2 21), (21, bz_pu (.inl 256) 24), (24, bz_icmp bh_eq 131 27), (27, bz_ldi 2 28)]), (41, [(28, bz_pu (.inl 257) 31), (31, bz_icmp bh_eq 131 34), (34, bz_lda 0 35), (35, bz_ldi 1 36), (36, bz_pu (.inl 0) 37), (37, bz_ccv 30 2 5 3 1 40), (40, bz_sti 1 41), (41, bz_ldi 1 42)]), (55, [(42, bz_lda 0 43), (43, bz_gI 3 1 46), (46, bz_icmp bh_lt 49 66), (49, bz_lda 0 50), (50, bz_ldi 1 51), (51, bz_lda 0 52), (52, bz_gR 3 0 55), (55, bz_ldi 1 56)]), (70, [(56, bz_al 101 57), (57, bz_ccs 31 1 1 1 60), (60, bz_ccv 30 2 5 3 1 63), (63, bz_go 67), (66, bz_ldi 1 67), (67, bz_sti 4 69), (69, bz_lda 0 70), (70, bz_ldi 1 71)]), (83, [(71, bz_ldi 4 73), (73, bz_ccv 32 2 3 3 1 76), (76, bz_sti 2 77), (77, bz_lda 0 78), (78, bz_gR 3 2 81), (81, bz_ldi 3 82), (82, bz_ldi 2 83), (83, bz_as 100 bh_id 84)]), (95, [(84, bz_lda 0 85), (85, bz_gR 3 3 88), (88, bz_ldi 3 89), (89, bz_ldi 1 90), (90, bz_as 100 bh_id 91), (91, bz_lda 0 92), (92, bz_gR 3 4 95), (95, bz_ldi 3 96)]), (110, [(96, bz_ldi 2 97), (97, bz_pu (.inl 258) 100), (100, bz_icmp bh_eq 103 113), (103, bz_lda 0 104), (104, bz_ldi 1 105), (105, bz_ldi 4 107), (107, bz_ccv 33 2 5 3 1 110), (110, bz_go 114)]), (122, [(113, bz_pu (.inl 0) 114), (114, bz_as 100 bh_id 115), (115, bz_lda 0 116), (116, bz_ldi 3 117), (117, bz_pu (.inl 1) 118), (118, bz_bin bh_add 119), (119, bz_pI 3 5 122), (122, bz_ldi 4 124)]), (131, [(124, bz_sti 1 125), (125, bz_inc 3 1 128), (128, bz_go 13), (131, bz_retv)])]
theorem bd_29_0 : ∀ q ∈ ([(0, bz_pu (.inl 0) 1), (1, bz_sti 1 2), (2, bz_pu (.inl 258) 5), (5, bz_sti 2 6), (6, bz_lda 0 7), (7, bz_pu (.inl 0) 8), (8, bz_pI 3 5 11), (11, bz_pu (.inl 0) 12)] : List (Nat × bz_Op)), bz_ok true 29 q.1 q.2 :=
  List.forall_mem_cons.mpr ⟨(bz_of (A := aa_pu (.int 0) 1) (as_iconst mk_29 (n := 0) (by decide +kernel) (by decide +kernel) rfl) (bs_pu rfl) : bz_ok true 29 0 (bz_pu (.inl 0) 1)),
  List.forall_mem_cons.mpr ⟨(bz_of (A := aa_sti 1 2) (as_istore_n mk_29 (k := 1) (by decide +kernel) rfl (by decide) rfl) bs_sti : bz_ok true 29 1 (bz_sti 1 2)),
  List.forall_mem_cons.mpr ⟨(bz_of (A := aa_pu (.int 258) 5) (as_sipush mk_29 (n := 258) (by decide +kernel) (by decide +kernel) rfl) (bs_pu rfl) : bz_ok true 29 2 (bz_pu (.inl 258) 5)),
  List.forall_mem_cons.mpr ⟨(bz_of (A := aa_sti 2 6) (as_istore_n mk_29 (k := 2) (by decide +kernel) rfl (by decide) rfl) bs_sti : bz_ok true 29 5 (bz_sti 2 6)),
  List.forall_mem_cons.mpr ⟨(bz_of (A := aa_lda 0 7) (as_aload_n mk_29 (k := 0) (by decide +kernel) rfl rfl) bs_lda : bz_ok true 29 6 (bz_lda 0 7)),
  List.forall_mem_cons.mpr ⟨(bz_of (A := aa_pu (.int 0) 8) (as_iconst mk_29 (n := 0) (by decide +kernel) (by decide +kernel) rfl) (bs_pu rfl) : bz_ok true 29 7 (bz_pu (.inl 0) 8)),
  List.forall_mem_cons.mpr ⟨(bz_of (A := aa_pI 3 5 11) (as_pI mk_29 (ix := 73) (by decide +kernel) (fd_RX3_73 rfl) pt_3_5 rfl) bs_pI : bz_ok true 29 8 (bz_pI 3 5 11)),
  List.forall_mem_cons.mpr ⟨(bz_of (A := aa_pu (.int 0) 12) (as_iconst mk_29 (n := 0) (by decide +kernel) (by decide +kernel) rfl) (bs_pu rfl) : bz_ok true 29 11 (bz_pu (.inl 0) 12)),
  fun _ h => absurd h List.not_mem_nil⟩⟩⟩⟩⟩⟩⟩⟩
theorem bd_29_1 : ∀ q ∈ ([(12, bz_sti 3 13), (13, bz_ldi 3 14), (14, bz_pu (.inl 160) 17), (17, bz_icmp bh_gt 131 20), (20, bz_ldi 2 21), (21, bz_pu (.inl 256) 24), (24, bz_icmp bh_eq 131 27), (27, bz_ldi 2 28)] : List (Nat × bz_Op)), bz_ok true 29 q.1 q.2 :=
  List.forall_mem_cons.mpr ⟨(bz_of (A := aa_sti 3 13) (as_istore_n mk_29 (k := 3) (by decide +kernel) rfl (by decide) rfl) bs_sti : bz_ok true 29 12 (bz_sti 3 13)),
  List.forall_mem_cons.mpr ⟨(bz_of (A := aa_ldi 3 14) (as_iload_n mk_29 (k := 3) (by decide +kernel) rfl rfl) bs_ldi : bz_ok true 29 13 (bz_ldi 3 14)),
  List.forall_mem_cons.mpr ⟨(bz_of (A := aa_pu (.int 160) 17) (as_sipush mk_29 (n := 160) (by decide +kernel) (by decide +kernel) rfl) (bs_pu rfl) : bz_ok true 29 14 (bz_pu (.inl 160) 17)),
  List.forall_mem_cons.mpr ⟨(bz_of (A := aa_icmp (fun x y => y < x) 131 20) (as_icmp_gt mk_29 (off := 114) (by decide +kernel) (by decide +kernel) rfl) (bs_icmp bh_gt_ok) : bz_ok true 29 17 (bz_icmp bh_gt 131 20)),
  List.forall_mem_cons.mpr ⟨(bz_of (A := aa_ldi 2 21) (as_iload_n mk_29 (k := 2) (by decide +kernel) rfl rfl) bs_ldi : bz_ok true 29 20 (bz_ldi 2 21)),
  List.forall_mem_cons.mpr ⟨(bz_of (A := aa_pu (.int 256) 24) (as_sipush mk_29 (n := 256) (by decide +kernel) (by decide +kernel) rfl) (bs_pu rfl) : bz_ok true 29 21 (bz_pu (.inl 256) 24)),
  List.forall_mem_cons.mpr ⟨(bz_of (A := aa_icmp (fun x y => x = y) 131 27) (as_icmp_eq mk_29 (off := 107) (by decide +kernel) (by decide +kernel) rfl) (bs_icmp bh_eq_ok) : bz_ok true 29 24 (bz_icmp bh_eq 131 27)),
  List.forall_mem_cons.mpr ⟨(bz_of (A := aa_ldi 2 28) (as_iload_n mk_29 (k := 2) (by decide +kernel) rfl rfl) bs_ldi : bz_ok true 29 27 (bz_ldi 2 28)),
  fun _ h => absurd h List.not_mem_nil⟩⟩⟩⟩⟩⟩⟩⟩
theorem bd_29_2 : ∀ q ∈ ([(28, bz_pu (.inl 257) 31), (31, bz_icmp bh_eq 131 34), (34, bz_lda 0 35), (35, bz_ldi 1 36), (36, bz_pu (.inl 0) 37), (37, bz_ccv 30 2 5 3 1 40), (40, bz_sti 1 41), (41, bz_ldi 1 42)] : List (Nat × bz_Op)), bz_ok true 29 q.1 q.2 :=
  List.forall_mem_cons.mpr ⟨(bz_of (A := aa_pu (.int 257) 31) (as_sipush mk_29 (n := 257) (by decide +kernel) (by decide +kernel) rfl) (bs_pu rfl) : bz_ok true 29 28 (bz_pu (.inl 257) 31)),
  List.forall_mem_cons.mpr ⟨(bz_of (A := aa_icmp (fun x y => x = y) 131 34) (as_icmp_eq mk_29 (off := 100) (by decide +kernel) (by decide +kernel) rfl) (bs_icmp bh_eq_ok) : bz_ok true 29 31 (bz_icmp bh_eq 131 34)),
  List.forall_mem_cons.mpr ⟨(bz_of (A := aa_lda 0 35) (as_aload_n mk_29 (k := 0) (by decide +kernel) rfl rfl) bs_lda : bz_ok true 29 34 (bz_lda 0 35)),
  List.forall_mem_cons.mpr ⟨(bz_of (A := aa_ldi 1 36) (as_iload_n mk_29 (k := 1) (by decide +kernel) rfl rfl) bs_ldi : bz_ok true 29 35 (bz_ldi 1 36)),
  List.forall_mem_cons.mpr ⟨(bz_of (A := aa_pu (.int 0) 37) (as_iconst mk_29 (n := 0) (by decide +kernel) (by decide +kernel) rfl) (bs_pu rfl) : bz_ok true 29 36 (bz_pu (.inl 0) 37)),
  List.forall_mem_cons.mpr ⟨(bz_of (A := aa_ccv 30 2 5 3 aa_kI 40) (as_ccv mk_29 (ix := 76) aa_kI_ok (by decide +kernel) (cx_RX3_76 rfl) rfl) (bs_ccv bz_k1) : bz_ok true 29 37 (bz_ccv 30 2 5 3 1 40)),
  List.forall_mem_cons.mpr ⟨(bz_of (A := aa_sti 1 41) (as_istore_n mk_29 (k := 1) (by decide +kernel) rfl (by decide) rfl) bs_sti : bz_ok true 29 40 (bz_sti 1 41)),
  List.forall_mem_cons.mpr ⟨(bz_of (A := aa_ldi 1 42) (as_iload_n mk_29 (k := 1) (by decide +kernel) rfl rfl) bs_ldi : bz_ok true 29 41 (bz_ldi 1 42)),
  fun _ h => absurd h List.not_mem_nil⟩⟩⟩⟩⟩⟩⟩⟩
theorem bd_29_3 : ∀ q ∈ ([(42, bz_lda 0 43), (43, bz_gI 3 1 46), (46, bz_icmp bh_lt 49 66), (49, bz_lda 0 50), (50, bz_ldi 1 51), (51, bz_lda 0 52), (52, bz_gR 3 0 55), (55, bz_ldi 1 56)] : List (Nat × bz_Op)), bz_ok true 29 q.1 q.2 :=
  List.forall_mem_cons.mpr ⟨(bz_of (A := aa_lda 0 43) (as_aload_n mk_29 (k := 0) (by decide +kernel) rfl rfl) bs_lda : bz_ok true 29 42 (bz_lda 0 43)),
  List.forall_mem_cons.mpr ⟨(bz_of (A := aa_gI 3 1 46) (as_gI mk_29 (ix := 25) (by decide +kernel) (fd_RX3_25 rfl) rfl) bs_gI : bz_ok true 29 43 (bz_gI 3 1 46)),
  List.forall_mem_cons.mpr ⟨(bz_of (A := aa_icmp (fun x y => x < y) 49 66) (as_icmp_ge mk_29 (off := 20) (by decide +kernel) (by decide +kernel) rfl) (bs_icmp bh_lt_ok) : bz_ok true 29 46 (bz_icmp bh_lt 49 66)),
  List.forall_mem_cons.mpr ⟨(bz_of (A := aa_lda 0 50) (as_aload_n mk_29 (k := 0) (by decide +kernel) rfl rfl) bs_lda : bz_ok true 29 49 (bz_lda 0 50)),
  List.forall_mem_cons.mpr ⟨(bz_of (A := aa_ldi 1 51) (as_iload_n mk_29 (k := 1) (by decide +kernel) rfl rfl) bs_ldi : bz_ok true 29 50 (bz_ldi 1 51)),
  List.forall_mem_cons.mpr ⟨(bz_of (A := aa_lda 0 52) (as_aload_n mk_29 (k := 0) (by decide +kernel) rfl rfl) bs_lda : bz_ok true 29 51 (bz_lda 0 52)),
  List.forall_mem_cons.mpr ⟨(bz_of (A := aa_gR 3 0 55) (as_gR mk_29 (ix := 11) (by decide +kernel) (fd_RX3_11 rfl) rfl) bs_gR : bz_ok true 29 52 (bz_gR 3 0 55)),
  List.forall_mem_cons.mpr ⟨(bz_of (A := aa_ldi 1 56) (as_iload_n mk_29 (k := 1) (by decide +kernel) rfl rfl) bs_ldi : bz_ok true 29 55 (bz_ldi 1 56)),
  fun _ h => absurd h List.not_mem_nil⟩⟩⟩⟩⟩⟩⟩⟩
theorem bd_29_4 : ∀ q ∈ ([(56, bz_al 101 57), (57, bz_ccs 31 1 1 1 60), (60, bz_ccv 30 2 5 3 1 63), (63, bz_go 67), (66, bz_ldi 1 67), (67, bz_sti 4 69), (69, bz_lda 0 70), (70, bz_ldi 1 71)] : List (Nat × bz_Op)), bz_ok true 29 q.1 q.2 :=
  List.forall_mem_cons.mpr ⟨(bz_of (A := aa_al 101 57) (as_al mk_29 (Or.inr ⟨rfl, by decide +kernel⟩) rfl) bs_al : bz_ok true 29 56 (bz_al 101 57)),
  List.forall_mem_cons.mpr ⟨(bz_of (A := aa_ccs 31 1 1 aa_kI 60) (as_ccs mk_29 (ix := 80) (M' := ac_r31) aa_kI_ok (by decide +kernel) ce_31 lk_RX3_80 cs_31 rfl (by decide) rfl) (bs_ccs bz_k1) : bz_ok true 29 57 (bz_ccs 31 1 1 1 60)),
  List.forall_mem_cons.mpr ⟨(bz_of (A := aa_ccv 30 2 5 3 aa_kI 63) (as_ccv mk_29 (ix := 76) aa_kI_ok (by decide +kernel) (cx_RX3_76 rfl) rfl) (bs_ccv bz_k1) : bz_ok true 29 60 (bz_ccv 30 2 5 3 1 63)),
  List.forall_mem_cons.mpr ⟨(bz_of (A := aa_go 67) (as_goto mk_29 (off := 4) (by decide +kernel) (by decide +kernel)) bs_go : bz_ok true 29 63 (bz_go 67)),
  List.forall_mem_cons.mpr ⟨(bz_of (A := aa_ldi 1 67) (as_iload_n mk_29 (k := 1) (by decide +kernel) rfl rfl) bs_ldi : bz_ok true 29 66 (bz_ldi 1 67)),
  List.forall_mem_cons.mpr ⟨(bz_of (A := aa_sti 4 69) (as_istore mk_29 (by decide +kernel) (by decide) rfl) bs_sti : bz_ok true 29 67 (bz_sti 4 69)),
  List.forall_mem_cons.mpr ⟨(bz_of (A := aa_lda 0 70) (as_aload_n mk_29 (k := 0) (by decide +kernel) rfl rfl) bs_lda : bz_ok true 29 69 (bz_lda 0 70)),
  List.forall_mem_cons.mpr ⟨(bz_of (A := aa_ldi 1 71) (as_iload_n mk_29 (k := 1) (by decide +kernel) rfl rfl) bs_ldi : bz_ok true 29 70 (bz_ldi 1 71)),
  fun _ h => absurd h List.not_mem_nil⟩⟩⟩⟩⟩⟩⟩⟩
theorem bd_29_5 : ∀ q ∈ ([(71, bz_ldi 4 73), (73, bz_ccv 32 2 3 3 1 76), (76, bz_sti 2 77), (77, bz_lda 0 78), (78, bz_gR 3 2 81), (81, bz_ldi 3 82), (82, bz_ldi 2 83), (83, bz_as 100 bh_id 84)] : List (Nat × bz_Op)), bz_ok true 29 q.1 q.2 :=
  List.forall_mem_cons.mpr ⟨(bz_of (A := aa_ldi 4 73) (as_iload mk_29 (by decide +kernel) rfl) bs_ldi : bz_ok true 29 71 (bz_ldi 4 73)),
  List.forall_mem_cons.mpr ⟨(bz_of (A := aa_ccv 32 2 3 3 aa_kI 76) (as_ccv mk_29 (ix := 84) aa_kI_ok (by decide +kernel) (cx_RX3_84 rfl) rfl) (bs_ccv bz_k1) : bz_ok true 29 73 (bz_ccv 32 2 3 3 1 76)),
  List.forall_mem_cons.mpr ⟨(bz_of (A := aa_sti 2 77) (as_istore_n mk_29 (k := 2) (by decide +kernel) rfl (by decide) rfl) bs_sti : bz_ok true 29 76 (bz_sti 2 77)),
  List.forall_mem_cons.mpr ⟨(bz_of (A := aa_lda 0 78) (as_aload_n mk_29 (k := 0) (by decide +kernel) rfl rfl) bs_lda : bz_ok true 29 77 (bz_lda 0 78)),
  List.forall_mem_cons.mpr ⟨(bz_of (A := aa_gR 3 2 81) (as_gR mk_29 (ix := 15) (by decide +kernel) (fd_RX3_15 rfl) rfl) bs_gR : bz_ok true 29 78 (bz_gR 3 2 81)),
  List.forall_mem_cons.mpr ⟨(bz_of (A := aa_ldi 3 82) (as_iload_n mk_29 (k := 3) (by decide +kernel) rfl rfl) bs_ldi : bz_ok true 29 81 (bz_ldi 3 82)),
  List.forall_mem_cons.mpr ⟨(bz_of (A := aa_ldi 2 83) (as_iload_n mk_29 (k := 2) (by decide +kernel) rfl rfl) bs_ldi : bz_ok true 29 82 (bz_ldi 2 83)),
  List.forall_mem_cons.mpr ⟨(bz_of (A := aa_as 100 (fun x => x) 84) (as_as mk_29 (Or.inl ⟨rfl, fun _ => rfl, by decide +kernel⟩) rfl) (bs_as bh_id_ok) : bz_ok true 29 83 (bz_as 100 bh_id 84)),
  fun _ h => absurd h List.not_mem_nil⟩⟩⟩⟩⟩⟩⟩⟩
theorem bd_29_6 : ∀ q ∈ ([(84, bz_lda 0 85), (85, bz_gR 3 3 88), (88, bz_ldi 3 89), (89, bz_ldi 1 90), (90, bz_as 100 bh_id 91), (91, bz_lda 0 92), (92, bz_gR 3 4 95), (95, bz_ldi 3 96)] : List (Nat × bz_Op)), bz_ok true 29 q.1 q.2 :=
  List.forall_mem_cons.mpr ⟨(bz_of (A := aa_lda 0 85) (as_aload_n mk_29 (k := 0) (by decide +kernel) rfl rfl) bs_lda : bz_ok true 29 84 (bz_lda 0 85)),
  List.forall_mem_cons.mpr ⟨(bz_of (A := aa_gR 3 3 88) (as_gR mk_29 (ix := 19) (by decide +kernel) (fd_RX3_19 rfl) rfl) bs_gR : bz_ok true 29 85 (bz_gR 3 3 88)),
  List.forall_mem_cons.mpr ⟨(bz_of (A := aa_ldi 3 89) (as_iload_n mk_29 (k := 3) (by decide +kernel) rfl rfl) bs_ldi : bz_ok true 29 88 (bz_ldi 3 89)),
  List.forall_mem_cons.mpr ⟨(bz_of (A := aa_ldi 1 90) (as_iload_n mk_29 (k := 1) (by decide +kernel) rfl rfl) bs_ldi : bz_ok true 29 89 (bz_ldi 1 90)),
  List.forall_mem_cons.mpr ⟨(bz_of (A := aa_as 100 (fun x => x) 91) (as_as mk_29 (Or.inl ⟨rfl, fun _ => rfl, by decide +kernel⟩) rfl) (bs_as bh_id_ok) : bz_ok true 29 90 (bz_as 100 bh_id 91)),
  List.forall_mem_cons.mpr ⟨(bz_of (A := aa_lda 0 92) (as_aload_n mk_29 (k := 0) (by decide +kernel) rfl rfl) bs_lda : bz_ok true 29 91 (bz_lda 0 92)),
  List.forall_mem_cons.mpr ⟨(bz_of (A := aa_gR 3 4 95) (as_gR mk_29 (ix := 22) (by decide +kernel) (fd_RX3_22 rfl) rfl) bs_gR : bz_ok true 29 92 (bz_gR 3 4 95)),
  List.forall_mem_cons.mpr ⟨(bz_of (A := aa_ldi 3 96) (as_iload_n mk_29 (k := 3) (by decide +kernel) rfl rfl) bs_ldi : bz_ok true 29 95 (bz_ldi 3 96)),
  fun _ h => absurd h List.not_mem_nil⟩⟩⟩⟩⟩⟩⟩⟩
theorem bd_29_7 : ∀ q ∈ ([(96, bz_ldi 2 97), (97, bz_pu (.inl 258) 100), (100, bz_icmp bh_eq 103 113), (103, bz_lda 0 104), (104, bz_ldi 1 105), (105, bz_ldi 4 107), (107, bz_ccv 33 2 5 3 1 110), (110, bz_go 114)] : List (Nat × bz_Op)), bz_ok true 29 q.1 q.2 :=
  List.forall_mem_cons.mpr ⟨(bz_of (A := aa_ldi 2 97) (as_iload_n mk_29 (k := 2) (by decide +kernel) rfl rfl) bs_ldi : bz_ok true 29 96 (bz_ldi 2 97)),
  List.forall_mem_cons.mpr ⟨(bz_of (A := aa_pu (.int 258) 100) (as_sipush mk_29 (n := 258) (by decide +kernel) (by decide +kernel) rfl) (bs_pu rfl) : bz_ok true 29 97 (bz_pu (.inl 258) 100)),
  List.forall_mem_cons.mpr ⟨(bz_of (A := aa_icmp (fun x y => x = y) 103 113) (as_icmp_ne mk_29 (off := 13) (by decide +kernel) (by decide +kernel) rfl) (bs_icmp bh_eq_ok) : bz_ok true 29 100 (bz_icmp bh_eq 103 113)),
  List.forall_mem_cons.mpr ⟨(bz_of (A := aa_lda 0 104) (as_aload_n mk_29 (k := 0) (by decide +kernel) rfl rfl) bs_lda : bz_ok true 29 103 (bz_lda 0 104)),
  List.forall_mem_cons.mpr ⟨(bz_of (A := aa_ldi 1 105) (as_iload_n mk_29 (k := 1) (by decide +kernel) rfl rfl) bs_ldi : bz_ok true 29 104 (bz_ldi 1 105)),
  List.forall_mem_cons.mpr ⟨(bz_of (A := aa_ldi 4 107) (as_iload mk_29 (by decide +kernel) rfl) bs_ldi : bz_ok true 29 105 (bz_ldi 4 107)),
  List.forall_mem_cons.mpr ⟨(bz_of (A := aa_ccv 33 2 5 3 aa_kI 110) (as_ccv mk_29 (ix := 87) aa_kI_ok (by decide +kernel) (cx_RX3_87 rfl) rfl) (bs_ccv bz_k1) : bz_ok true 29 107 (bz_ccv 33 2 5 3 1 110)),
  List.forall_mem_cons.mpr ⟨(bz_of (A := aa_go 114) (as_goto mk_29 (off := 4) (by decide +kernel) (by decide +kernel)) bs_go : bz_ok true 29 110 (bz_go 114)),
  fun _ h => absurd h List.not_mem_nil⟩⟩⟩⟩⟩⟩⟩⟩
theorem bd_29_8 : ∀ q ∈ ([(113, bz_pu (.inl 0) 114), (114, bz_as 100 bh_id 115), (115, bz_lda 0 116), (116, bz_ldi 3 117), (117, bz_pu (.inl 1) 118), (118, bz_bin bh_add 119), (119, bz_pI 3 5 122), (122, bz_ldi 4 124)] : List (Nat × bz_Op)), bz_ok true 29 q.1 q.2 :=
  List.forall_mem_cons.mpr ⟨(bz_of (A := aa_pu (.int 0) 114) (as_iconst mk_29 (n := 0) (by decide +kernel) (by decide +kernel) rfl) (bs_pu rfl) : bz_ok true 29 113 (bz_pu (.inl 0) 114)),
  List.forall_mem_cons.mpr ⟨(bz_of (A := aa_as 100 (fun x => x) 115) (as_as mk_29 (Or.inl ⟨rfl, fun _ => rfl, by decide +kernel⟩) rfl) (bs_as bh_id_ok) : bz_ok true 29 114 (bz_as 100 bh_id 115)),
  List.forall_mem_cons.mpr ⟨(bz_of (A := aa_lda 0 116) (as_aload_n mk_29 (k := 0) (by decide +kernel) rfl rfl) bs_lda : bz_ok true 29 115 (bz_lda 0 116)),
  List.forall_mem_cons.mpr ⟨(bz_of (A := aa_ldi 3 117) (as_iload_n mk_29 (k := 3) (by decide +kernel) rfl rfl) bs_ldi : bz_ok true 29 116 (bz_ldi 3 117)),
  List.forall_mem_cons.mpr ⟨(bz_of (A := aa_pu (.int 1) 118) (as_iconst mk_29 (n := 1) (by decide +kernel) (by decide +kernel) rfl) (bs_pu rfl) : bz_ok true 29 117 (bz_pu (.inl 1) 118)),
  List.forall_mem_cons.mpr ⟨(bz_of (A := aa_bin (fun x y => x + y) 119) (as_iadd mk_29 (by decide +kernel) rfl) (bs_bin bh_add_ok) : bz_ok true 29 118 (bz_bin bh_add 119)),
  List.forall_mem_cons.mpr ⟨(bz_of (A := aa_pI 3 5 122) (as_pI mk_29 (ix := 73) (by decide +kernel) (fd_RX3_73 rfl) pt_3_5 rfl) bs_pI : bz_ok true 29 119 (bz_pI 3 5 122)),
  List.forall_mem_cons.mpr ⟨(bz_of (A := aa_ldi 4 124) (as_iload mk_29 (by decide +kernel) rfl) bs_ldi : bz_ok true 29 122 (bz_ldi 4 124)),
  fun _ h => absurd h List.not_mem_nil⟩⟩⟩⟩⟩⟩⟩⟩
theorem bd_29_9 : ∀ q ∈ ([(124, bz_sti 1 125), (125, bz_inc 3 1 128), (128, bz_go 13), (131, bz_retv)] : List (Nat × bz_Op)), bz_ok true 29 q.1 q.2 :=
  List.forall_mem_cons.mpr ⟨(bz_of (A := aa_sti 1 125) (as_istore_n mk_29 (k := 1) (by decide +kernel) rfl (by decide) rfl) bs_sti : bz_ok true 29 124 (bz_sti 1 125)),
  List.forall_mem_cons.mpr ⟨(bz_of (A := aa_inc 3 1 128) (as_iinc mk_29 (n := 1) (by decide +kernel) (by decide +kernel) (by decide) rfl) (bs_inc (by decide +kernel)) : bz_ok true 29 125 (bz_inc 3 1 128)),
  List.forall_mem_cons.mpr ⟨(bz_of (A := aa_go 13) (as_goto mk_29 (off := (-115)) (by decide +kernel) (by decide +kernel)) bs_go : bz_ok true 29 128 (bz_go 13)),
  List.forall_mem_cons.mpr ⟨(bz_of (A := aa_retv) (as_vret mk_29 (by decide +kernel) rfl) bs_retv : bz_ok true 29 131 (bz_retv)),
  fun _ h => absurd h List.not_mem_nil⟩⟩⟩⟩
theorem bd_29_ok : bz_tk true 29 bd_29 :=
  List.forall_mem_cons.mpr ⟨bd_29_0,
  List.forall_mem_cons.mpr ⟨bd_29_1,
  List.forall_mem_cons.mpr ⟨bd_29_2,
  List.forall_mem_cons.mpr ⟨bd_29_3,
  List.forall_mem_cons.mpr ⟨bd_29_4,
  List.forall_mem_cons.mpr ⟨bd_29_5,
  List.forall_mem_cons.mpr ⟨bd_29_6,
  List.forall_mem_cons.mpr ⟨bd_29_7,
  List.forall_mem_cons.mpr ⟨bd_29_8,
  List.forall_mem_cons.mpr ⟨bd_29_9,
  fun _ h => absurd h List.not_mem_nil⟩⟩⟩⟩⟩⟩⟩⟩⟩⟩
def bd_30 : bz_T := [(9, [(0, bz_ldi 2 1), (1, bz_pu (.inl 3) 2), (2, bz_icmp bh_eq 5 18), (5, bz_ldi 1 6), (6, bz_pu (.inl 1) 7), (7, bz_bin bh_add 8), (8, bz_lda 0 9), (9, bz_gI 3 1 12)]), (26, [(12, bz_mm bh_min 15), (15, bz_go 22), (18, bz_lda 0 19), (19, bz_gI 3 1 22), (22, bz_sti 3 23), (23, bz_ldi 1 24), (24, bz_sti 4 26), (26, bz_ldi 4 28)]), (42, [(28, bz_ldi 3 29), (29, bz_icmp bh_lt 32 52), (32, bz_lda 0 33), (33, bz_gR 3 0 36), (36, bz_ldi 4 38), (38, bz_al 101 39), (39, bz_ccs 31 1 1 1 42), (42, bz_ldi 2 43)]), (54, [(43, bz_icmp bh_eq 46 52), (46, bz_inc 4 1 49), (49, bz_go 26), (52, bz_ldi 4 54), (54, bz_reti)])]
theorem bd_30_0 : ∀ q ∈ ([(0, bz_ldi 2 1), (1, bz_pu (.inl 3) 2), (2, bz_icmp bh_eq 5 18), (5, bz_ldi 1 6), (6, bz_pu (.inl 1) 7), (7, bz_bin bh_add 8), (8, bz_lda 0 9), (9, bz_gI 3 1 12)] : List (Nat × bz_Op)), bz_ok true 30 q.1 q.2 :=
  List.forall_mem_cons.mpr ⟨(bz_of (A := aa_ldi 2 1) (as_iload_n mk_30 (k := 2) (by decide +kernel) rfl rfl) bs_ldi : bz_ok true 30 0 (bz_ldi 2 1)),
  List.forall_mem_cons.mpr ⟨(bz_of (A := aa_pu (.int 3) 2) (as_iconst mk_30 (n := 3) (by decide +kernel) (by decide +kernel) rfl) (bs_pu rfl) : bz_ok true 30 1 (bz_pu (.inl 3) 2)),
  List.forall_mem_cons.mpr ⟨(bz_of (A := aa_icmp (fun x y => x = y) 5 18) (as_icmp_ne mk_30 (off := 16) (by decide +kernel) (by decide +kernel) rfl) (bs_icmp bh_eq_ok) : bz_ok true 30 2 (bz_icmp bh_eq 5 18)),
  List.forall_mem_cons.mpr ⟨(bz_of (A := aa_ldi 1 6) (as_iload_n mk_30 (k := 1) (by decide +kernel) rfl rfl) bs_ldi : bz_ok true 30 5 (bz_ldi 1 6)),
  List.forall_mem_cons.mpr ⟨(bz_of (A := aa_pu (.int 1) 7) (as_iconst mk_30 (n := 1) (by decide +kernel) (by decide +kernel) rfl) (bs_pu rfl) : bz_ok true 30 6 (bz_pu (.inl 1) 7)),
  List.forall_mem_cons.mpr ⟨(bz_of (A := aa_bin (fun x y => x + y) 8) (as_iadd mk_30 (by decide +kernel) rfl) (bs_bin bh_add_ok) : bz_ok true 30 7 (bz_bin bh_add 8)),
  List.forall_mem_cons.mpr ⟨(bz_of (A := aa_lda 0 9) (as_aload_n mk_30 (k := 0) (by decide +kernel) rfl rfl) bs_lda : bz_ok true 30 8 (bz_lda 0 9)),
  List.forall_mem_cons.mpr ⟨(bz_of (A := aa_gI 3 1 12) (as_gI mk_30 (ix := 25) (by decide +kernel) (fd_RX3_25 rfl) rfl) bs_gI : bz_ok true 30 9 (bz_gI 3 1 12)),
  fun _ h => absurd h List.not_mem_nil⟩⟩⟩⟩⟩⟩⟩⟩
theorem bd_30_1 : ∀ q ∈ ([(12, bz_mm bh_min 15), (15, bz_go 22), (18, bz_lda 0 19), (19, bz_gI 3 1 22), (22, bz_sti 3 23), (23, bz_ldi 1 24), (24, bz_sti 4 26), (26, bz_ldi 4 28)] : List (Nat × bz_Op)), bz_ok true 30 q.1 q.2 :=
  List.forall_mem_cons.mpr ⟨(bz_of (A := aa_mm (fun x y => if y < x then y else x) 15) (as_mmin mk_30 (ix := 90) (by decide +kernel) mw_RX3_90 rfl) (bs_mm bh_min_ok) : bz_ok true 30 12 (bz_mm bh_min 15)),
  List.forall_mem_cons.mpr ⟨(bz_of (A := aa_go 22) (as_goto mk_30 (off := 7) (by decide +kernel) (by decide +kernel)) bs_go : bz_ok true 30 15 (bz_go 22)),
  List.forall_mem_cons.mpr ⟨(bz_of (A := aa_lda 0 19) (as_aload_n mk_30 (k := 0) (by decide +kernel) rfl rfl) bs_lda : bz_ok true 30 18 (bz_lda 0 19)),
  List.forall_mem_cons.mpr ⟨(bz_of (A := aa_gI 3 1 22) (as_gI mk_30 (ix := 25) (by decide +kernel) (fd_RX3_25 rfl) rfl) bs_gI : bz_ok true 30 19 (bz_gI 3 1 22)),
  List.forall_mem_cons.mpr ⟨(bz_of (A := aa_sti 3 23) (as_istore_n mk_30 (k := 3) (by decide +kernel) rfl (by decide) rfl) bs_sti : bz_ok true 30 22 (bz_sti 3 23)),
  List.forall_mem_cons.mpr ⟨(bz_of (A := aa_ldi 1 24) (as_iload_n mk_30 (k := 1) (by decide +kernel) rfl rfl) bs_ldi : bz_ok true 30 23 (bz_ldi 1 24)),
  List.forall_mem_cons.mpr ⟨(bz_of (A := aa_sti 4 26) (as_istore mk_30 (by decide +kernel) (by decide) rfl) bs_sti : bz_ok true 30 24 (bz_sti 4 26)),
  List.forall_mem_cons.mpr ⟨(bz_of (A := aa_ldi 4 28) (as_iload mk_30 (by decide +kernel) rfl) bs_ldi : bz_ok true 30 26 (bz_ldi 4 28)),
  fun _ h => absurd h List.not_mem_nil⟩⟩⟩⟩⟩⟩⟩⟩
theorem bd_30_2 : ∀ q ∈ ([(28, bz_ldi 3 29), (29, bz_icmp bh_lt 32 52), (32, bz_lda 0 33), (33, bz_gR 3 0 36), (36, bz_ldi 4 38), (38, bz_al 101 39), (39, bz_ccs 31 1 1 1 42), (42, bz_ldi 2 43)] : List (Nat × bz_Op)), bz_ok true 30 q.1 q.2 :=
  List.forall_mem_cons.mpr ⟨(bz_of (A := aa_ldi 3 29) (as_iload_n mk_30 (k := 3) (by decide +kernel) rfl rfl) bs_ldi : bz_ok true 30 28 (bz_ldi 3 29)),
  List.forall_mem_cons.mpr ⟨(bz_of (A := aa_icmp (fun x y => x < y) 32 52) (as_icmp_ge mk_30 (off := 23) (by decide +kernel) (by decide +kernel) rfl) (bs_icmp bh_lt_ok) : bz_ok true 30 29 (bz_icmp bh_lt 32 52)),
  List.forall_mem_cons.mpr ⟨(bz_of (A := aa_lda 0 33) (as_aload_n mk_30 (k := 0) (by decide +kernel) rfl rfl) bs_lda : bz_ok true 30 32 (bz_lda 0 33)),
  List.forall_mem_cons.mpr ⟨(bz_of (A := aa_gR 3 0 36) (as_gR mk_30 (ix := 11) (by decide +kernel) (fd_RX3_11 rfl) rfl) bs_gR : bz_ok true 30 33 (bz_gR 3 0 36)),
  List.forall_mem_cons.mpr ⟨(bz_of (A := aa_ldi 4 38) (as_iload mk_30 (by decide +kernel) rfl) bs_ldi : bz_ok true 30 36 (bz_ldi 4 38)),
  List.forall_mem_cons.mpr ⟨(bz_of (A := aa_al 101 39) (as_al mk_30 (Or.inr ⟨rfl, by decide +kernel⟩) rfl) bs_al : bz_ok true 30 38 (bz_al 101 39)),
  List.forall_mem_cons.mpr ⟨(bz_of (A := aa_ccs 31 1 1 aa_kI 42) (as_ccs mk_30 (ix := 80) (M' := ac_r31) aa_kI_ok (by decide +kernel) ce_31 lk_RX3_80 cs_31 rfl (by decide) rfl) (bs_ccs bz_k1) : bz_ok true 30 39 (bz_ccs 31 1 1 1 42)),
  List.forall_mem_cons.mpr ⟨(bz_of (A := aa_ldi 2 43) (as_iload_n mk_30 (k := 2) (by decide +kernel) rfl rfl) bs_ldi : bz_ok true 30 42 (bz_ldi 2 43)),
  fun _ h => absurd h List.not_mem_nil⟩⟩⟩⟩⟩⟩⟩⟩
theorem bd_30_3 : ∀ q ∈ ([(43, bz_icmp bh_eq 46 52), (46, bz_inc 4 1 49), (49, bz_go 26), (52, bz_ldi 4 54), (54, bz_reti)] : List (Nat × bz_Op)), bz_ok true 30 q.1 q.2 :=
  List.forall_mem_cons.mpr ⟨(bz_of (A := aa_icmp (fun x y => x = y) 46 52) (as_icmp_ne mk_30 (off := 9) (by decide +kernel) (by decide +kernel) rfl) (bs_icmp bh_eq_ok) : bz_ok true 30 43 (bz_icmp bh_eq 46 52)),
  List.forall_mem_cons.mpr ⟨(bz_of (A := aa_inc 4 1 49) (as_iinc mk_30 (n := 1) (by decide +kernel) (by decide +kernel) (by decide) rfl) (bs_inc (by decide +kernel)) : bz_ok true 30 46 (bz_inc 4 1 49)),
  List.forall_mem_cons.mpr ⟨(bz_of (A := aa_go 26) (as_goto mk_30 (off := (-23)) (by decide +kernel) (by decide +kernel)) bs_go : bz_ok true 30 49 (bz_go 26)),
  List.forall_mem_cons.mpr ⟨(bz_of (A := aa_ldi 4 54) (as_iload mk_30 (by decide +kernel) rfl) bs_ldi : bz_ok true 30 52 (bz_ldi 4 54)),
  List.forall_mem_cons.mpr ⟨(bz_of (A := aa_reti) (as_iret mk_30 (by decide +kernel) rfl) bs_reti : bz_ok true 30 54 (bz_reti)),
  fun _ h => absurd h List.not_mem_nil⟩⟩⟩⟩⟩
theorem bd_30_ok : bz_tk true 30 bd_30 :=
  List.forall_mem_cons.mpr ⟨bd_30_0,
  List.forall_mem_cons.mpr ⟨bd_30_1,
  List.forall_mem_cons.mpr ⟨bd_30_2,
  List.forall_mem_cons.mpr ⟨bd_30_3,
  fun _ h => absurd h List.not_mem_nil⟩⟩⟩⟩
def bd_31 : bz_T := [(13, [(0, bz_ldi 0 1), (1, bz_pu (.inl 32) 3), (3, bz_icmp bh_eq 12 6), (6, bz_ldi 0 7), (7, bz_pu (.inl 10) 9), (9, bz_icmp bh_eq 12 14), (12, bz_pu (.inl 0) 13), (13, bz_reti)]), (29, [(14, bz_ldi 0 15), (15, bz_pu (.inl 97) 17), (17, bz_pu (.inl 122) 19), (19, bz_ccs 182 3 3 1 22), (22, bz_if bh_eq0 29 25), (25, bz_pu (.inl 1) 26), (26, bz_go 45), (29, bz_ldi 0 30)]), (45, [(30, bz_pu (.inl 48) 32), (32, bz_pu (.inl 57) 34), (34, bz_ccs 182 3 3 1 37), (37, bz_if bh_eq0 44 40), (40, bz_pu (.inl 2) 41), (41, bz_go 45), (44, bz_pu (.inl 3) 45), (45, bz_reti)])]
theorem bd_31_0 : ∀ q ∈ ([(0, bz_ldi 0 1), (1, bz_pu (.inl 32) 3), (3, bz_icmp bh_eq 12 6), (6, bz_ldi 0 7), (7, bz_pu (.inl 10) 9), (9, bz_icmp bh_eq 12 14), (12, bz_pu (.inl 0) 13), (13, bz_reti)] : List (Nat × bz_Op)), bz_ok true 31 q.1 q.2 :=
  List.forall_mem_cons.mpr ⟨(bz_of (A := aa_ldi 0 1) (as_iload_n mk_31 (k := 0) (by decide +kernel) rfl rfl) bs_ldi : bz_ok true 31 0 (bz_ldi 0 1)),
  List.forall_mem_cons.mpr ⟨(bz_of (A := aa_pu (.int 32) 3) (as_bipush mk_31 (n := 32) (by decide +kernel) (by decide +kernel) rfl) (bs_pu rfl) : bz_ok true 31 1 (bz_pu (.inl 32) 3)),
  List.forall_mem_cons.mpr ⟨(bz_of (A := aa_icmp (fun x y => x = y) 12 6) (as_icmp_eq mk_31 (off := 9) (by decide +kernel) (by decide +kernel) rfl) (bs_icmp bh_eq_ok) : bz_ok true 31 3 (bz_icmp bh_eq 12 6)),
  List.forall_mem_cons.mpr ⟨(bz_of (A := aa_ldi 0 7) (as_iload_n mk_31 (k := 0) (by decide +kernel) rfl rfl) bs_ldi : bz_ok true 31 6 (bz_ldi 0 7)),
  List.forall_mem_cons.mpr ⟨(bz_of (A := aa_pu (.int 10) 9) (as_bipush mk_31 (n := 10) (by decide +kernel) (by decide +kernel) rfl) (bs_pu rfl) : bz_ok true 31 7 (bz_pu (.inl 10) 9)),
  List.forall_mem_cons.mpr ⟨(bz_of (A := aa_icmp (fun x y => x = y) 12 14) (as_icmp_ne mk_31 (off := 5) (by decide +kernel) (by decide +kernel) rfl) (bs_icmp bh_eq_ok) : bz_ok true 31 9 (bz_icmp bh_eq 12 14)),
  List.forall_mem_cons.mpr ⟨(bz_of (A := aa_pu (.int 0) 13) (as_iconst mk_31 (n := 0) (by decide +kernel) (by decide +kernel) rfl) (bs_pu rfl) : bz_ok true 31 12 (bz_pu (.inl 0) 13)),
  List.forall_mem_cons.mpr ⟨(bz_of (A := aa_reti) (as_iret mk_31 (by decide +kernel) rfl) bs_reti : bz_ok true 31 13 (bz_reti)),
  fun _ h => absurd h List.not_mem_nil⟩⟩⟩⟩⟩⟩⟩⟩
theorem bd_31_1 : ∀ q ∈ ([(14, bz_ldi 0 15), (15, bz_pu (.inl 97) 17), (17, bz_pu (.inl 122) 19), (19, bz_ccs 182 3 3 1 22), (22, bz_if bh_eq0 29 25), (25, bz_pu (.inl 1) 26), (26, bz_go 45), (29, bz_ldi 0 30)] : List (Nat × bz_Op)), bz_ok true 31 q.1 q.2 :=
  List.forall_mem_cons.mpr ⟨(bz_of (A := aa_ldi 0 15) (as_iload_n mk_31 (k := 0) (by decide +kernel) rfl rfl) bs_ldi : bz_ok true 31 14 (bz_ldi 0 15)),
  List.forall_mem_cons.mpr ⟨(bz_of (A := aa_pu (.int 97) 17) (as_bipush mk_31 (n := 97) (by decide +kernel) (by decide +kernel) rfl) (bs_pu rfl) : bz_ok true 31 15 (bz_pu (.inl 97) 17)),
  List.forall_mem_cons.mpr ⟨(bz_of (A := aa_pu (.int 122) 19) (as_bipush mk_31 (n := 122) (by decide +kernel) (by decide +kernel) rfl) (bs_pu rfl) : bz_ok true 31 17 (bz_pu (.inl 122) 19)),
  List.forall_mem_cons.mpr ⟨(bz_of (A := aa_ccs 182 3 3 aa_kI 22) (as_ccs mk_31 (ix := 95) (M' := ac_r182) aa_kI_ok (by decide +kernel) ce_182 lk_RX3_95 cs_182 rfl (by decide) rfl) (bs_ccs bz_k1) : bz_ok true 31 19 (bz_ccs 182 3 3 1 22)),
  List.forall_mem_cons.mpr ⟨(bz_of (A := aa_if (fun x => x = 0) 29 25) (as_if_eq mk_31 (off := 7) (by decide +kernel) (by decide +kernel) rfl) (bs_if bh_eq0_ok) : bz_ok true 31 22 (bz_if bh_eq0 29 25)),
  List.forall_mem_cons.mpr ⟨(bz_of (A := aa_pu (.int 1) 26) (as_iconst mk_31 (n := 1) (by decide +kernel) (by decide +kernel) rfl) (bs_pu rfl) : bz_ok true 31 25 (bz_pu (.inl 1) 26)),
  List.forall_mem_cons.mpr ⟨(bz_of (A := aa_go 45) (as_goto mk_31 (off := 19) (by decide +kernel) (by decide +kernel)) bs_go : bz_ok true 31 26 (bz_go 45)),
  List.forall_mem_cons.mpr ⟨(bz_of (A := aa_ldi 0 30) (as_iload_n mk_31 (k := 0) (by decide +kernel) rfl rfl) bs_ldi : bz_ok true 31 29 (bz_ldi 0 30)),
  fun _ h => absurd h List.not_mem_nil⟩⟩⟩⟩⟩⟩⟩⟩
theorem bd_31_2 : ∀ q ∈ ([(30, bz_pu (.inl 48) 32), (32, bz_pu (.inl 57) 34), (34, bz_ccs 182 3 3 1 37), (37, bz_if bh_eq0 44 40), (40, bz_pu (.inl 2) 41), (41, bz_go 45), (44, bz_pu (.inl 3) 45), (45, bz_reti)] : List (Nat × bz_Op)), bz_ok true 31 q.1 q.2 :=
  List.forall_mem_cons.mpr ⟨(bz_of (A := aa_pu (.int 48) 32) (as_bipush mk_31 (n := 48) (by decide +kernel) (by decide +kernel) rfl) (bs_pu rfl) : bz_ok true 31 30 (bz_pu (.inl 48) 32)),
  List.forall_mem_cons.mpr ⟨(bz_of (A := aa_pu (.int 57) 34) (as_bipush mk_31 (n := 57) (by decide +kernel) (by decide +kernel) rfl) (bs_pu rfl) : bz_ok true 31 32 (bz_pu (.inl 57) 34)),
  List.forall_mem_cons.mpr ⟨(bz_of (A := aa_ccs 182 3 3 aa_kI 37) (as_ccs mk_31 (ix := 95) (M' := ac_r182) aa_kI_ok (by decide +kernel) ce_182 lk_RX3_95 cs_182 rfl (by decide) rfl) (bs_ccs bz_k1) : bz_ok true 31 34 (bz_ccs 182 3 3 1 37)),
  List.forall_mem_cons.mpr ⟨(bz_of (A := aa_if (fun x => x = 0) 44 40) (as_if_eq mk_31 (off := 7) (by decide +kernel) (by decide +kernel) rfl) (bs_if bh_eq0_ok) : bz_ok true 31 37 (bz_if bh_eq0 44 40)),
  List.forall_mem_cons.mpr ⟨(bz_of (A := aa_pu (.int 2) 41) (as_iconst mk_31 (n := 2) (by decide +kernel) (by decide +kernel) rfl) (bs_pu rfl) : bz_ok true 31 40 (bz_pu (.inl 2) 41)),
  List.forall_mem_cons.mpr ⟨(bz_of (A := aa_go 45) (as_goto mk_31 (off := 4) (by decide +kernel) (by decide +kernel)) bs_go : bz_ok true 31 41 (bz_go 45)),
  List.forall_mem_cons.mpr ⟨(bz_of (A := aa_pu (.int 3) 45) (as_iconst mk_31 (n := 3) (by decide +kernel) (by decide +kernel) rfl) (bs_pu rfl) : bz_ok true 31 44 (bz_pu (.inl 3) 45)),
  List.forall_mem_cons.mpr ⟨(bz_of (A := aa_reti) (as_iret mk_31 (by decide +kernel) rfl) bs_reti : bz_ok true 31 45 (bz_reti)),
  fun _ h => absurd h List.not_mem_nil⟩⟩⟩⟩⟩⟩⟩⟩
theorem bd_31_ok : bz_tk true 31 bd_31 :=
  List.forall_mem_cons.mpr ⟨bd_31_0,
  List.forall_mem_cons.mpr ⟨bd_31_1,
  List.forall_mem_cons.mpr ⟨bd_31_2,
  fun _ h => absurd h List.not_mem_nil⟩⟩⟩
def bd_32 : bz_T := [(13, [(0, bz_ldi 1 1), (1, bz_lda 0 2), (2, bz_gI 3 1 5), (5, bz_icmp bh_lt 12 8), (8, bz_pu (.inl 256) 11), (11, bz_reti), (12, bz_lda 0 13), (13, bz_gR 3 0 16)]), (51, [(16, bz_ldi 1 17), (17, bz_al 101 18), (18, bz_ccs 31 1 1 1 21), (21, bz_sw 72 [(1, 48), (2, 55)]), (48, bz_lda 0 49), (49, bz_ldi 1 50), (50, bz_ldi 2 51), (51, bz_ccv 34 2 4 3 1 54)]), (65, [(54, bz_reti), (55, bz_ldi 2 56), (56, bz_ldi 1 57), (57, bz_bin bh_sub 58), (58, bz_pu (.inl 4) 59), (59, bz_icmp bh_gt 68 62), (62, bz_pu (.inl 258) 65), (65, bz_go 71)]), (78, [(68, bz_pu (.inl 257) 71), (71, bz_reti), (72, bz_lda 0 73), (73, bz_gR 3 0 76), (76, bz_ldi 1 77), (77, bz_al 101 78), (78, bz_reti)])]
theorem bd_32_0 : ∀ q ∈ ([(0, bz_ldi 1 1), (1, bz_lda 0 2), (2, bz_gI 3 1 5), (5, bz_icmp bh_lt 12 8), (8, bz_pu (.inl 256) 11), (11, bz_reti), (12, bz_lda 0 13), (13, bz_gR 3 0 16)] : List (Nat × bz_Op)), bz_ok true 32 q.1 q.2 :=
  List.forall_mem_cons.mpr ⟨(bz_of (A := aa_ldi 1 1) (as_iload_n mk_32 (k := 1) (by decide +kernel) rfl rfl) bs_ldi : bz_ok true 32 0 (bz_ldi 1 1)),
  List.forall_mem_cons.mpr ⟨(bz_of (A := aa_lda 0 2) (as_aload_n mk_32 (k := 0) (by decide +kernel) rfl rfl) bs_lda : bz_ok true 32 1 (bz_lda 0 2)),
  List.forall_mem_cons.mpr ⟨(bz_of (A := aa_gI 3 1 5) (as_gI mk_32 (ix := 25) (by decide +kernel) (fd_RX3_25 rfl) rfl) bs_gI : bz_ok true 32 2 (bz_gI 3 1 5)),
  List.forall_mem_cons.mpr ⟨(bz_of (A := aa_icmp (fun x y => x < y) 12 8) (as_icmp_lt mk_32 (off := 7) (by decide +kernel) (by decide +kernel) rfl) (bs_icmp bh_lt_ok) : bz_ok true 32 5 (bz_icmp bh_lt 12 8)),
  List.forall_mem_cons.mpr ⟨(bz_of (A := aa_pu (.int 256) 11) (as_sipush mk_32 (n := 256) (by decide +kernel) (by decide +kernel) rfl) (bs_pu rfl) : bz_ok true 32 8 (bz_pu (.inl 256) 11)),
  List.forall_mem_cons.mpr ⟨(bz_of (A := aa_reti) (as_iret mk_32 (by decide +kernel) rfl) bs_reti : bz_ok true 32 11 (bz_reti)),
  List.forall_mem_cons.mpr ⟨(bz_of (A := aa_lda 0 13) (as_aload_n mk_32 (k := 0) (by decide +kernel) rfl rfl) bs_lda : bz_ok true 32 12 (bz_lda 0 13)),
  List.forall_mem_cons.mpr ⟨(bz_of (A := aa_gR 3 0 16) (as_gR mk_32 (ix := 11) (by decide +kernel) (fd_RX3_11 rfl) rfl) bs_gR : bz_ok true 32 13 (bz_gR 3 0 16)),
  fun _ h => absurd h List.not_mem_nil⟩⟩⟩⟩⟩⟩⟩⟩
theorem bd_32_1 : ∀ q ∈ ([(16, bz_ldi 1 17), (17, bz_al 101 18), (18, bz_ccs 31 1 1 1 21), (21, bz_sw 72 [(1, 48), (2, 55)]), (48, bz_lda 0 49), (49, bz_ldi 1 50), (50, bz_ldi 2 51), (51, bz_ccv 34 2 4 3 1 54)] : List (Nat × bz_Op)), bz_ok true 32 q.1 q.2 :=
  List.forall_mem_cons.mpr ⟨(bz_of (A := aa_ldi 1 17) (as_iload_n mk_32 (k := 1) (by decide +kernel) rfl rfl) bs_ldi : bz_ok true 32 16 (bz_ldi 1 17)),
  List.forall_mem_cons.mpr ⟨(bz_of (A := aa_al 101 18) (as_al mk_32 (Or.inr ⟨rfl, by decide +kernel⟩) rfl) bs_al : bz_ok true 32 17 (bz_al 101 18)),
  List.forall_mem_cons.mpr ⟨(bz_of (A := aa_ccs 31 1 1 aa_kI 21) (as_ccs mk_32 (ix := 80) (M' := ac_r31) aa_kI_ok (by decide +kernel) ce_31 lk_RX3_80 cs_31 rfl (by decide) rfl) (bs_ccs bz_k1) : bz_ok true 32 18 (bz_ccs 31 1 1 1 21)),
  List.forall_mem_cons.mpr ⟨(bz_of (A := aa_sw 72 [(1, 48), (2, 55)]) (sw_32_21) (bs_sw (by decide +kernel) (by decide +kernel)) : bz_ok true 32 21 (bz_sw 72 [(1, 48), (2, 55)])),
  List.forall_mem_cons.mpr ⟨(bz_of (A := aa_lda 0 49) (as_aload_n mk_32 (k := 0) (by decide +kernel) rfl rfl) bs_lda : bz_ok true 32 48 (bz_lda 0 49)),
  List.forall_mem_cons.mpr ⟨(bz_of (A := aa_ldi 1 50) (as_iload_n mk_32 (k := 1) (by decide +kernel) rfl rfl) bs_ldi : bz_ok true 32 49 (bz_ldi 1 50)),
  List.forall_mem_cons.mpr ⟨(bz_of (A := aa_ldi 2 51) (as_iload_n mk_32 (k := 2) (by decide +kernel) rfl rfl) bs_ldi : bz_ok true 32 50 (bz_ldi 2 51)),
  List.forall_mem_cons.mpr ⟨(bz_of (A := aa_ccv 34 2 4 3 aa_kI 54) (as_ccv mk_32 (ix := 99) aa_kI_ok (by decide +kernel) (cx_RX3_99 rfl) rfl) (bs_ccv bz_k1) : bz_ok true 32 51 (bz_ccv 34 2 4 3 1 54)),
  fun _ h => absurd h List.not_mem_nil⟩⟩⟩⟩⟩⟩⟩⟩
theorem bd_32_2 : ∀ q ∈ ([(54, bz_reti), (55, bz_ldi 2 56), (56, bz_ldi 1 57), (57, bz_bin bh_sub 58), (58, bz_pu (.inl 4) 59), (59, bz_icmp bh_gt 68 62), (62, bz_pu (.inl 258) 65), (65, bz_go 71)] : List (Nat × bz_Op)), bz_ok true 32 q.1 q.2 :=
  List.forall_mem_cons.mpr ⟨(bz_of (A := aa_reti) (as_iret mk_32 (by decide +kernel) rfl) bs_reti : bz_ok true 32 54 (bz_reti)),
  List.forall_mem_cons.mpr ⟨(bz_of (A := aa_ldi 2 56) (as_iload_n mk_32 (k := 2) (by decide +kernel) rfl rfl) bs_ldi : bz_ok true 32 55 (bz_ldi 2 56)),
  List.forall_mem_cons.mpr ⟨(bz_of (A := aa_ldi 1 57) (as_iload_n mk_32 (k := 1) (by decide +kernel) rfl rfl) bs_ldi : bz_ok true 32 56 (bz_ldi 1 57)),
  List.forall_mem_cons.mpr ⟨(bz_of (A := aa_bin (fun x y => x - y) 58) (as_isub mk_32 (by decide +kernel) rfl) (bs_bin bh_sub_ok) : bz_ok true 32 57 (bz_bin bh_sub 58)),
  List.forall_mem_cons.mpr ⟨(bz_of (A := aa_pu (.int 4) 59) (as_iconst mk_32 (n := 4) (by decide +kernel) (by decide +kernel) rfl) (bs_pu rfl) : bz_ok true 32 58 (bz_pu (.inl 4) 59)),
  List.forall_mem_cons.mpr ⟨(bz_of (A := aa_icmp (fun x y => y < x) 68 62) (as_icmp_gt mk_32 (off := 9) (by decide +kernel) (by decide +kernel) rfl) (bs_icmp bh_gt_ok) : bz_ok true 32 59 (bz_icmp bh_gt 68 62)),
  List.forall_mem_cons.mpr ⟨(bz_of (A := aa_pu (.int 258) 65) (as_sipush mk_32 (n := 258) (by decide +kernel) (by decide +kernel) rfl) (bs_pu rfl) : bz_ok true 32 62 (bz_pu (.inl 258) 65)),
  List.forall_mem_cons.mpr ⟨(bz_of (A := aa_go 71) (as_goto mk_32 (off := 6) (by decide +kernel) (by decide +kernel)) bs_go : bz_ok true 32 65 (bz_go 71)),
  fun _ h => absurd h List.not_mem_nil⟩⟩⟩⟩⟩⟩⟩⟩
theorem bd_32_3 : ∀ q ∈ ([(68, bz_pu (.inl 257) 71), (71, bz_reti), (72, bz_lda 0 73), (73, bz_gR 3 0 76), (76, bz_ldi 1 77), (77, bz_al 101 78), (78, bz_reti)] : List (Nat × bz_Op)), bz_ok true 32 q.1 q.2 :=
  List.forall_mem_cons.mpr ⟨(bz_of (A := aa_pu (.int 257) 71) (as_sipush mk_32 (n := 257) (by decide +kernel) (by decide +kernel) rfl) (bs_pu rfl) : bz_ok true 32 68 (bz_pu (.inl 257) 71)),
  List.forall_mem_cons.mpr ⟨(bz_of (A := aa_reti) (as_iret mk_32 (by decide +kernel) rfl) bs_reti : bz_ok true 32 71 (bz_reti)),
  List.forall_mem_cons.mpr ⟨(bz_of (A := aa_lda 0 73) (as_aload_n mk_32 (k := 0) (by decide +kernel) rfl rfl) bs_lda : bz_ok true 32 72 (bz_lda 0 73)),
  List.forall_mem_cons.mpr ⟨(bz_of (A := aa_gR 3 0 76) (as_gR mk_32 (ix := 11) (by decide +kernel) (fd_RX3_11 rfl) rfl) bs_gR : bz_ok true 32 73 (bz_gR 3 0 76)),
  List.forall_mem_cons.mpr ⟨(bz_of (A := aa_ldi 1 77) (as_iload_n mk_32 (k := 1) (by decide +kernel) rfl rfl) bs_ldi : bz_ok true 32 76 (bz_ldi 1 77)),
  List.forall_mem_cons.mpr ⟨(bz_of (A := aa_al 101 78) (as_al mk_32 (Or.inr ⟨rfl, by decide +kernel⟩) rfl) bs_al : bz_ok true 32 77 (bz_al 101 78)),
  List.forall_mem_cons.mpr ⟨(bz_of (A := aa_reti) (as_iret mk_32 (by decide +kernel) rfl) bs_reti : bz_ok true 32 78 (bz_reti)),
  fun _ h => absurd h List.not_mem_nil⟩⟩⟩⟩⟩⟩⟩
theorem bd_32_ok : bz_tk true 32 bd_32 :=
  List.forall_mem_cons.mpr ⟨bd_32_0,
  List.forall_mem_cons.mpr ⟨bd_32_1,
  List.forall_mem_cons.mpr ⟨bd_32_2,
  List.forall_mem_cons.mpr ⟨bd_32_3,
  fun _ h => absurd h List.not_mem_nil⟩⟩⟩⟩
def bd_33 : bz_T := [(11, [(0, bz_pu (.inl 0) 1), (1, bz_sti 3 2), (2, bz_ldi 1 3), (3, bz_sti 4 5), (5, bz_ldi 4 7), (7, bz_ldi 2 8), (8, bz_icmp bh_lt 11 33), (11, bz_ldi 3 12)]), (23, [(12, bz_pu (.inl 10) 14), (14, bz_bin bh_mul 15), (15, bz_lda 0 16), (16, bz_gR 3 0 19), (19, bz_ldi 4 21), (21, bz_al 101 22), (22, bz_bin bh_add 23), (23, bz_pu (.inl 48) 25)]), (34, [(25, bz_bin bh_sub 26), (26, bz_sti 3 27), (27, bz_inc 4 1 30), (30, bz_go 5), (33, bz_ldi 3 34), (34, bz_reti)])]
theorem bd_33_0 : ∀ q ∈ ([(0, bz_pu (.inl 0) 1), (1, bz_sti 3 2), (2, bz_ldi 1 3), (3, bz_sti 4 5), (5, bz_ldi 4 7), (7, bz_ldi 2 8), (8, bz_icmp bh_lt 11 33), (11, bz_ldi 3 12)] : List (Nat × bz_Op)), bz_ok true 33 q.1 q.2 :=
  List.forall_mem_cons.mpr ⟨(bz_of (A := aa_pu (.int 0) 1) (as_iconst mk_33 (n := 0) (by decide +kernel) (by decide +kernel) rfl) (bs_pu rfl) : bz_ok true 33 0 (bz_pu (.inl 0) 1)),
  List.forall_mem_cons.mpr ⟨(bz_of (A := aa_sti 3 2) (as_istore_n mk_33 (k := 3) (by decide +kernel) rfl (by decide) rfl) bs_sti : bz_ok true 33 1 (bz_sti 3 2)),
  List.forall_mem_cons.mpr ⟨(bz_of (A := aa_ldi 1 3) (as_iload_n mk_33 (k := 1) (by decide +kernel) rfl rfl) bs_ldi : bz_ok true 33 2 (bz_ldi 1 3)),
  List.forall_mem_cons.mpr ⟨(bz_of (A := aa_sti 4 5) (as_istore mk_33 (by decide +kernel) (by decide) rfl) bs_sti : bz_ok true 33 3 (bz_sti 4 5)),
  List.forall_mem_cons.mpr ⟨(bz_of (A := aa_ldi 4 7) (as_iload mk_33 (by decide +kernel) rfl) bs_ldi : bz_ok true 33 5 (bz_ldi 4 7)),
  List.forall_mem_cons.mpr ⟨(bz_of (A := aa_ldi 2 8) (as_iload_n mk_33 (k := 2) (by decide +kernel) rfl rfl) bs_ldi : bz_ok true 33 7 (bz_ldi 2 8)),
  List.forall_mem_cons.mpr ⟨(bz_of (A := aa_icmp (fun x y => x < y) 11 33) (as_icmp_ge mk_33 (off := 25) (by decide +kernel) (by decide +kernel) rfl) (bs_icmp bh_lt_ok) : bz_ok true 33 8 (bz_icmp bh_lt 11 33)),
  List.forall_mem_cons.mpr ⟨(bz_of (A := aa_ldi 3 12) (as_iload_n mk_33 (k := 3) (by decide +kernel) rfl rfl) bs_ldi : bz_ok true 33 11 (bz_ldi 3 12)),
  fun _ h => absurd h List.not_mem_nil⟩⟩⟩⟩⟩⟩⟩⟩
theorem bd_33_1 : ∀ q ∈ ([(12, bz_pu (.inl 10) 14), (14, bz_bin bh_mul 15), (15, bz_lda 0 16), (16, bz_gR 3 0 19), (19, bz_ldi 4 21), (21, bz_al 101 22), (22, bz_bin bh_add 23), (23, bz_pu (.inl 48) 25)] : List (Nat × bz_Op)), bz_ok true 33 q.1 q.2 :=
  List.forall_mem_cons.mpr ⟨(bz_of (A := aa_pu (.int 10) 14) (as_bipush mk_33 (n := 10) (by decide +kernel) (by decide +kernel) rfl) (bs_pu rfl) : bz_ok true 33 12 (bz_pu (.inl 10) 14)),
  List.forall_mem_cons.mpr ⟨(bz_of (A := aa_bin (fun x y => x * y) 15) (as_imul mk_33 (by decide +kernel) rfl) (bs_bin bh_mul_ok) : bz_ok true 33 14 (bz_bin bh_mul 15)),
  List.forall_mem_cons.mpr ⟨(bz_of (A := aa_lda 0 16) (as_aload_n mk_33 (k := 0) (by decide +kernel) rfl rfl) bs_lda : bz_ok true 33 15 (bz_lda 0 16)),
  List.forall_mem_cons.mpr ⟨(bz_of (A := aa_gR 3 0 19) (as_gR mk_33 (ix := 11) (by decide +kernel) (fd_RX3_11 rfl) rfl) bs_gR : bz_ok true 33 16 (bz_gR 3 0 19)),
  List.forall_mem_cons.mpr ⟨(bz_of (A := aa_ldi 4 21) (as_iload mk_33 (by decide +kernel) rfl) bs_ldi : bz_ok true 33 19 (bz_ldi 4 21)),
  List.forall_mem_cons.mpr ⟨(bz_of (A := aa_al 101 22) (as_al mk_33 (Or.inr ⟨rfl, by decide +kernel⟩) rfl) bs_al : bz_ok true 33 21 (bz_al 101 22)),
  List.forall_mem_cons.mpr ⟨(bz_of (A := aa_bin (fun x y => x + y) 23) (as_iadd mk_33 (by decide +kernel) rfl) (bs_bin bh_add_ok) : bz_ok true 33 22 (bz_bin bh_add 23)),
  List.forall_mem_cons.mpr ⟨(bz_of (A := aa_pu (.int 48) 25) (as_bipush mk_33 (n := 48) (by decide +kernel) (by decide +kernel) rfl) (bs_pu rfl) : bz_ok true 33 23 (bz_pu (.inl 48) 25)),
  fun _ h => absurd h List.not_mem_nil⟩⟩⟩⟩⟩⟩⟩⟩
theorem bd_33_2 : ∀ q ∈ ([(25, bz_bin bh_sub 26), (26, bz_sti 3 27), (27, bz_inc 4 1 30), (30, bz_go 5), (33, bz_ldi 3 34), (34, bz_reti)] : List (Nat × bz_Op)), bz_ok true 33 q.1 q.2 :=
  List.forall_mem_cons.mpr ⟨(bz_of (A := aa_bin (fun x y => x - y) 26) (as_isub mk_33 (by decide +kernel) rfl) (bs_bin bh_sub_ok) : bz_ok true 33 25 (bz_bin bh_sub 26)),
  List.forall_mem_cons.mpr ⟨(bz_of (A := aa_sti 3 27) (as_istore_n mk_33 (k := 3) (by decide +kernel) rfl (by decide) rfl) bs_sti : bz_ok true 33 26 (bz_sti 3 27)),
  List.forall_mem_cons.mpr ⟨(bz_of (A := aa_inc 4 1 30) (as_iinc mk_33 (n := 1) (by decide +kernel) (by decide +kernel) (by decide) rfl) (bs_inc (by decide +kernel)) : bz_ok true 33 27 (bz_inc 4 1 30)),
  List.forall_mem_cons.mpr ⟨(bz_of (A := aa_go 5) (as_goto mk_33 (off := (-25)) (by decide +kernel) (by decide +kernel)) bs_go : bz_ok true 33 30 (bz_go 5)),
  List.forall_mem_cons.mpr ⟨(bz_of (A := aa_ldi 3 34) (as_iload_n mk_33 (k := 3) (by decide +kernel) rfl rfl) bs_ldi : bz_ok true 33 33 (bz_ldi 3 34)),
  List.forall_mem_cons.mpr ⟨(bz_of (A := aa_reti) (as_iret mk_33 (by decide +kernel) rfl) bs_reti : bz_ok true 33 34 (bz_reti)),
  fun _ h => absurd h List.not_mem_nil⟩⟩⟩⟩⟩⟩
theorem bd_33_ok : bz_tk true 33 bd_33 :=
  List.forall_mem_cons.mpr ⟨bd_33_0,
  List.forall_mem_cons.mpr ⟨bd_33_1,
  List.forall_mem_cons.mpr ⟨bd_33_2,
  fun _ h => absurd h List.not_mem_nil⟩⟩⟩
def bd_34 : bz_T := [(10, [(0, bz_pu (.inl 0) 1), (1, bz_sti 3 2), (2, bz_ldi 3 3), (3, bz_pu (.inl 11) 5), (5, bz_icmp bh_lt 8 33), (8, bz_lda 0 9), (9, bz_ldi 3 10), (10, bz_ccs 36 1 1 2 13)]), (26, [(13, bz_ldi 1 14), (14, bz_ldi 2 15), (15, bz_ccv 35 3 5 3 1 18), (18, bz_if bh_eq0 27 21), (21, bz_pu (.inl 300) 24), (24, bz_ldi 3 25), (25, bz_bin bh_add 26), (26, bz_reti)]), (36, [(27, bz_inc 3 1 30), (30, bz_go 2), (33, bz_pu (.inl 257) 36), (36, bz_reti)])]
theorem bd_34_0 : ∀ q ∈ ([(0, bz_pu (.inl 0) 1), (1, bz_sti 3 2), (2, bz_ldi 3 3), (3, bz_pu (.inl 11) 5), (5, bz_icmp bh_lt 8 33), (8, bz_lda 0 9), (9, bz_ldi 3 10), (10, bz_ccs 36 1 1 2 13)] : List (Nat × bz_Op)), bz_ok true 34 q.1 q.2 :=
  List.forall_mem_cons.mpr ⟨(bz_of (A := aa_pu (.int 0) 1) (as_iconst mk_34 (n := 0) (by decide +kernel) (by decide +kernel) rfl) (bs_pu rfl) : bz_ok true 34 0 (bz_pu (.inl 0) 1)),
  List.forall_mem_cons.mpr ⟨(bz_of (A := aa_sti 3 2) (as_istore_n mk_34 (k := 3) (by decide +kernel) rfl (by decide) rfl) bs_sti : bz_ok true 34 1 (bz_sti 3 2)),
  List.forall_mem_cons.mpr ⟨(bz_of (A := aa_ldi 3 3) (as_iload_n mk_34 (k := 3) (by decide +kernel) rfl rfl) bs_ldi : bz_ok true 34 2 (bz_ldi 3 3)),
  List.forall_mem_cons.mpr ⟨(bz_of (A := aa_pu (.int 11) 5) (as_bipush mk_34 (n := 11) (by decide +kernel) (by decide +kernel) rfl) (bs_pu rfl) : bz_ok true 34 3 (bz_pu (.inl 11) 5)),
  List.forall_mem_cons.mpr ⟨(bz_of (A := aa_icmp (fun x y => x < y) 8 33) (as_icmp_ge mk_34 (off := 28) (by decide +kernel) (by decide +kernel) rfl) (bs_icmp bh_lt_ok) : bz_ok true 34 5 (bz_icmp bh_lt 8 33)),
  List.forall_mem_cons.mpr ⟨(bz_of (A := aa_lda 0 9) (as_aload_n mk_34 (k := 0) (by decide +kernel) rfl rfl) bs_lda : bz_ok true 34 8 (bz_lda 0 9)),
  List.forall_mem_cons.mpr ⟨(bz_of (A := aa_ldi 3 10) (as_iload_n mk_34 (k := 3) (by decide +kernel) rfl rfl) bs_ldi : bz_ok true 34 9 (bz_ldi 3 10)),
  List.forall_mem_cons.mpr ⟨(bz_of (A := aa_ccs 36 1 1 aa_kR 13) (as_ccs mk_34 (ix := 102) (M' := ac_r36) aa_kR_ok (by decide +kernel) ce_36 lk_RX3_102 cs_36 rfl (by decide) rfl) (bs_ccs bz_k2) : bz_ok true 34 10 (bz_ccs 36 1 1 2 13)),
  fun _ h => absurd h List.not_mem_nil⟩⟩⟩⟩⟩⟩⟩⟩
theorem bd_34_1 : ∀ q ∈ ([(13, bz_ldi 1 14), (14, bz_ldi 2 15), (15, bz_ccv 35 3 5 3 1 18), (18, bz_if bh_eq0 27 21), (21, bz_pu (.inl 300) 24), (24, bz_ldi 3 25), (25, bz_bin bh_add 26), (26, bz_reti)] : List (Nat × bz_Op)), bz_ok true 34 q.1 q.2 :=
  List.forall_mem_cons.mpr ⟨(bz_of (A := aa_ldi 1 14) (as_iload_n mk_34 (k := 1) (by decide +kernel) rfl rfl) bs_ldi : bz_ok true 34 13 (bz_ldi 1 14)),
  List.forall_mem_cons.mpr ⟨(bz_of (A := aa_ldi 2 15) (as_iload_n mk_34 (k := 2) (by decide +kernel) rfl rfl) bs_ldi : bz_ok true 34 14 (bz_ldi 2 15)),
  List.forall_mem_cons.mpr ⟨(bz_of (A := aa_ccv 35 3 5 3 aa_kI 18) (as_ccv mk_34 (ix := 106) aa_kI_ok (by decide +kernel) (cx_RX3_106 rfl) rfl) (bs_ccv bz_k1) : bz_ok true 34 15 (bz_ccv 35 3 5 3 1 18)),
  List.forall_mem_cons.mpr ⟨(bz_of (A := aa_if (fun x => x = 0) 27 21) (as_if_eq mk_34 (off := 9) (by decide +kernel) (by decide +kernel) rfl) (bs_if bh_eq0_ok) : bz_ok true 34 18 (bz_if bh_eq0 27 21)),
  List.forall_mem_cons.mpr ⟨(bz_of (A := aa_pu (.int 300) 24) (as_sipush mk_34 (n := 300) (by decide +kernel) (by decide +kernel) rfl) (bs_pu rfl) : bz_ok true 34 21 (bz_pu (.inl 300) 24)),
  List.forall_mem_cons.mpr ⟨(bz_of (A := aa_ldi 3 25) (as_iload_n mk_34 (k := 3) (by decide +kernel) rfl rfl) bs_ldi : bz_ok true 34 24 (bz_ldi 3 25)),
  List.forall_mem_cons.mpr ⟨(bz_of (A := aa_bin (fun x y => x + y) 26) (as_iadd mk_34 (by decide +kernel) rfl) (bs_bin bh_add_ok) : bz_ok true 34 25 (bz_bin bh_add 26)),
  List.forall_mem_cons.mpr ⟨(bz_of (A := aa_reti) (as_iret mk_34 (by decide +kernel) rfl) bs_reti : bz_ok true 34 26 (bz_reti)),
  fun _ h => absurd h List.not_mem_nil⟩⟩⟩⟩⟩⟩⟩⟩
theorem bd_34_2 : ∀ q ∈ ([(27, bz_inc 3 1 30), (30, bz_go 2), (33, bz_pu (.inl 257) 36), (36, bz_reti)] : List (Nat × bz_Op)), bz_ok true 34 q.1 q.2 :=
  List.forall_mem_cons.mpr ⟨(bz_of (A := aa_inc 3 1 30) (as_iinc mk_34 (n := 1) (by decide +kernel) (by decide +kernel) (by decide) rfl) (bs_inc (by decide +kernel)) : bz_ok true 34 27 (bz_inc 3 1 30)),
  List.forall_mem_cons.mpr ⟨(bz_of (A := aa_go 2) (as_goto mk_34 (off := (-28)) (by decide +kernel) (by decide +kernel)) bs_go : bz_ok true 34 30 (bz_go 2)),
  List.forall_mem_cons.mpr ⟨(bz_of (A := aa_pu (.int 257) 36) (as_sipush mk_34 (n := 257) (by decide +kernel) (by decide +kernel) rfl) (bs_pu rfl) : bz_ok true 34 33 (bz_pu (.inl 257) 36)),
  List.forall_mem_cons.mpr ⟨(bz_of (A := aa_reti) (as_iret mk_34 (by decide +kernel) rfl) bs_reti : bz_ok true 34 36 (bz_reti)),
  fun _ h => absurd h List.not_mem_nil⟩⟩⟩⟩
theorem bd_34_ok : bz_tk true 34 bd_34 :=
  List.forall_mem_cons.mpr ⟨bd_34_0,
  List.forall_mem_cons.mpr ⟨bd_34_1,
  List.forall_mem_cons.mpr ⟨bd_34_2,
  fun _ h => absurd h List.not_mem_nil⟩⟩⟩
def bd_35 : bz_T := [(11, [(0, bz_lda 1 1), (1, bz_ccS 289 0 1 1 4), (4, bz_ldi 3 5), (5, bz_ldi 2 6), (6, bz_bin bh_sub 7), (7, bz_icmp bh_eq 12 10), (10, bz_pu (.inl 0) 11), (11, bz_retb 2)]), (25, [(12, bz_ldi 2 13), (13, bz_sti 4 15), (15, bz_ldi 4 17), (17, bz_ldi 3 18), (18, bz_icmp bh_lt 21 47), (21, bz_lda 0 22), (22, bz_gR 3 0 25), (25, bz_ldi 4 27)]), (39, [(27, bz_al 101 28), (28, bz_lda 1 29), (29, bz_ldi 4 31), (31, bz_ldi 2 32), (32, bz_bin bh_sub 33), (33, bz_ccS 290 1 2 1 36), (36, bz_icmp bh_eq 41 39), (39, bz_pu (.inl 0) 40)]), (48, [(40, bz_retb 2), (41, bz_inc 4 1 44), (44, bz_go 15), (47, bz_pu (.inl 1) 48), (48, bz_retb 2)])]
theorem bd_35_0 : ∀ q ∈ ([(0, bz_lda 1 1), (1, bz_ccS 289 0 1 1 4), (4, bz_ldi 3 5), (5, bz_ldi 2 6), (6, bz_bin bh_sub 7), (7, bz_icmp bh_eq 12 10), (10, bz_pu (.inl 0) 11), (11, bz_retb 2)] : List (Nat × bz_Op)), bz_ok true 35 q.1 q.2 :=
  List.forall_mem_cons.mpr ⟨(bz_of (A := aa_lda 1 1) (as_aload_n mk_35 (k := 1) (by decide +kernel) rfl rfl) bs_lda : bz_ok true 35 0 (bz_lda 1 1)),
  List.forall_mem_cons.mpr ⟨(bz_of (A := aa_ccS 289 0 1 aa_kI 4) (as_ccS mk_35 (ix := 29) (M' := ac_r289) aa_kI_ok (by decide +kernel) ce_289 lk_RX3_29 ci_289 cv_289 rfl (by decide) rfl rfl) (bs_ccS bz_k1) : bz_ok true 35 1 (bz_ccS 289 0 1 1 4)),
  List.forall_mem_cons.mpr ⟨(bz_of (A := aa_ldi 3 5) (as_iload_n mk_35 (k := 3) (by decide +kernel) rfl rfl) bs_ldi : bz_ok true 35 4 (bz_ldi 3 5)),
  List.forall_mem_cons.mpr ⟨(bz_of (A := aa_ldi 2 6) (as_iload_n mk_35 (k := 2) (by decide +kernel) rfl rfl) bs_ldi : bz_ok true 35 5 (bz_ldi 2 6)),
  List.forall_mem_cons.mpr ⟨(bz_of (A := aa_bin (fun x y => x - y) 7) (as_isub mk_35 (by decide +kernel) rfl) (bs_bin bh_sub_ok) : bz_ok true 35 6 (bz_bin bh_sub 7)),
  List.forall_mem_cons.mpr ⟨(bz_of (A := aa_icmp (fun x y => x = y) 12 10) (as_icmp_eq mk_35 (off := 5) (by decide +kernel) (by decide +kernel) rfl) (bs_icmp bh_eq_ok) : bz_ok true 35 7 (bz_icmp bh_eq 12 10)),
  List.forall_mem_cons.mpr ⟨(bz_of (A := aa_pu (.int 0) 11) (as_iconst mk_35 (n := 0) (by decide +kernel) (by decide +kernel) rfl) (bs_pu rfl) : bz_ok true 35 10 (bz_pu (.inl 0) 11)),
  List.forall_mem_cons.mpr ⟨(bz_of (A := aa_retz) (as_zret mk_35 (by decide +kernel) rfl) bs_retz : bz_ok true 35 11 (bz_retb 2)),
  fun _ h => absurd h List.not_mem_nil⟩⟩⟩⟩⟩⟩⟩⟩
theorem bd_35_1 : ∀ q ∈ ([(12, bz_ldi 2 13), (13, bz_sti 4 15), (15, bz_ldi 4 17), (17, bz_ldi 3 18), (18, bz_icmp bh_lt 21 47), (21, bz_lda 0 22), (22, bz_gR 3 0 25), (25, bz_ldi 4 27)] : List (Nat × bz_Op)), bz_ok true 35 q.1 q.2 :=
  List.forall_mem_cons.mpr ⟨(bz_of (A := aa_ldi 2 13) (as_iload_n mk_35 (k := 2) (by decide +kernel) rfl rfl) bs_ldi : bz_ok true 35 12 (bz_ldi 2 13)),
  List.forall_mem_cons.mpr ⟨(bz_of (A := aa_sti 4 15) (as_istore mk_35 (by decide +kernel) (by decide) rfl) bs_sti : bz_ok true 35 13 (bz_sti 4 15)),
  List.forall_mem_cons.mpr ⟨(bz_of (A := aa_ldi 4 17) (as_iload mk_35 (by decide +kernel) rfl) bs_ldi : bz_ok true 35 15 (bz_ldi 4 17)),
  List.forall_mem_cons.mpr ⟨(bz_of (A := aa_ldi 3 18) (as_iload_n mk_35 (k := 3) (by decide +kernel) rfl rfl) bs_ldi : bz_ok true 35 17 (bz_ldi 3 18)),
  List.forall_mem_cons.mpr ⟨(bz_of (A := aa_icmp (fun x y => x < y) 21 47) (as_icmp_ge mk_35 (off := 29) (by decide +kernel) (by decide +kernel) rfl) (bs_icmp bh_lt_ok) : bz_ok true 35 18 (bz_icmp bh_lt 21 47)),
  List.forall_mem_cons.mpr ⟨(bz_of (A := aa_lda 0 22) (as_aload_n mk_35 (k := 0) (by decide +kernel) rfl rfl) bs_lda : bz_ok true 35 21 (bz_lda 0 22)),
  List.forall_mem_cons.mpr ⟨(bz_of (A := aa_gR 3 0 25) (as_gR mk_35 (ix := 11) (by decide +kernel) (fd_RX3_11 rfl) rfl) bs_gR : bz_ok true 35 22 (bz_gR 3 0 25)),
  List.forall_mem_cons.mpr ⟨(bz_of (A := aa_ldi 4 27) (as_iload mk_35 (by decide +kernel) rfl) bs_ldi : bz_ok true 35 25 (bz_ldi 4 27)),
  fun _ h => absurd h List.not_mem_nil⟩⟩⟩⟩⟩⟩⟩⟩
theorem bd_35_2 : ∀ q ∈ ([(27, bz_al 101 28), (28, bz_lda 1 29), (29, bz_ldi 4 31), (31, bz_ldi 2 32), (32, bz_bin bh_sub 33), (33, bz_ccS 290 1 2 1 36), (36, bz_icmp bh_eq 41 39), (39, bz_pu (.inl 0) 40)] : List (Nat × bz_Op)), bz_ok true 35 q.1 q.2 :=
  List.forall_mem_cons.mpr ⟨(bz_of (A := aa_al 101 28) (as_al mk_35 (Or.inr ⟨rfl, by decide +kernel⟩) rfl) bs_al : bz_ok true 35 27 (bz_al 101 28)),
  List.forall_mem_cons.mpr ⟨(bz_of (A := aa_lda 1 29) (as_aload_n mk_35 (k := 1) (by decide +kernel) rfl rfl) bs_lda : bz_ok true 35 28 (bz_lda 1 29)),
  List.forall_mem_cons.mpr ⟨(bz_of (A := aa_ldi 4 31) (as_iload mk_35 (by decide +kernel) rfl) bs_ldi : bz_ok true 35 29 (bz_ldi 4 31)),
  List.forall_mem_cons.mpr ⟨(bz_of (A := aa_ldi 2 32) (as_iload_n mk_35 (k := 2) (by decide +kernel) rfl rfl) bs_ldi : bz_ok true 35 31 (bz_ldi 2 32)),
  List.forall_mem_cons.mpr ⟨(bz_of (A := aa_bin (fun x y => x - y) 33) (as_isub mk_35 (by decide +kernel) rfl) (bs_bin bh_sub_ok) : bz_ok true 35 32 (bz_bin bh_sub 33)),
  List.forall_mem_cons.mpr ⟨(bz_of (A := aa_ccS 290 1 2 aa_kI 36) (as_ccS mk_35 (ix := 35) (M' := ac_r290) aa_kI_ok (by decide +kernel) ce_290 lk_RX3_35 ci_290 cv_290 rfl (by decide) rfl rfl) (bs_ccS bz_k1) : bz_ok true 35 33 (bz_ccS 290 1 2 1 36)),
  List.forall_mem_cons.mpr ⟨(bz_of (A := aa_icmp (fun x y => x = y) 41 39) (as_icmp_eq mk_35 (off := 5) (by decide +kernel) (by decide +kernel) rfl) (bs_icmp bh_eq_ok) : bz_ok true 35 36 (bz_icmp bh_eq 41 39)),
  List.forall_mem_cons.mpr ⟨(bz_of (A := aa_pu (.int 0) 40) (as_iconst mk_35 (n := 0) (by decide +kernel) (by decide +kernel) rfl) (bs_pu rfl) : bz_ok true 35 39 (bz_pu (.inl 0) 40)),
  fun _ h => absurd h List.not_mem_nil⟩⟩⟩⟩⟩⟩⟩⟩
theorem bd_35_3 : ∀ q ∈ ([(40, bz_retb 2), (41, bz_inc 4 1 44), (44, bz_go 15), (47, bz_pu (.inl 1) 48), (48, bz_retb 2)] : List (Nat × bz_Op)), bz_ok true 35 q.1 q.2 :=
  List.forall_mem_cons.mpr ⟨(bz_of (A := aa_retz) (as_zret mk_35 (by decide +kernel) rfl) bs_retz : bz_ok true 35 40 (bz_retb 2)),
  List.forall_mem_cons.mpr ⟨(bz_of (A := aa_inc 4 1 44) (as_iinc mk_35 (n := 1) (by decide +kernel) (by decide +kernel) (by decide) rfl) (bs_inc (by decide +kernel)) : bz_ok true 35 41 (bz_inc 4 1 44)),
  List.forall_mem_cons.mpr ⟨(bz_of (A := aa_go 15) (as_goto mk_35 (off := (-29)) (by decide +kernel) (by decide +kernel)) bs_go : bz_ok true 35 44 (bz_go 15)),
  List.forall_mem_cons.mpr ⟨(bz_of (A := aa_pu (.int 1) 48) (as_iconst mk_35 (n := 1) (by decide +kernel) (by decide +kernel) rfl) (bs_pu rfl) : bz_ok true 35 47 (bz_pu (.inl 1) 48)),
  List.forall_mem_cons.mpr ⟨(bz_of (A := aa_retz) (as_zret mk_35 (by decide +kernel) rfl) bs_retz : bz_ok true 35 48 (bz_retb 2)),
  fun _ h => absurd h List.not_mem_nil⟩⟩⟩⟩⟩
theorem bd_35_ok : bz_tk true 35 bd_35 :=
  List.forall_mem_cons.mpr ⟨bd_35_0,
  List.forall_mem_cons.mpr ⟨bd_35_1,
  List.forall_mem_cons.mpr ⟨bd_35_2,
  List.forall_mem_cons.mpr ⟨bd_35_3,
  fun _ h => absurd h List.not_mem_nil⟩⟩⟩⟩
def bd_36 : bz_T := [(64, [(0, bz_ldi 0 1), (1, bz_sw 86 [(0, 56), (1, 59), (2, 62), (3, 65), (4, 68), (5, 71), (6, 74), (7, 77), (8, 80), (9, 83)]), (56, bz_pu (.inr (.inl 2000001)) 58), (58, bz_reta), (59, bz_pu (.inr (.inl 2000002)) 61), (61, bz_reta), (62, bz_pu (.inr (.inl 2000003)) 64), (64, bz_reta)]), (76, [(65, bz_pu (.inr (.inl 2000004)) 67), (67, bz_reta), (68, bz_pu (.inr (.inl 2000005)) 70), (70, bz_reta), (71, bz_pu (.inr (.inl 2000006)) 73), (73, bz_reta), (74, bz_pu (.inr (.inl 2000007)) 76), (76, bz_reta)]), (88, [(77, bz_pu (.inr (.inl 2000008)) 79), (79, bz_reta), (80, bz_pu (.inr (.inl 2000009)) 82), (82, bz_reta), (83, bz_pu (.inr (.inl 2000010)) 85), (85, bz_reta), (86, bz_pu (.inr (.inl 2000011)) 88), (88, bz_reta)])]
theorem bd_36_0 : ∀ q ∈ ([(0, bz_ldi 0 1), (1, bz_sw 86 [(0, 56), (1, 59), (2, 62), (3, 65), (4, 68), (5, 71), (6, 74), (7, 77), (8, 80), (9, 83)]), (56, bz_pu (.inr (.inl 2000001)) 58), (58, bz_reta), (59, bz_pu (.inr (.inl 2000002)) 61), (61, bz_reta), (62, bz_pu (.inr (.inl 2000003)) 64), (64, bz_reta)] : List (Nat × bz_Op)), bz_ok true 36 q.1 q.2 :=
  List.forall_mem_cons.mpr ⟨(bz_of (A := aa_ldi 0 1) (as_iload_n mk_36 (k := 0) (by decide +kernel) rfl rfl) bs_ldi : bz_ok true 36 0 (bz_ldi 0 1)),
  List.forall_mem_cons.mpr ⟨(bz_of (A := aa_sw 86 [(0, 56), (1, 59), (2, 62), (3, 65), (4, 68), (5, 71), (6, 74), (7, 77), (8, 80), (9, 83)]) (sw_36_1) (bs_sw (by decide +kernel) (by decide +kernel)) : bz_ok true 36 1 (bz_sw 86 [(0, 56), (1, 59), (2, 62), (3, 65), (4, 68), (5, 71), (6, 74), (7, 77), (8, 80), (9, 83)])),
  List.forall_mem_cons.mpr ⟨(bz_of (A := aa_pu (.ref (2000000 + 1)) 58) (as_ldcS mk_36 (ix := 110) (j := 1) (by decide +kernel) rfl rfl) (bs_pu (by decide +kernel)) : bz_ok true 36 56 (bz_pu (.inr (.inl 2000001)) 58)),
  List.forall_mem_cons.mpr ⟨(bz_of (A := aa_reta) (as_aret mk_36 (by decide +kernel) rfl) bs_reta : bz_ok true 36 58 (bz_reta)),
  List.forall_mem_cons.mpr ⟨(bz_of (A := aa_pu (.ref (2000000 + 2)) 61) (as_ldcS mk_36 (ix := 112) (j := 2) (by decide +kernel) rfl rfl) (bs_pu (by decide +kernel)) : bz_ok true 36 59 (bz_pu (.inr (.inl 2000002)) 61)),
  List.forall_mem_cons.mpr ⟨(bz_of (A := aa_reta) (as_aret mk_36 (by decide +kernel) rfl) bs_reta : bz_ok true 36 61 (bz_reta)),
  List.forall_mem_cons.mpr ⟨(bz_of (A := aa_pu (.ref (2000000 + 3)) 64) (as_ldcS mk_36 (ix := 114) (j := 3) (by decide +kernel) rfl rfl) (bs_pu (by decide +kernel)) : bz_ok true 36 62 (bz_pu (.inr (.inl 2000003)) 64)),
  List.forall_mem_cons.mpr ⟨(bz_of (A := aa_reta) (as_aret mk_36 (by decide +kernel) rfl) bs_reta : bz_ok true 36 64 (bz_reta)),
  fun _ h => absurd h List.not_mem_nil⟩⟩⟩⟩⟩⟩⟩⟩
theorem bd_36_1 : ∀ q ∈ ([(65, bz_pu (.inr (.inl 2000004)) 67), (67, bz_reta), (68, bz_pu (.inr (.inl 2000005)) 70), (70, bz_reta), (71, bz_pu (.inr (.inl 2000006)) 73), (73, bz_reta), (74, bz_pu (.inr (.inl 2000007)) 76), (76, bz_reta)] : List (Nat × bz_Op)), bz_ok true 36 q.1 q.2 :=
  List.forall_mem_cons.mpr ⟨(bz_of (A := aa_pu (.ref (2000000 + 4)) 67) (as_ldcS mk_36 (ix := 116) (j := 4) (by decide +kernel) rfl rfl) (bs_pu (by decide +kernel)) : bz_ok true 36 65 (bz_pu (.inr (.inl 2000004)) 67)),
  List.forall_mem_cons.mpr ⟨(bz_of (A := aa_reta) (as_aret mk_36 (by decide +kernel) rfl) bs_reta : bz_ok true 36 67 (bz_reta)),
  List.forall_mem_cons.mpr ⟨(bz_of (A := aa_pu (.ref (2000000 + 5)) 70) (as_ldcS mk_36 (ix := 118) (j := 5) (by decide +kernel) rfl rfl) (bs_pu (by decide +kernel)) : bz_ok true 36 68 (bz_pu (.inr (.inl 2000005)) 70)),
  List.forall_mem_cons.mpr ⟨(bz_of (A := aa_reta) (as_aret mk_36 (by decide +kernel) rfl) bs_reta : bz_ok true 36 70 (bz_reta)),
  List.forall_mem_cons.mpr ⟨(bz_of (A := aa_pu (.ref (2000000 + 6)) 73) (as_ldcS mk_36 (ix := 120) (j := 6) (by decide +kernel) rfl rfl) (bs_pu (by decide +kernel)) : bz_ok true 36 71 (bz_pu (.inr (.inl 2000006)) 73)),
  List.forall_mem_cons.mpr ⟨(bz_of (A := aa_reta) (as_aret mk_36 (by decide +kernel) rfl) bs_reta : bz_ok true 36 73 (bz_reta)),
  List.forall_mem_cons.mpr ⟨(bz_of (A := aa_pu (.ref (2000000 + 7)) 76) (as_ldcS mk_36 (ix := 122) (j := 7) (by decide +kernel) rfl rfl) (bs_pu (by decide +kernel)) : bz_ok true 36 74 (bz_pu (.inr (.inl 2000007)) 76)),
  List.forall_mem_cons.mpr ⟨(bz_of (A := aa_reta) (as_aret mk_36 (by decide +kernel) rfl) bs_reta : bz_ok true 36 76 (bz_reta)),
  fun _ h => absurd h List.not_mem_nil⟩⟩⟩⟩⟩⟩⟩⟩
theorem bd_36_2 : ∀ q ∈ ([(77, bz_pu (.inr (.inl 2000008)) 79), (79, bz_reta), (80, bz_pu (.inr (.inl 2000009)) 82), (82, bz_reta), (83, bz_pu (.inr (.inl 2000010)) 85), (85, bz_reta), (86, bz_pu (.inr (.inl 2000011)) 88), (88, bz_reta)] : List (Nat × bz_Op)), bz_ok true 36 q.1 q.2 :=
  List.forall_mem_cons.mpr ⟨(bz_of (A := aa_pu (.ref (2000000 + 8)) 79) (as_ldcS mk_36 (ix := 124) (j := 8) (by decide +kernel) rfl rfl) (bs_pu (by decide +kernel)) : bz_ok true 36 77 (bz_pu (.inr (.inl 2000008)) 79)),
  List.forall_mem_cons.mpr ⟨(bz_of (A := aa_reta) (as_aret mk_36 (by decide +kernel) rfl) bs_reta : bz_ok true 36 79 (bz_reta)),
  List.forall_mem_cons.mpr ⟨(bz_of (A := aa_pu (.ref (2000000 + 9)) 82) (as_ldcS mk_36 (ix := 126) (j := 9) (by decide +kernel) rfl rfl) (bs_pu (by decide +kernel)) : bz_ok true 36 80 (bz_pu (.inr (.inl 2000009)) 82)),
  List.forall_mem_cons.mpr ⟨(bz_of (A := aa_reta) (as_aret mk_36 (by decide +kernel) rfl) bs_reta : bz_ok true 36 82 (bz_reta)),
  List.forall_mem_cons.mpr ⟨(bz_of (A := aa_pu (.ref (2000000 + 10)) 85) (as_ldcS mk_36 (ix := 128) (j := 10) (by decide +kernel) rfl rfl) (bs_pu (by decide +kernel)) : bz_ok true 36 83 (bz_pu (.inr (.inl 2000010)) 85)),
  List.forall_mem_cons.mpr ⟨(bz_of (A := aa_reta) (as_aret mk_36 (by decide +kernel) rfl) bs_reta : bz_ok true 36 85 (bz_reta)),
  List.forall_mem_cons.mpr ⟨(bz_of (A := aa_pu (.ref (2000000 + 11)) 88) (as_ldcS mk_36 (ix := 130) (j := 11) (by decide +kernel) rfl rfl) (bs_pu (by decide +kernel)) : bz_ok true 36 86 (bz_pu (.inr (.inl 2000011)) 88)),
  List.forall_mem_cons.mpr ⟨(bz_of (A := aa_reta) (as_aret mk_36 (by decide +kernel) rfl) bs_reta : bz_ok true 36 88 (bz_reta)),
  fun _ h => absurd h List.not_mem_nil⟩⟩⟩⟩⟩⟩⟩⟩
theorem bd_36_ok : bz_tk true 36 bd_36 :=
  List.forall_mem_cons.mpr ⟨bd_36_0,
  List.forall_mem_cons.mpr ⟨bd_36_1,
  List.forall_mem_cons.mpr ⟨bd_36_2,
  fun _ h => absurd h List.not_mem_nil⟩⟩⟩
def bd_37 : bz_T := [(13, [(0, bz_lda 0 1), (1, bz_gI 3 7 4), (4, bz_pu (.inl 4294967295) 5), (5, bz_icmp bh_eq 8 31), (8, bz_lda 0 9), (9, bz_gI 3 6 12), (12, bz_lda 0 13), (13, bz_gI 3 5 16)]), (31, [(16, bz_icmp bh_lt 19 31), (19, bz_lda 0 20), (20, bz_gR 3 2 23), (23, bz_lda 0 24), (24, bz_gI 3 6 27), (27, bz_al 100 28), (28, bz_go 34), (31, bz_pu (.inl 257) 34)]), (34, [(34, bz_reti)])]
theorem bd_37_0 : ∀ q ∈ ([(0, bz_lda 0 1), (1, bz_gI 3 7 4), (4, bz_pu (.inl 4294967295) 5), (5, bz_icmp bh_eq 8 31), (8, bz_lda 0 9), (9, bz_gI 3 6 12), (12, bz_lda 0 13), (13, bz_gI 3 5 16)] : List (Nat × bz_Op)), bz_ok true 37 q.1 q.2 :=
  List.forall_mem_cons.mpr ⟨(bz_of (A := aa_lda 0 1) (as_aload_n mk_37 (k := 0) (by decide +kernel) rfl rfl) bs_lda : bz_ok true 37 0 (bz_lda 0 1)),
  List.forall_mem_cons.mpr ⟨(bz_of (A := aa_gI 3 7 4) (as_gI mk_37 (ix := 45) (by decide +kernel) (fd_RX3_45 rfl) rfl) bs_gI : bz_ok true 37 1 (bz_gI 3 7 4)),
  List.forall_mem_cons.mpr ⟨(bz_of (A := aa_pu (.int (-1)) 5) (as_iconst mk_37 (n := (-1)) (by decide +kernel) (by decide +kernel) rfl) (bs_pu (by decide +kernel)) : bz_ok true 37 4 (bz_pu (.inl 4294967295) 5)),
  List.forall_mem_cons.mpr ⟨(bz_of (A := aa_icmp (fun x y => x = y) 8 31) (as_icmp_ne mk_37 (off := 26) (by decide +kernel) (by decide +kernel) rfl) (bs_icmp bh_eq_ok) : bz_ok true 37 5 (bz_icmp bh_eq 8 31)),
  List.forall_mem_cons.mpr ⟨(bz_of (A := aa_lda 0 9) (as_aload_n mk_37 (k := 0) (by decide +kernel) rfl rfl) bs_lda : bz_ok true 37 8 (bz_lda 0 9)),
  List.forall_mem_cons.mpr ⟨(bz_of (A := aa_gI 3 6 12) (as_gI mk_37 (ix := 42) (by decide +kernel) (fd_RX3_42 rfl) rfl) bs_gI : bz_ok true 37 9 (bz_gI 3 6 12)),
  List.forall_mem_cons.mpr ⟨(bz_of (A := aa_lda 0 13) (as_aload_n mk_37 (k := 0) (by decide +kernel) rfl rfl) bs_lda : bz_ok true 37 12 (bz_lda 0 13)),
  List.forall_mem_cons.mpr ⟨(bz_of (A := aa_gI 3 5 16) (as_gI mk_37 (ix := 73) (by decide +kernel) (fd_RX3_73 rfl) rfl) bs_gI : bz_ok true 37 13 (bz_gI 3 5 16)),
  fun _ h => absurd h List.not_mem_nil⟩⟩⟩⟩⟩⟩⟩⟩
theorem bd_37_1 : ∀ q ∈ ([(16, bz_icmp bh_lt 19 31), (19, bz_lda 0 20), (20, bz_gR 3 2 23), (23, bz_lda 0 24), (24, bz_gI 3 6 27), (27, bz_al 100 28), (28, bz_go 34), (31, bz_pu (.inl 257) 34)] : List (Nat × bz_Op)), bz_ok true 37 q.1 q.2 :=
  List.forall_mem_cons.mpr ⟨(bz_of (A := aa_icmp (fun x y => x < y) 19 31) (as_icmp_ge mk_37 (off := 15) (by decide +kernel) (by decide +kernel) rfl) (bs_icmp bh_lt_ok) : bz_ok true 37 16 (bz_icmp bh_lt 19 31)),
  List.forall_mem_cons.mpr ⟨(bz_of (A := aa_lda 0 20) (as_aload_n mk_37 (k := 0) (by decide +kernel) rfl rfl) bs_lda : bz_ok true 37 19 (bz_lda 0 20)),
  List.forall_mem_cons.mpr ⟨(bz_of (A := aa_gR 3 2 23) (as_gR mk_37 (ix := 15) (by decide +kernel) (fd_RX3_15 rfl) rfl) bs_gR : bz_ok true 37 20 (bz_gR 3 2 23)),
  List.forall_mem_cons.mpr ⟨(bz_of (A := aa_lda 0 24) (as_aload_n mk_37 (k := 0) (by decide +kernel) rfl rfl) bs_lda : bz_ok true 37 23 (bz_lda 0 24)),
  List.forall_mem_cons.mpr ⟨(bz_of (A := aa_gI 3 6 27) (as_gI mk_37 (ix := 42) (by decide +kernel) (fd_RX3_42 rfl) rfl) bs_gI : bz_ok true 37 24 (bz_gI 3 6 27)),
  List.forall_mem_cons.mpr ⟨(bz_of (A := aa_al 100 28) (as_al mk_37 (Or.inl ⟨rfl, by decide +kernel⟩) rfl) bs_al : bz_ok true 37 27 (bz_al 100 28)),
  List.forall_mem_cons.mpr ⟨(bz_of (A := aa_go 34) (as_goto mk_37 (off := 6) (by decide +kernel) (by decide +kernel)) bs_go : bz_ok true 37 28 (bz_go 34)),
  List.forall_mem_cons.mpr ⟨(bz_of (A := aa_pu (.int 257) 34) (as_sipush mk_37 (n := 257) (by decide +kernel) (by decide +kernel) rfl) (bs_pu rfl) : bz_ok true 37 31 (bz_pu (.inl 257) 34)),
  fun _ h => absurd h List.not_mem_nil⟩⟩⟩⟩⟩⟩⟩⟩
theorem bd_37_2 : ∀ q ∈ ([(34, bz_reti)] : List (Nat × bz_Op)), bz_ok true 37 q.1 q.2 :=
  List.forall_mem_cons.mpr ⟨(bz_of (A := aa_reti) (as_iret mk_37 (by decide +kernel) rfl) bs_reti : bz_ok true 37 34 (bz_reti)),
  fun _ h => absurd h List.not_mem_nil⟩
theorem bd_37_ok : bz_tk true 37 bd_37 :=
  List.forall_mem_cons.mpr ⟨bd_37_0,
  List.forall_mem_cons.mpr ⟨bd_37_1,
  List.forall_mem_cons.mpr ⟨bd_37_2,
  fun _ h => absurd h List.not_mem_nil⟩⟩⟩
def bd_39 : bz_T := [(13, [(0, bz_lda 0 1), (1, bz_ccv 37 0 1 3 1 4), (4, bz_ldi 1 5), (5, bz_icmp bh_eq 8 21), (8, bz_lda 0 9), (9, bz_dup 10), (10, bz_gI 3 6 13), (13, bz_pu (.inl 1) 14)]), (25, [(14, bz_bin bh_add 15), (15, bz_pI 3 6 18), (18, bz_go 25), (21, bz_lda 0 22), (22, bz_ccv 38 0 1 3 0 25), (25, bz_retv)])]
theorem bd_39_0 : ∀ q ∈ ([(0, bz_lda 0 1), (1, bz_ccv 37 0 1 3 1 4), (4, bz_ldi 1 5), (5, bz_icmp bh_eq 8 21), (8, bz_lda 0 9), (9, bz_dup 10), (10, bz_gI 3 6 13), (13, bz_pu (.inl 1) 14)] : List (Nat × bz_Op)), bz_ok true 39 q.1 q.2 :=
  List.forall_mem_cons.mpr ⟨(bz_of (A := aa_lda 0 1) (as_aload_n mk_39 (k := 0) (by decide +kernel) rfl rfl) bs_lda : bz_ok true 39 0 (bz_lda 0 1)),
  List.forall_mem_cons.mpr ⟨(bz_of (A := aa_ccv 37 0 1 3 aa_kI 4) (as_ccv mk_39 (ix := 67) aa_kI_ok (by decide +kernel) (cx_RX3_67 rfl) rfl) (bs_ccv bz_k1) : bz_ok true 39 1 (bz_ccv 37 0 1 3 1 4)),
  List.forall_mem_cons.mpr ⟨(bz_of (A := aa_ldi 1 5) (as_iload_n mk_39 (k := 1) (by decide +kernel) rfl rfl) bs_ldi : bz_ok true 39 4 (bz_ldi 1 5)),
  List.forall_mem_cons.mpr ⟨(bz_of (A := aa_icmp (fun x y => x = y) 8 21) (as_icmp_ne mk_39 (off := 16) (by decide +kernel) (by decide +kernel) rfl) (bs_icmp bh_eq_ok) : bz_ok true 39 5 (bz_icmp bh_eq 8 21)),
  List.forall_mem_cons.mpr ⟨(bz_of (A := aa_lda 0 9) (as_aload_n mk_39 (k := 0) (by decide +kernel) rfl rfl) bs_lda : bz_ok true 39 8 (bz_lda 0 9)),
  List.forall_mem_cons.mpr ⟨(bz_of (A := aa_dup 10) (as_dup mk_39 (by decide +kernel) rfl) bs_dup : bz_ok true 39 9 (bz_dup 10)),
  List.forall_mem_cons.mpr ⟨(bz_of (A := aa_gI 3 6 13) (as_gI mk_39 (ix := 42) (by decide +kernel) (fd_RX3_42 rfl) rfl) bs_gI : bz_ok true 39 10 (bz_gI 3 6 13)),
  List.forall_mem_cons.mpr ⟨(bz_of (A := aa_pu (.int 1) 14) (as_iconst mk_39 (n := 1) (by decide +kernel) (by decide +kernel) rfl) (bs_pu rfl) : bz_ok true 39 13 (bz_pu (.inl 1) 14)),
  fun _ h => absurd h List.not_mem_nil⟩⟩⟩⟩⟩⟩⟩⟩
theorem bd_39_1 : ∀ q ∈ ([(14, bz_bin bh_add 15), (15, bz_pI 3 6 18), (18, bz_go 25), (21, bz_lda 0 22), (22, bz_ccv 38 0 1 3 0 25), (25, bz_retv)] : List (Nat × bz_Op)), bz_ok true 39 q.1 q.2 :=
  List.forall_mem_cons.mpr ⟨(bz_of (A := aa_bin (fun x y => x + y) 15) (as_iadd mk_39 (by decide +kernel) rfl) (bs_bin bh_add_ok) : bz_ok true 39 14 (bz_bin bh_add 15)),
  List.forall_mem_cons.mpr ⟨(bz_of (A := aa_pI 3 6 18) (as_pI mk_39 (ix := 42) (by decide +kernel) (fd_RX3_42 rfl) pt_3_6 rfl) bs_pI : bz_ok true 39 15 (bz_pI 3 6 18)),
  List.forall_mem_cons.mpr ⟨(bz_of (A := aa_go 25) (as_goto mk_39 (off := 7) (by decide +kernel) (by decide +kernel)) bs_go : bz_ok true 39 18 (bz_go 25)),
  List.forall_mem_cons.mpr ⟨(bz_of (A := aa_lda 0 22) (as_aload_n mk_39 (k := 0) (by decide +kernel) rfl rfl) bs_lda : bz_ok true 39 21 (bz_lda 0 22)),
  List.forall_mem_cons.mpr ⟨(bz_of (A := aa_ccv 38 0 1 3 aa_kV 25) (as_ccv mk_39 (ix := 70) aa_kV_ok (by decide +kernel) (cx_RX3_70 rfl) rfl) (bs_ccv bz_k0) : bz_ok true 39 22 (bz_ccv 38 0 1 3 0 25)),
  List.forall_mem_cons.mpr ⟨(bz_of (A := aa_retv) (as_vret mk_39 (by decide +kernel) rfl) bs_retv : bz_ok true 39 25 (bz_retv)),
  fun _ h => absurd h List.not_mem_nil⟩⟩⟩⟩⟩⟩
theorem bd_39_ok : bz_tk true 39 bd_39 :=
  List.forall_mem_cons.mpr ⟨bd_39_0,
  List.forall_mem_cons.mpr ⟨bd_39_1,
  fun _ h => absurd h List.not_mem_nil⟩⟩
def bd_40 : bz_T := [(11, [(0, bz_lda 0 1), (1, bz_ldi 1 2), (2, bz_ccv 41 1 3 3 0 5), (5, bz_pu (.inl 0) 6), (6, bz_sti 2 7), (7, bz_ldi 2 8), (8, bz_pu (.inl 160) 11), (11, bz_icmp bh_lt 14 55)]), (29, [(14, bz_lda 0 15), (15, bz_ccv 37 0 1 3 1 18), (18, bz_pu (.inl 308) 21), (21, bz_icmp bh_eq 24 55), (24, bz_lda 0 25), (25, bz_dup 26), (26, bz_gI 3 6 29), (29, bz_pu (.inl 1) 30)]), (43, [(30, bz_bin bh_add 31), (31, bz_pI 3 6 34), (34, bz_lda 0 35), (35, bz_ldi 1 36), (36, bz_ccv 41 1 3 3 0 39), (39, bz_lda 0 40), (40, bz_gC 3 8 43), (43, bz_pu (.inl 20002) 46)]), (55, [(46, bz_ccv 70 1 2 6 0 49), (49, bz_inc 2 1 52), (52, bz_go 7), (55, bz_retv)])]
theorem bd_40_0 : ∀ q ∈ ([(0, bz_lda 0 1), (1, bz_ldi 1 2), (2, bz_ccv 41 1 3 3 0 5), (5, bz_pu (.inl 0) 6), (6, bz_sti 2 7), (7, bz_ldi 2 8), (8, bz_pu (.inl 160) 11), (11, bz_icmp bh_lt 14 55)] : List (Nat × bz_Op)), bz_ok true 40 q.1 q.2 :=
  List.forall_mem_cons.mpr ⟨(bz_of (A := aa_lda 0 1) (as_aload_n mk_40 (k := 0) (by decide +kernel) rfl rfl) bs_lda : bz_ok true 40 0 (bz_lda 0 1)),
  List.forall_mem_cons.mpr ⟨(bz_of (A := aa_ldi 1 2) (as_iload_n mk_40 (k := 1) (by decide +kernel) rfl rfl) bs_ldi : bz_ok true 40 1 (bz_ldi 1 2)),
  List.forall_mem_cons.mpr ⟨(bz_of (A := aa_ccv 41 1 3 3 aa_kV 5) (as_ccv mk_40 (ix := 132) aa_kV_ok (by decide +kernel) (cx_RX3_132 rfl) rfl) (bs_ccv bz_k0) : bz_ok true 40 2 (bz_ccv 41 1 3 3 0 5)),
  List.forall_mem_cons.mpr ⟨(bz_of (A := aa_pu (.int 0) 6) (as_iconst mk_40 (n := 0) (by decide +kernel) (by decide +kernel) rfl) (bs_pu rfl) : bz_ok true 40 5 (bz_pu (.inl 0) 6)),
  List.forall_mem_cons.mpr ⟨(bz_of (A := aa_sti 2 7) (as_istore_n mk_40 (k := 2) (by decide +kernel) rfl (by decide) rfl) bs_sti : bz_ok true 40 6 (bz_sti 2 7)),
  List.forall_mem_cons.mpr ⟨(bz_of (A := aa_ldi 2 8) (as_iload_n mk_40 (k := 2) (by decide +kernel) rfl rfl) bs_ldi : bz_ok true 40 7 (bz_ldi 2 8)),
  List.forall_mem_cons.mpr ⟨(bz_of (A := aa_pu (.int 160) 11) (as_sipush mk_40 (n := 160) (by decide +kernel) (by decide +kernel) rfl) (bs_pu rfl) : bz_ok true 40 8 (bz_pu (.inl 160) 11)),
  List.forall_mem_cons.mpr ⟨(bz_of (A := aa_icmp (fun x y => x < y) 14 55) (as_icmp_ge mk_40 (off := 44) (by decide +kernel) (by decide +kernel) rfl) (bs_icmp bh_lt_ok) : bz_ok true 40 11 (bz_icmp bh_lt 14 55)),
  fun _ h => absurd h List.not_mem_nil⟩⟩⟩⟩⟩⟩⟩⟩
theorem bd_40_1 : ∀ q ∈ ([(14, bz_lda 0 15), (15, bz_ccv 37 0 1 3 1 18), (18, bz_pu (.inl 308) 21), (21, bz_icmp bh_eq 24 55), (24, bz_lda 0 25), (25, bz_dup 26), (26, bz_gI 3 6 29), (29, bz_pu (.inl 1) 30)] : List (Nat × bz_Op)), bz_ok true 40 q.1 q.2 :=
  List.forall_mem_cons.mpr ⟨(bz_of (A := aa_lda 0 15) (as_aload_n mk_40 (k := 0) (by decide +kernel) rfl rfl) bs_lda : bz_ok true 40 14 (bz_lda 0 15)),
  List.forall_mem_cons.mpr ⟨(bz_of (A := aa_ccv 37 0 1 3 aa_kI 18) (as_ccv mk_40 (ix := 67) aa_kI_ok (by decide +kernel) (cx_RX3_67 rfl) rfl) (bs_ccv bz_k1) : bz_ok true 40 15 (bz_ccv 37 0 1 3 1 18)),
  List.forall_mem_cons.mpr ⟨(bz_of (A := aa_pu (.int 308) 21) (as_sipush mk_40 (n := 308) (by decide +kernel) (by decide +kernel) rfl) (bs_pu rfl) : bz_ok true 40 18 (bz_pu (.inl 308) 21)),
  List.forall_mem_cons.mpr ⟨(bz_of (A := aa_icmp (fun x y => x = y) 24 55) (as_icmp_ne mk_40 (off := 34) (by decide +kernel) (by decide +kernel) rfl) (bs_icmp bh_eq_ok) : bz_ok true 40 21 (bz_icmp bh_eq 24 55)),
  List.forall_mem_cons.mpr ⟨(bz_of (A := aa_lda 0 25) (as_aload_n mk_40 (k := 0) (by decide +kernel) rfl rfl) bs_lda : bz_ok true 40 24 (bz_lda 0 25)),
  List.forall_mem_cons.mpr ⟨(bz_of (A := aa_dup 26) (as_dup mk_40 (by decide +kernel) rfl) bs_dup : bz_ok true 40 25 (bz_dup 26)),
  List.forall_mem_cons.mpr ⟨(bz_of (A := aa_gI 3 6 29) (as_gI mk_40 (ix := 42) (by decide +kernel) (fd_RX3_42 rfl) rfl) bs_gI : bz_ok true 40 26 (bz_gI 3 6 29)),
  List.forall_mem_cons.mpr ⟨(bz_of (A := aa_pu (.int 1) 30) (as_iconst mk_40 (n := 1) (by decide +kernel) (by decide +kernel) rfl) (bs_pu rfl) : bz_ok true 40 29 (bz_pu (.inl 1) 30)),
  fun _ h => absurd h List.not_mem_nil⟩⟩⟩⟩⟩⟩⟩⟩
theorem bd_40_2 : ∀ q ∈ ([(30, bz_bin bh_add 31), (31, bz_pI 3 6 34), (34, bz_lda 0 35), (35, bz_ldi 1 36), (36, bz_ccv 41 1 3 3 0 39), (39, bz_lda 0 40), (40, bz_gC 3 8 43), (43, bz_pu (.inl 20002) 46)] : List (Nat × bz_Op)), bz_ok true 40 q.1 q.2 :=
  List.forall_mem_cons.mpr ⟨(bz_of (A := aa_bin (fun x y => x + y) 31) (as_iadd mk_40 (by decide +kernel) rfl) (bs_bin bh_add_ok) : bz_ok true 40 30 (bz_bin bh_add 31)),
  List.forall_mem_cons.mpr ⟨(bz_of (A := aa_pI 3 6 34) (as_pI mk_40 (ix := 42) (by decide +kernel) (fd_RX3_42 rfl) pt_3_6 rfl) bs_pI : bz_ok true 40 31 (bz_pI 3 6 34)),
  List.forall_mem_cons.mpr ⟨(bz_of (A := aa_lda 0 35) (as_aload_n mk_40 (k := 0) (by decide +kernel) rfl rfl) bs_lda : bz_ok true 40 34 (bz_lda 0 35)),
  List.forall_mem_cons.mpr ⟨(bz_of (A := aa_ldi 1 36) (as_iload_n mk_40 (k := 1) (by decide +kernel) rfl rfl) bs_ldi : bz_ok true 40 35 (bz_ldi 1 36)),
  List.forall_mem_cons.mpr ⟨(bz_of (A := aa_ccv 41 1 3 3 aa_kV 39) (as_ccv mk_40 (ix := 132) aa_kV_ok (by decide +kernel) (cx_RX3_132 rfl) rfl) (bs_ccv bz_k0) : bz_ok true 40 36 (bz_ccv 41 1 3 3 0 39)),
  List.forall_mem_cons.mpr ⟨(bz_of (A := aa_lda 0 40) (as_aload_n mk_40 (k := 0) (by decide +kernel) rfl rfl) bs_lda : bz_ok true 40 39 (bz_lda 0 40)),
  List.forall_mem_cons.mpr ⟨(bz_of (A := aa_gC 3 8 43) (as_gC mk_40 (ix := 48) (by decide +kernel) (fd_RX3_48 rfl) rfl) bs_gC : bz_ok true 40 40 (bz_gC 3 8 43)),
  List.forall_mem_cons.mpr ⟨(bz_of (A := aa_pu (.int 20002) 46) (as_sipush mk_40 (n := 20002) (by decide +kernel) (by decide +kernel) rfl) (bs_pu rfl) : bz_ok true 40 43 (bz_pu (.inl 20002) 46)),
  fun _ h => absurd h List.not_mem_nil⟩⟩⟩⟩⟩⟩⟩⟩
theorem bd_40_3 : ∀ q ∈ ([(46, bz_ccv 70 1 2 6 0 49), (49, bz_inc 2 1 52), (52, bz_go 7), (55, bz_retv)] : List (Nat × bz_Op)), bz_ok true 40 q.1 q.2 :=
  List.forall_mem_cons.mpr ⟨(bz_of (A := aa_ccu 70 1 2 6 aa_kV 49) (as_ccu mk_40 (ix := 135) aa_kV_ok (by decide +kernel) (cx_RX3_135 rfl) rfl) (bs_ccu bz_k0) : bz_ok true 40 46 (bz_ccv 70 1 2 6 0 49)),
  List.forall_mem_cons.mpr ⟨(bz_of (A := aa_inc 2 1 52) (as_iinc mk_40 (n := 1) (by decide +kernel) (by decide +kernel) (by decide) rfl) (bs_inc (by decide +kernel)) : bz_ok true 40 49 (bz_inc 2 1 52)),
  List.forall_mem_cons.mpr ⟨(bz_of (A := aa_go 7) (as_goto mk_40 (off := (-45)) (by decide +kernel) (by decide +kernel)) bs_go : bz_ok true 40 52 (bz_go 7)),
  List.forall_mem_cons.mpr ⟨(bz_of (A := aa_retv) (as_vret mk_40 (by decide +kernel) rfl) bs_retv : bz_ok true 40 55 (bz_retv)),
  fun _ h => absurd h List.not_mem_nil⟩⟩⟩⟩
theorem bd_40_ok : bz_tk true 40 bd_40 :=
  List.forall_mem_cons.mpr ⟨bd_40_0,
  List.forall_mem_cons.mpr ⟨bd_40_1,
  List.forall_mem_cons.mpr ⟨bd_40_2,
  List.forall_mem_cons.mpr ⟨bd_40_3,
  fun _ h => absurd h List.not_mem_nil⟩⟩⟩⟩
def bd_41 : bz_T := [(11, [(0, bz_lda 0 1), (1, bz_ldi 1 2), (2, bz_ccv 42 1 3 3 0 5), (5, bz_pu (.inl 0) 6), (6, bz_sti 2 7), (7, bz_ldi 2 8), (8, bz_pu (.inl 160) 11), (11, bz_icmp bh_lt 14 55)]), (29, [(14, bz_lda 0 15), (15, bz_ccv 37 0 1 3 1 18), (18, bz_pu (.inl 309) 21), (21, bz_icmp bh_eq 24 55), (24, bz_lda 0 25), (25, bz_dup 26), (26, bz_gI 3 6 29), (29, bz_pu (.inl 1) 30)]), (43, [(30, bz_bin bh_add 31), (31, bz_pI 3 6 34), (34, bz_lda 0 35), (35, bz_ldi 1 36), (36, bz_ccv 42 1 3 3 0 39), (39, bz_lda 0 40), (40, bz_gC 3 8 43), (43, bz_pu (.inl 20003) 46)]), (55, [(46, bz_ccv 70 1 2 6 0 49), (49, bz_inc 2 1 52), (52, bz_go 7), (55, bz_retv)])]
theorem bd_41_0 : ∀ q ∈ ([(0, bz_lda 0 1), (1, bz_ldi 1 2), (2, bz_ccv 42 1 3 3 0 5), (5, bz_pu (.inl 0) 6), (6, bz_sti 2 7), (7, bz_ldi 2 8), (8, bz_pu (.inl 160) 11), (11, bz_icmp bh_lt 14 55)] : List (Nat × bz_Op)), bz_ok true 41 q.1 q.2 :=
  List.forall_mem_cons.mpr ⟨(bz_of (A := aa_lda 0 1) (as_aload_n mk_41 (k := 0) (by decide +kernel) rfl rfl) bs_lda : bz_ok true 41 0 (bz_lda 0 1)),
  List.forall_mem_cons.mpr ⟨(bz_of (A := aa_ldi 1 2) (as_iload_n mk_41 (k := 1) (by decide +kernel) rfl rfl) bs_ldi : bz_ok true 41 1 (bz_ldi 1 2)),
  List.forall_mem_cons.mpr ⟨(bz_of (A := aa_ccv 42 1 3 3 aa_kV 5) (as_ccv mk_41 (ix := 138) aa_kV_ok (by decide +kernel) (cx_RX3_138 rfl) rfl) (bs_ccv bz_k0) : bz_ok true 41 2 (bz_ccv 42 1 3 3 0 5)),
  List.forall_mem_cons.mpr ⟨(bz_of (A := aa_pu (.int 0) 6) (as_iconst mk_41 (n := 0) (by decide +kernel) (by decide +kernel) rfl) (bs_pu rfl) : bz_ok true 41 5 (bz_pu (.inl 0) 6)),
  List.forall_mem_cons.mpr ⟨(bz_of (A := aa_sti 2 7) (as_istore_n mk_41 (k := 2) (by decide +kernel) rfl (by decide) rfl) bs_sti : bz_ok true 41 6 (bz_sti 2 7)),
  List.forall_mem_cons.mpr ⟨(bz_of (A := aa_ldi 2 8) (as_iload_n mk_41 (k := 2) (by decide +kernel) rfl rfl) bs_ldi : bz_ok true 41 7 (bz_ldi 2 8)),
  List.forall_mem_cons.mpr ⟨(bz_of (A := aa_pu (.int 160) 11) (as_sipush mk_41 (n := 160) (by decide +kernel) (by decide +kernel) rfl) (bs_pu rfl) : bz_ok true 41 8 (bz_pu (.inl 160) 11)),
  List.forall_mem_cons.mpr ⟨(bz_of (A := aa_icmp (fun x y => x < y) 14 55) (as_icmp_ge mk_41 (off := 44) (by decide +kernel) (by decide +kernel) rfl) (bs_icmp bh_lt_ok) : bz_ok true 41 11 (bz_icmp bh_lt 14 55)),
  fun _ h => absurd h List.not_mem_nil⟩⟩⟩⟩⟩⟩⟩⟩
theorem bd_41_1 : ∀ q ∈ ([(14, bz_lda 0 15), (15, bz_ccv 37 0 1 3 1 18), (18, bz_pu (.inl 309) 21), (21, bz_icmp bh_eq 24 55), (24, bz_lda 0 25), (25, bz_dup 26), (26, bz_gI 3 6 29), (29, bz_pu (.inl 1) 30)] : List (Nat × bz_Op)), bz_ok true 41 q.1 q.2 :=
  List.forall_mem_cons.mpr ⟨(bz_of (A := aa_lda 0 15) (as_aload_n mk_41 (k := 0) (by decide +kernel) rfl rfl) bs_lda : bz_ok true 41 14 (bz_lda 0 15)),
  List.forall_mem_cons.mpr ⟨(bz_of (A := aa_ccv 37 0 1 3 aa_kI 18) (as_ccv mk_41 (ix := 67) aa_kI_ok (by decide +kernel) (cx_RX3_67 rfl) rfl) (bs_ccv bz_k1) : bz_ok true 41 15 (bz_ccv 37 0 1 3 1 18)),
  List.forall_mem_cons.mpr ⟨(bz_of (A := aa_pu (.int 309) 21) (as_sipush mk_41 (n := 309) (by decide +kernel) (by decide +kernel) rfl) (bs_pu rfl) : bz_ok true 41 18 (bz_pu (.inl 309) 21)),
  List.forall_mem_cons.mpr ⟨(bz_of (A := aa_icmp (fun x y => x = y) 24 55) (as_icmp_ne mk_41 (off := 34) (by decide +kernel) (by decide +kernel) rfl) (bs_icmp bh_eq_ok) : bz_ok true 41 21 (bz_icmp bh_eq 24 55)),
  List.forall_mem_cons.mpr ⟨(bz_of (A := aa_lda 0 25) (as_aload_n mk_41 (k := 0) (by decide +kernel) rfl rfl) bs_lda : bz_ok true 41 24 (bz_lda 0 25)),
  List.forall_mem_cons.mpr ⟨(bz_of (A := aa_dup 26) (as_dup mk_41 (by decide +kernel) rfl) bs_dup : bz_ok true 41 25 (bz_dup 26)),
  List.forall_mem_cons.mpr ⟨(bz_of (A := aa_gI 3 6 29) (as_gI mk_41 (ix := 42) (by decide +kernel) (fd_RX3_42 rfl) rfl) bs_gI : bz_ok true 41 26 (bz_gI 3 6 29)),
  List.forall_mem_cons.mpr ⟨(bz_of (A := aa_pu (.int 1) 30) (as_iconst mk_41 (n := 1) (by decide +kernel) (by decide +kernel) rfl) (bs_pu rfl) : bz_ok true 41 29 (bz_pu (.inl 1) 30)),
  fun _ h => absurd h List.not_mem_nil⟩⟩⟩⟩⟩⟩⟩⟩
theorem bd_41_2 : ∀ q ∈ ([(30, bz_bin bh_add 31), (31, bz_pI 3 6 34), (34, bz_lda 0 35), (35, bz_ldi 1 36), (36, bz_ccv 42 1 3 3 0 39), (39, bz_lda 0 40), (40, bz_gC 3 8 43), (43, bz_pu (.inl 20003) 46)] : List (Nat × bz_Op)), bz_ok true 41 q.1 q.2 :=
  List.forall_mem_cons.mpr ⟨(bz_of (A := aa_bin (fun x y => x + y) 31) (as_iadd mk_41 (by decide +kernel) rfl) (bs_bin bh_add_ok) : bz_ok true 41 30 (bz_bin bh_add 31)),
  List.forall_mem_cons.mpr ⟨(bz_of (A := aa_pI 3 6 34) (as_pI mk_41 (ix := 42) (by decide +kernel) (fd_RX3_42 rfl) pt_3_6 rfl) bs_pI : bz_ok true 41 31 (bz_pI 3 6 34)),
  List.forall_mem_cons.mpr ⟨(bz_of (A := aa_lda 0 35) (as_aload_n mk_41 (k := 0) (by decide +kernel) rfl rfl) bs_lda : bz_ok true 41 34 (bz_lda 0 35)),
  List.forall_mem_cons.mpr ⟨(bz_of (A := aa_ldi 1 36) (as_iload_n mk_41 (k := 1) (by decide +kernel) rfl rfl) bs_ldi : bz_ok true 41 35 (bz_ldi 1 36)),
  List.forall_mem_cons.mpr ⟨(bz_of (A := aa_ccv 42 1 3 3 aa_kV 39) (as_ccv mk_41 (ix := 138) aa_kV_ok (by decide +kernel) (cx_RX3_138 rfl) rfl) (bs_ccv bz_k0) : bz_ok true 41 36 (bz_ccv 42 1 3 3 0 39)),
  List.forall_mem_cons.mpr ⟨(bz_of (A := aa_lda 0 40) (as_aload_n mk_41 (k := 0) (by decide +kernel) rfl rfl) bs_lda : bz_ok true 41 39 (bz_lda 0 40)),
  List.forall_mem_cons.mpr ⟨(bz_of (A := aa_gC 3 8 43) (as_gC mk_41 (ix := 48) (by decide +kernel) (fd_RX3_48 rfl) rfl) bs_gC : bz_ok true 41 40 (bz_gC 3 8 43)),
  List.forall_mem_cons.mpr ⟨(bz_of (A := aa_pu (.int 20003) 46) (as_sipush mk_41 (n := 20003) (by decide +kernel) (by decide +kernel) rfl) (bs_pu rfl) : bz_ok true 41 43 (bz_pu (.inl 20003) 46)),
  fun _ h => absurd h List.not_mem_nil⟩⟩⟩⟩⟩⟩⟩⟩
theorem bd_41_3 : ∀ q ∈ ([(46, bz_ccv 70 1 2 6 0 49), (49, bz_inc 2 1 52), (52, bz_go 7), (55, bz_retv)] : List (Nat × bz_Op)), bz_ok true 41 q.1 q.2 :=
  List.forall_mem_cons.mpr ⟨(bz_of (A := aa_ccu 70 1 2 6 aa_kV 49) (as_ccu mk_41 (ix := 135) aa_kV_ok (by decide +kernel) (cx_RX3_135 rfl) rfl) (bs_ccu bz_k0) : bz_ok true 41 46 (bz_ccv 70 1 2 6 0 49)),
  List.forall_mem_cons.mpr ⟨(bz_of (A := aa_inc 2 1 52) (as_iinc mk_41 (n := 1) (by decide +kernel) (by decide +kernel) (by decide) rfl) (bs_inc (by decide +kernel)) : bz_ok true 41 49 (bz_inc 2 1 52)),
  List.forall_mem_cons.mpr ⟨(bz_of (A := aa_go 7) (as_goto mk_41 (off := (-45)) (by decide +kernel) (by decide +kernel)) bs_go : bz_ok true 41 52 (bz_go 7)),
  List.forall_mem_cons.mpr ⟨(bz_of (A := aa_retv) (as_vret mk_41 (by decide +kernel) rfl) bs_retv : bz_ok true 41 55 (bz_retv)),
  fun _ h => absurd h List.not_mem_nil⟩⟩⟩⟩
theorem bd_41_ok : bz_tk true 41 bd_41 :=
  List.forall_mem_cons.mpr ⟨bd_41_0,
  List.forall_mem_cons.mpr ⟨bd_41_1,
  List.forall_mem_cons.mpr ⟨bd_41_2,
  List.forall_mem_cons.mpr ⟨bd_41_3,
  fun _ h => absurd h List.not_mem_nil⟩⟩⟩⟩
def bd_42 : bz_T := [(15, [(0, bz_lda 0 1), (1, bz_ccv 37 0 1 3 1 4), (4, bz_pu (.inl 310) 7), (7, bz_icmp bh_eq 10 36), (10, bz_lda 0 11), (11, bz_ldi 1 12), (12, bz_ccv 46 1 2 3 1 15), (15, bz_if bh_eq0 35 18)]), (29, [(18, bz_lda 0 19), (19, bz_ldi 1 20), (20, bz_pu (.inl 1) 21), (21, bz_bin bh_add 22), (22, bz_ccv 42 1 3 3 0 25), (25, bz_lda 0 26), (26, bz_gC 3 8 29), (29, bz_pu (.inl 20000) 32)]), (45, [(32, bz_ccv 70 1 2 6 0 35), (35, bz_retv), (36, bz_lda 0 37), (37, bz_ldi 1 38), (38, bz_ccv 43 1 4 3 0 41), (41, bz_lda 0 42), (42, bz_ccv 37 0 1 3 1 45), (45, bz_sti 2 46)]), (59, [(46, bz_ldi 2 47), (47, bz_pu (.inl 60) 49), (49, bz_icmp bh_eq 58 52), (52, bz_ldi 2 53), (53, bz_pu (.inl 61) 55), (55, bz_icmp bh_eq 58 95), (58, bz_lda 0 59), (59, bz_dup 60)]), (73, [(60, bz_gI 3 6 63), (63, bz_pu (.inl 1) 64), (64, bz_bin bh_add 65), (65, bz_pI 3 6 68), (68, bz_lda 0 69), (69, bz_ldi 1 70), (70, bz_ccv 43 1 4 3 0 73), (73, bz_lda 0 74)]), (92, [(74, bz_gC 3 8 77), (77, bz_ldi 2 78), (78, bz_pu (.inl 60) 80), (80, bz_icmp bh_eq 83 89), (83, bz_pu (.inl 20004) 86), (86, bz_go 92), (89, bz_pu (.inl 20005) 92), (92, bz_ccv 70 1 2 6 0 95)]), (95, [(95, bz_retv)])]
theorem bd_42_0 : ∀ q ∈ ([(0, bz_lda 0 1), (1, bz_ccv 37 0 1 3 1 4), (4, bz_pu (.inl 310) 7), (7, bz_icmp bh_eq 10 36), (10, bz_lda 0 11), (11, bz_ldi 1 12), (12, bz_ccv 46 1 2 3 1 15), (15, bz_if bh_eq0 35 18)] : List (Nat × bz_Op)), bz_ok true 42 q.1 q.2 :=
  List.forall_mem_cons.mpr ⟨(bz_of (A := aa_lda 0 1) (as_aload_n mk_42 (k := 0) (by decide +kernel) rfl rfl) bs_lda : bz_ok true 42 0 (bz_lda 0 1)),
  List.forall_mem_cons.mpr ⟨(bz_of (A := aa_ccv 37 0 1 3 aa_kI 4) (as_ccv mk_42 (ix := 67) aa_kI_ok (by decide +kernel) (cx_RX3_67 rfl) rfl) (bs_ccv bz_k1) : bz_ok true 42 1 (bz_ccv 37 0 1 3 1 4)),
  List.forall_mem_cons.mpr ⟨(bz_of (A := aa_pu (.int 310) 7) (as_sipush mk_42 (n := 310) (by decide +kernel) (by decide +kernel) rfl) (bs_pu rfl) : bz_ok true 42 4 (bz_pu (.inl 310) 7)),
  List.forall_mem_cons.mpr ⟨(bz_of (A := aa_icmp (fun x y => x = y) 10 36) (as_icmp_ne mk_42 (off := 29) (by decide +kernel) (by decide +kernel) rfl) (bs_icmp bh_eq_ok) : bz_ok true 42 7 (bz_icmp bh_eq 10 36)),
  List.forall_mem_cons.mpr ⟨(bz_of (A := aa_lda 0 11) (as_aload_n mk_42 (k := 0) (by decide +kernel) rfl rfl) bs_lda : bz_ok true 42 10 (bz_lda 0 11)),
  List.forall_mem_cons.mpr ⟨(bz_of (A := aa_ldi 1 12) (as_iload_n mk_42 (k := 1) (by decide +kernel) rfl rfl) bs_ldi : bz_ok true 42 11 (bz_ldi 1 12)),
  List.forall_mem_cons.mpr ⟨(bz_of (A := aa_ccv 46 1 2 3 aa_kI 15) (as_ccv mk_42 (ix := 141) aa_kI_ok (by decide +kernel) (cx_RX3_141 rfl) rfl) (bs_ccv bz_k1) : bz_ok true 42 12 (bz_ccv 46 1 2 3 1 15)),
  List.forall_mem_cons.mpr ⟨(bz_of (A := aa_if (fun x => x = 0) 35 18) (as_if_eq mk_42 (off := 20) (by decide +kernel) (by decide +kernel) rfl) (bs_if bh_eq0_ok) : bz_ok true 42 15 (bz_if bh_eq0 35 18)),
  fun _ h => absurd h List.not_mem_nil⟩⟩⟩⟩⟩⟩⟩⟩
theorem bd_42_1 : ∀ q ∈ ([(18, bz_lda 0 19), (19, bz_ldi 1 20), (20, bz_pu (.inl 1) 21), (21, bz_bin bh_add 22), (22, bz_ccv 42 1 3 3 0 25), (25, bz_lda 0 26), (26, bz_gC 3 8 29), (29, bz_pu (.inl 20000) 32)] : List (Nat × bz_Op)), bz_ok true 42 q.1 q.2 :=
  List.forall_mem_cons.mpr ⟨(bz_of (A := aa_lda 0 19) (as_aload_n mk_42 (k := 0) (by decide +kernel) rfl rfl) bs_lda : bz_ok true 42 18 (bz_lda 0 19)),
  List.forall_mem_cons.mpr ⟨(bz_of (A := aa_ldi 1 20) (as_iload_n mk_42 (k := 1) (by decide +kernel) rfl rfl) bs_ldi : bz_ok true 42 19 (bz_ldi 1 20)),
  List.forall_mem_cons.mpr ⟨(bz_of (A := aa_pu (.int 1) 21) (as_iconst mk_42 (n := 1) (by decide +kernel) (by decide +kernel) rfl) (bs_pu rfl) : bz_ok true 42 20 (bz_pu (.inl 1) 21)),
  List.forall_mem_cons.mpr ⟨(bz_of (A := aa_bin (fun x y => x + y) 22) (as_iadd mk_42 (by decide +kernel) rfl) (bs_bin bh_add_ok) : bz_ok true 42 21 (bz_bin bh_add 22)),
  List.forall_mem_cons.mpr ⟨(bz_of (A := aa_ccv 42 1 3 3 aa_kV 25) (as_ccv mk_42 (ix := 138) aa_kV_ok (by decide +kernel) (cx_RX3_138 rfl) rfl) (bs_ccv bz_k0) : bz_ok true 42 22 (bz_ccv 42 1 3 3 0 25)),
  List.forall_mem_cons.mpr ⟨(bz_of (A := aa_lda 0 26) (as_aload_n mk_42 (k := 0) (by decide +kernel) rfl rfl) bs_lda : bz_ok true 42 25 (bz_lda 0 26)),
  List.forall_mem_cons.mpr ⟨(bz_of (A := aa_gC 3 8 29) (as_gC mk_42 (ix := 48) (by decide +kernel) (fd_RX3_48 rfl) rfl) bs_gC : bz_ok true 42 26 (bz_gC 3 8 29)),
  List.forall_mem_cons.mpr ⟨(bz_of (A := aa_pu (.int 20000) 32) (as_sipush mk_42 (n := 20000) (by decide +kernel) (by decide +kernel) rfl) (bs_pu rfl) : bz_ok true 42 29 (bz_pu (.inl 20000) 32)),
  fun _ h => absurd h List.not_mem_nil⟩⟩⟩⟩⟩⟩⟩⟩
theorem bd_42_2 : ∀ q ∈ ([(32, bz_ccv 70 1 2 6 0 35), (35, bz_retv), (36, bz_lda 0 37), (37, bz_ldi 1 38), (38, bz_ccv 43 1 4 3 0 41), (41, bz_lda 0 42), (42, bz_ccv 37 0 1 3 1 45), (45, bz_sti 2 46)] : List (Nat × bz_Op)), bz_ok true 42 q.1 q.2 :=
  List.forall_mem_cons.mpr ⟨(bz_of (A := aa_ccu 70 1 2 6 aa_kV 35) (as_ccu mk_42 (ix := 135) aa_kV_ok (by decide +kernel) (cx_RX3_135 rfl) rfl) (bs_ccu bz_k0) : bz_ok true 42 32 (bz_ccv 70 1 2 6 0 35)),
  List.forall_mem_cons.mpr ⟨(bz_of (A := aa_retv) (as_vret mk_42 (by decide +kernel) rfl) bs_retv : bz_ok true 42 35 (bz_retv)),
  List.forall_mem_cons.mpr ⟨(bz_of (A := aa_lda 0 37) (as_aload_n mk_42 (k := 0) (by decide +kernel) rfl rfl) bs_lda : bz_ok true 42 36 (bz_lda 0 37)),
  List.forall_mem_cons.mpr ⟨(bz_of (A := aa_ldi 1 38) (as_iload_n mk_42 (k := 1) (by decide +kernel) rfl rfl) bs_ldi : bz_ok true 42 37 (bz_ldi 1 38)),
  List.forall_mem_cons.mpr ⟨(bz_of (A := aa_ccv 43 1 4 3 aa_kV 41) (as_ccv mk_42 (ix := 145) aa_kV_ok (by decide +kernel) (cx_RX3_145 rfl) rfl) (bs_ccv bz_k0) : bz_ok true 42 38 (bz_ccv 43 1 4 3 0 41)),
  List.forall_mem_cons.mpr ⟨(bz_of (A := aa_lda 0 42) (as_aload_n mk_42 (k := 0) (by decide +kernel) rfl rfl) bs_lda : bz_ok true 42 41 (bz_lda 0 42)),
  List.forall_mem_cons.mpr ⟨(bz_of (A := aa_ccv 37 0 1 3 aa_kI 45) (as_ccv mk_42 (ix := 67) aa_kI_ok (by decide +kernel) (cx_RX3_67 rfl) rfl) (bs_ccv bz_k1) : bz_ok true 42 42 (bz_ccv 37 0 1 3 1 45)),
  List.forall_mem_cons.mpr ⟨(bz_of (A := aa_sti 2 46) (as_istore_n mk_42 (k := 2) (by decide +kernel) rfl (by decide) rfl) bs_sti : bz_ok true 42 45 (bz_sti 2 46)),
  fun _ h => absurd h List.not_mem_nil⟩⟩⟩⟩⟩⟩⟩⟩
theorem bd_42_3 : ∀ q ∈ ([(46, bz_ldi 2 47), (47, bz_pu (.inl 60) 49), (49, bz_icmp bh_eq 58 52), (52, bz_ldi 2 53), (53, bz_pu (.inl 61) 55), (55, bz_icmp bh_eq 58 95), (58, bz_lda 0 59), (59, bz_dup 60)] : List (Nat × bz_Op)), bz_ok true 42 q.1 q.2 :=
  List.forall_mem_cons.mpr ⟨(bz_of (A := aa_ldi 2 47) (as_iload_n mk_42 (k := 2) (by decide +kernel) rfl rfl) bs_ldi : bz_ok true 42 46 (bz_ldi 2 47)),
  List.forall_mem_cons.mpr ⟨(bz_of (A := aa_pu (.int 60) 49) (as_bipush mk_42 (n := 60) (by decide +kernel) (by decide +kernel) rfl) (bs_pu rfl) : bz_ok true 42 47 (bz_pu (.inl 60) 49)),
  List.forall_mem_cons.mpr ⟨(bz_of (A := aa_icmp (fun x y => x = y) 58 52) (as_icmp_eq mk_42 (off := 9) (by decide +kernel) (by decide +kernel) rfl) (bs_icmp bh_eq_ok) : bz_ok true 42 49 (bz_icmp bh_eq 58 52)),
  List.forall_mem_cons.mpr ⟨(bz_of (A := aa_ldi 2 53) (as_iload_n mk_42 (k := 2) (by decide +kernel) rfl rfl) bs_ldi : bz_ok true 42 52 (bz_ldi 2 53)),
  List.forall_mem_cons.mpr ⟨(bz_of (A := aa_pu (.int 61) 55) (as_bipush mk_42 (n := 61) (by decide +kernel) (by decide +kernel) rfl) (bs_pu rfl) : bz_ok true 42 53 (bz_pu (.inl 61) 55)),
  List.forall_mem_cons.mpr ⟨(bz_of (A := aa_icmp (fun x y => x = y) 58 95) (as_icmp_ne mk_42 (off := 40) (by decide +kernel) (by decide +kernel) rfl) (bs_icmp bh_eq_ok) : bz_ok true 42 55 (bz_icmp bh_eq 58 95)),
  List.forall_mem_cons.mpr ⟨(bz_of (A := aa_lda 0 59) (as_aload_n mk_42 (k := 0) (by decide +kernel) rfl rfl) bs_lda : bz_ok true 42 58 (bz_lda 0 59)),
  List.forall_mem_cons.mpr ⟨(bz_of (A := aa_dup 60) (as_dup mk_42 (by decide +kernel) rfl) bs_dup : bz_ok true 42 59 (bz_dup 60)),
  fun _ h => absurd h List.not_mem_nil⟩⟩⟩⟩⟩⟩⟩⟩
theorem bd_42_4 : ∀ q ∈ ([(60, bz_gI 3 6 63), (63, bz_pu (.inl 1) 64), (64, bz_bin bh_add 65), (65, bz_pI 3 6 68), (68, bz_lda 0 69), (69, bz_ldi 1 70), (70, bz_ccv 43 1 4 3 0 73), (73, bz_lda 0 74)] : List (Nat × bz_Op)), bz_ok true 42 q.1 q.2 :=
  List.forall_mem_cons.mpr ⟨(bz_of (A := aa_gI 3 6 63) (as_gI mk_42 (ix := 42) (by decide +kernel) (fd_RX3_42 rfl) rfl) bs_gI : bz_ok true 42 60 (bz_gI 3 6 63)),
  List.forall_mem_cons.mpr ⟨(bz_of (A := aa_pu (.int 1) 64) (as_iconst mk_42 (n := 1) (by decide +kernel) (by decide +kernel) rfl) (bs_pu rfl) : bz_ok true 42 63 (bz_pu (.inl 1) 64)),
  List.forall_mem_cons.mpr ⟨(bz_of (A := aa_bin (fun x y => x + y) 65) (as_iadd mk_42 (by decide +kernel) rfl) (bs_bin bh_add_ok) : bz_ok true 42 64 (bz_bin bh_add 65)),
  List.forall_mem_cons.mpr ⟨(bz_of (A := aa_pI 3 6 68) (as_pI mk_42 (ix := 42) (by decide +kernel) (fd_RX3_42 rfl) pt_3_6 rfl) bs_pI : bz_ok true 42 65 (bz_pI 3 6 68)),
  List.forall_mem_cons.mpr ⟨(bz_of (A := aa_lda 0 69) (as_aload_n mk_42 (k := 0) (by decide +kernel) rfl rfl) bs_lda : bz_ok true 42 68 (bz_lda 0 69)),
  List.forall_mem_cons.mpr ⟨(bz_of (A := aa_ldi 1 70) (as_iload_n mk_42 (k := 1) (by decide +kernel) rfl rfl) bs_ldi : bz_ok true 42 69 (bz_ldi 1 70)),
  List.forall_mem_cons.mpr ⟨(bz_of (A := aa_ccv 43 1 4 3 aa_kV 73) (as_ccv mk_42 (ix := 145) aa_kV_ok (by decide +kernel) (cx_RX3_145 rfl) rfl) (bs_ccv bz_k0) : bz_ok true 42 70 (bz_ccv 43 1 4 3 0 73)),
  List.forall_mem_cons.mpr ⟨(bz_of (A := aa_lda 0 74) (as_aload_n mk_42 (k := 0) (by decide +kernel) rfl rfl) bs_lda : bz_ok true 42 73 (bz_lda 0 74)),
  fun _ h => absurd h List.not_mem_nil⟩⟩⟩⟩⟩⟩⟩⟩
theorem bd_42_5 : ∀ q ∈ ([(74, bz_gC 3 8 77), (77, bz_ldi 2 78), (78, bz_pu (.inl 60) 80), (80, bz_icmp bh_eq 83 89), (83, bz_pu (.inl 20004) 86), (86, bz_go 92), (89, bz_pu (.inl 20005) 92), (92, bz_ccv 70 1 2 6 0 95)] : List (Nat × bz_Op)), bz_ok true 42 q.1 q.2 :=
  List.forall_mem_cons.mpr ⟨(bz_of (A := aa_gC 3 8 77) (as_gC mk_42 (ix := 48) (by decide +kernel) (fd_RX3_48 rfl) rfl) bs_gC : bz_ok true 42 74 (bz_gC 3 8 77)),
  List.forall_mem_cons.mpr ⟨(bz_of (A := aa_ldi 2 78) (as_iload_n mk_42 (k := 2) (by decide +kernel) rfl rfl) bs_ldi : bz_ok true 42 77 (bz_ldi 2 78)),
  List.forall_mem_cons.mpr ⟨(bz_of (A := aa_pu (.int 60) 80) (as_bipush mk_42 (n := 60) (by decide +kernel) (by decide +kernel) rfl) (bs_pu rfl) : bz_ok true 42 78 (bz_pu (.inl 60) 80)),
  List.forall_mem_cons.mpr ⟨(bz_of (A := aa_icmp (fun x y => x = y) 83 89) (as_icmp_ne mk_42 (off := 9) (by decide +kernel) (by decide +kernel) rfl) (bs_icmp bh_eq_ok) : bz_ok true 42 80 (bz_icmp bh_eq 83 89)),
  List.forall_mem_cons.mpr ⟨(bz_of (A := aa_pu (.int 20004) 86) (as_sipush mk_42 (n := 20004) (by decide +kernel) (by decide +kernel) rfl) (bs_pu rfl) : bz_ok true 42 83 (bz_pu (.inl 20004) 86)),
  List.forall_mem_cons.mpr ⟨(bz_of (A := aa_go 92) (as_goto mk_42 (off := 6) (by decide +kernel) (by decide +kernel)) bs_go : bz_ok true 42 86 (bz_go 92)),
  List.forall_mem_cons.mpr ⟨(bz_of (A := aa_pu (.int 20005) 92) (as_sipush mk_42 (n := 20005) (by decide +kernel) (by decide +kernel) rfl) (bs_pu rfl) : bz_ok true 42 89 (bz_pu (.inl 20005) 92)),
  List.forall_mem_cons.mpr ⟨(bz_of (A := aa_ccu 70 1 2 6 aa_kV 95) (as_ccu mk_42 (ix := 135) aa_kV_ok (by decide +kernel) (cx_RX3_135 rfl) rfl) (bs_ccu bz_k0) : bz_ok true 42 92 (bz_ccv 70 1 2 6 0 95)),
  fun _ h => absurd h List.not_mem_nil⟩⟩⟩⟩⟩⟩⟩⟩
theorem bd_42_6 : ∀ q ∈ ([(95, bz_retv)] : List (Nat × bz_Op)), bz_ok true 42 q.1 q.2 :=
  List.forall_mem_cons.mpr ⟨(bz_of (A := aa_retv) (as_vret mk_42 (by decide +kernel) rfl) bs_retv : bz_ok true 42 95 (bz_retv)),
  fun _ h => absurd h List.not_mem_nil⟩
theorem bd_42_ok : bz_tk true 42 bd_42 :=
  List.forall_mem_cons.mpr ⟨bd_42_0,
  List.forall_mem_cons.mpr ⟨bd_42_1,
  List.forall_mem_cons.mpr ⟨bd_42_2,
  List.forall_mem_cons.mpr ⟨bd_42_3,
  List.forall_mem_cons.mpr ⟨bd_42_4,
  List.forall_mem_cons.mpr ⟨bd_42_5,
  List.forall_mem_cons.mpr ⟨bd_42_6,
  fun _ h => absurd h List.not_mem_nil⟩⟩⟩⟩⟩⟩⟩
def bd_43 : bz_T := [(11, [(0, bz_lda 0 1), (1, bz_ldi 1 2), (2, bz_ccv 44 1 3 3 0 5), (5, bz_pu (.inl 0) 6), (6, bz_sti 2 7), (7, bz_ldi 2 8), (8, bz_pu (.inl 160) 11), (11, bz_icmp bh_lt 14 80)]), (29, [(14, bz_lda 0 15), (15, bz_ccv 37 0 1 3 1 18), (18, bz_pu (.inl 43) 20), (20, bz_icmp bh_eq 32 23), (23, bz_lda 0 24), (24, bz_ccv 37 0 1 3 1 27), (27, bz_pu (.inl 45) 29), (29, bz_icmp bh_eq 32 80)]), (43, [(32, bz_lda 0 33), (33, bz_ccv 37 0 1 3 1 36), (36, bz_sti 3 37), (37, bz_lda 0 38), (38, bz_dup 39), (39, bz_gI 3 6 42), (42, bz_pu (.inl 1) 43), (43, bz_bin bh_add 44)]), (57, [(44, bz_pI 3 6 47), (47, bz_lda 0 48), (48, bz_ldi 1 49), (49, bz_ccv 44 1 3 3 0 52), (52, bz_lda 0 53), (53, bz_gC 3 8 56), (56, bz_ldi 3 57), (57, bz_pu (.inl 43) 59)]), (80, [(59, bz_icmp bh_eq 62 68), (62, bz_pu (.inl 20006) 65), (65, bz_go 71), (68, bz_pu (.inl 20007) 71), (71, bz_ccv 70 1 2 6 0 74), (74, bz_inc 2 1 77), (77, bz_go 7), (80, bz_retv)])]
theorem bd_43_0 : ∀ q ∈ ([(0, bz_lda 0 1), (1, bz_ldi 1 2), (2, bz_ccv 44 1 3 3 0 5), (5, bz_pu (.inl 0) 6), (6, bz_sti 2 7), (7, bz_ldi 2 8), (8, bz_pu (.inl 160) 11), (11, bz_icmp bh_lt 14 80)] : List (Nat × bz_Op)), bz_ok true 43 q.1 q.2 :=
  List.forall_mem_cons.mpr ⟨(bz_of (A := aa_lda 0 1) (as_aload_n mk_43 (k := 0) (by decide +kernel) rfl rfl) bs_lda : bz_ok true 43 0 (bz_lda 0 1)),
  List.forall_mem_cons.mpr ⟨(bz_of (A := aa_ldi 1 2) (as_iload_n mk_43 (k := 1) (by decide +kernel) rfl rfl) bs_ldi : bz_ok true 43 1 (bz_ldi 1 2)),
  List.forall_mem_cons.mpr ⟨(bz_of (A := aa_ccv 44 1 3 3 aa_kV 5) (as_ccv mk_43 (ix := 148) aa_kV_ok (by decide +kernel) (cx_RX3_148 rfl) rfl) (bs_ccv bz_k0) : bz_ok true 43 2 (bz_ccv 44 1 3 3 0 5)),
  List.forall_mem_cons.mpr ⟨(bz_of (A := aa_pu (.int 0) 6) (as_iconst mk_43 (n := 0) (by decide +kernel) (by decide +kernel) rfl) (bs_pu rfl) : bz_ok true 43 5 (bz_pu (.inl 0) 6)),
  List.forall_mem_cons.mpr ⟨(bz_of (A := aa_sti 2 7) (as_istore_n mk_43 (k := 2) (by decide +kernel) rfl (by decide) rfl) bs_sti : bz_ok true 43 6 (bz_sti 2 7)),
  List.forall_mem_cons.mpr ⟨(bz_of (A := aa_ldi 2 8) (as_iload_n mk_43 (k := 2) (by decide +kernel) rfl rfl) bs_ldi : bz_ok true 43 7 (bz_ldi 2 8)),
  List.forall_mem_cons.mpr ⟨(bz_of (A := aa_pu (.int 160) 11) (as_sipush mk_43 (n := 160) (by decide +kernel) (by decide +kernel) rfl) (bs_pu rfl) : bz_ok true 43 8 (bz_pu (.inl 160) 11)),
  List.forall_mem_cons.mpr ⟨(bz_of (A := aa_icmp (fun x y => x < y) 14 80) (as_icmp_ge mk_43 (off := 69) (by decide +kernel) (by decide +kernel) rfl) (bs_icmp bh_lt_ok) : bz_ok true 43 11 (bz_icmp bh_lt 14 80)),
  fun _ h => absurd h List.not_mem_nil⟩⟩⟩⟩⟩⟩⟩⟩
theorem bd_43_1 : ∀ q ∈ ([(14, bz_lda 0 15), (15, bz_ccv 37 0 1 3 1 18), (18, bz_pu (.inl 43) 20), (20, bz_icmp bh_eq 32 23), (23, bz_lda 0 24), (24, bz_ccv 37 0 1 3 1 27), (27, bz_pu (.inl 45) 29), (29, bz_icmp bh_eq 32 80)] : List (Nat × bz_Op)), bz_ok true 43 q.1 q.2 :=
  List.forall_mem_cons.mpr ⟨(bz_of (A := aa_lda 0 15) (as_aload_n mk_43 (k := 0) (by decide +kernel) rfl rfl) bs_lda : bz_ok true 43 14 (bz_lda 0 15)),
  List.forall_mem_cons.mpr ⟨(bz_of (A := aa_ccv 37 0 1 3 aa_kI 18) (as_ccv mk_43 (ix := 67) aa_kI_ok (by decide +kernel) (cx_RX3_67 rfl) rfl) (bs_ccv bz_k1) : bz_ok true 43 15 (bz_ccv 37 0 1 3 1 18)),
  List.forall_mem_cons.mpr ⟨(bz_of (A := aa_pu (.int 43) 20) (as_bipush mk_43 (n := 43) (by decide +kernel) (by decide +kernel) rfl) (bs_pu rfl) : bz_ok true 43 18 (bz_pu (.inl 43) 20)),
  List.forall_mem_cons.mpr ⟨(bz_of (A := aa_icmp (fun x y => x = y) 32 23) (as_icmp_eq mk_43 (off := 12) (by decide +kernel) (by decide +kernel) rfl) (bs_icmp bh_eq_ok) : bz_ok true 43 20 (bz_icmp bh_eq 32 23)),
  List.forall_mem_cons.mpr ⟨(bz_of (A := aa_lda 0 24) (as_aload_n mk_43 (k := 0) (by decide +kernel) rfl rfl) bs_lda : bz_ok true 43 23 (bz_lda 0 24)),
  List.forall_mem_cons.mpr ⟨(bz_of (A := aa_ccv 37 0 1 3 aa_kI 27) (as_ccv mk_43 (ix := 67) aa_kI_ok (by decide +kernel) (cx_RX3_67 rfl) rfl) (bs_ccv bz_k1) : bz_ok true 43 24 (bz_ccv 37 0 1 3 1 27)),
  List.forall_mem_cons.mpr ⟨(bz_of (A := aa_pu (.int 45) 29) (as_bipush mk_43 (n := 45) (by decide +kernel) (by decide +kernel) rfl) (bs_pu rfl) : bz_ok true 43 27 (bz_pu (.inl 45) 29)),
  List.forall_mem_cons.mpr ⟨(bz_of (A := aa_icmp (fun x y => x = y) 32 80) (as_icmp_ne mk_43 (off := 51) (by decide +kernel) (by decide +kernel) rfl) (bs_icmp bh_eq_ok) : bz_ok true 43 29 (bz_icmp bh_eq 32 80)),
  fun _ h => absurd h List.not_mem_nil⟩⟩⟩⟩⟩⟩⟩⟩
theorem bd_43_2 : ∀ q ∈ ([(32, bz_lda 0 33), (33, bz_ccv 37 0 1 3 1 36), (36, bz_sti 3 37), (37, bz_lda 0 38), (38, bz_dup 39), (39, bz_gI 3 6 42), (42, bz_pu (.inl 1) 43), (43, bz_bin bh_add 44)] : List (Nat × bz_Op)), bz_ok true 43 q.1 q.2 :=
  List.forall_mem_cons.mpr ⟨(bz_of (A := aa_lda 0 33) (as_aload_n mk_43 (k := 0) (by decide +kernel) rfl rfl) bs_lda : bz_ok true 43 32 (bz_lda 0 33)),
  List.forall_mem_cons.mpr ⟨(bz_of (A := aa_ccv 37 0 1 3 aa_kI 36) (as_ccv mk_43 (ix := 67) aa_kI_ok (by decide +kernel) (cx_RX3_67 rfl) rfl) (bs_ccv bz_k1) : bz_ok true 43 33 (bz_ccv 37 0 1 3 1 36)),
  List.forall_mem_cons.mpr ⟨(bz_of (A := aa_sti 3 37) (as_istore_n mk_43 (k := 3) (by decide +kernel) rfl (by decide) rfl) bs_sti : bz_ok true 43 36 (bz_sti 3 37)),
  List.forall_mem_cons.mpr ⟨(bz_of (A := aa_lda 0 38) (as_aload_n mk_43 (k := 0) (by decide +kernel) rfl rfl) bs_lda : bz_ok true 43 37 (bz_lda 0 38)),
  List.forall_mem_cons.mpr ⟨(bz_of (A := aa_dup 39) (as_dup mk_43 (by decide +kernel) rfl) bs_dup : bz_ok true 43 38 (bz_dup 39)),
  List.forall_mem_cons.mpr ⟨(bz_of (A := aa_gI 3 6 42) (as_gI mk_43 (ix := 42) (by decide +kernel) (fd_RX3_42 rfl) rfl) bs_gI : bz_ok true 43 39 (bz_gI 3 6 42)),
  List.forall_mem_cons.mpr ⟨(bz_of (A := aa_pu (.int 1) 43) (as_iconst mk_43 (n := 1) (by decide +kernel) (by decide +kernel) rfl) (bs_pu rfl) : bz_ok true 43 42 (bz_pu (.inl 1) 43)),
  List.forall_mem_cons.mpr ⟨(bz_of (A := aa_bin (fun x y => x + y) 44) (as_iadd mk_43 (by decide +kernel) rfl) (bs_bin bh_add_ok) : bz_ok true 43 43 (bz_bin bh_add 44)),
  fun _ h => absurd h List.not_mem_nil⟩⟩⟩⟩⟩⟩⟩⟩
theorem bd_43_3 : ∀ q ∈ ([(44, bz_pI 3 6 47), (47, bz_lda 0 48), (48, bz_ldi 1 49), (49, bz_ccv 44 1 3 3 0 52), (52, bz_lda 0 53), (53, bz_gC 3 8 56), (56, bz_ldi 3 57), (57, bz_pu (.inl 43) 59)] : List (Nat × bz_Op)), bz_ok true 43 q.1 q.2 :=
  List.forall_mem_cons.mpr ⟨(bz_of (A := aa_pI 3 6 47) (as_pI mk_43 (ix := 42) (by decide +kernel) (fd_RX3_42 rfl) pt_3_6 rfl) bs_pI : bz_ok true 43 44 (bz_pI 3 6 47)),
  List.forall_mem_cons.mpr ⟨(bz_of (A := aa_lda 0 48) (as_aload_n mk_43 (k := 0) (by decide +kernel) rfl rfl) bs_lda : bz_ok true 43 47 (bz_lda 0 48)),
  List.forall_mem_cons.mpr ⟨(bz_of (A := aa_ldi 1 49) (as_iload_n mk_43 (k := 1) (by decide +kernel) rfl rfl) bs_ldi : bz_ok true 43 48 (bz_ldi 1 49)),
  List.forall_mem_cons.mpr ⟨(bz_of (A := aa_ccv 44 1 3 3 aa_kV 52) (as_ccv mk_43 (ix := 148) aa_kV_ok (by decide +kernel) (cx_RX3_148 rfl) rfl) (bs_ccv bz_k0) : bz_ok true 43 49 (bz_ccv 44 1 3 3 0 52)),
  List.forall_mem_cons.mpr ⟨(bz_of (A := aa_lda 0 53) (as_aload_n mk_43 (k := 0) (by decide +kernel) rfl rfl) bs_lda : bz_ok true 43 52 (bz_lda 0 53)),
  List.forall_mem_cons.mpr ⟨(bz_of (A := aa_gC 3 8 56) (as_gC mk_43 (ix := 48) (by decide +kernel) (fd_RX3_48 rfl) rfl) bs_gC : bz_ok true 43 53 (bz_gC 3 8 56)),
  List.forall_mem_cons.mpr ⟨(bz_of (A := aa_ldi 3 57) (as_iload_n mk_43 (k := 3) (by decide +kernel) rfl rfl) bs_ldi : bz_ok true 43 56 (bz_ldi 3 57)),
  List.forall_mem_cons.mpr ⟨(bz_of (A := aa_pu (.int 43) 59) (as_bipush mk_43 (n := 43) (by decide +kernel) (by decide +kernel) rfl) (bs_pu rfl) : bz_ok true 43 57 (bz_pu (.inl 43) 59)),
  fun _ h => absurd h List.not_mem_nil⟩⟩⟩⟩⟩⟩⟩⟩
theorem bd_43_4 : ∀ q ∈ ([(59, bz_icmp bh_eq 62 68), (62, bz_pu (.inl 20006) 65), (65, bz_go 71), (68, bz_pu (.inl 20007) 71), (71, bz_ccv 70 1 2 6 0 74), (74, bz_inc 2 1 77), (77, bz_go 7), (80, bz_retv)] : List (Nat × bz_Op)), bz_ok true 43 q.1 q.2 :=
  List.forall_mem_cons.mpr ⟨(bz_of (A := aa_icmp (fun x y => x = y) 62 68) (as_icmp_ne mk_43 (off := 9) (by decide +kernel) (by decide +kernel) rfl) (bs_icmp bh_eq_ok) : bz_ok true 43 59 (bz_icmp bh_eq 62 68)),
  List.forall_mem_cons.mpr ⟨(bz_of (A := aa_pu (.int 20006) 65) (as_sipush mk_43 (n := 20006) (by decide +kernel) (by decide +kernel) rfl) (bs_pu rfl) : bz_ok true 43 62 (bz_pu (.inl 20006) 65)),
  List.forall_mem_cons.mpr ⟨(bz_of (A := aa_go 71) (as_goto mk_43 (off := 6) (by decide +kernel) (by decide +kernel)) bs_go : bz_ok true 43 65 (bz_go 71)),
  List.forall_mem_cons.mpr ⟨(bz_of (A := aa_pu (.int 20007) 71) (as_sipush mk_43 (n := 20007) (by decide +kernel) (by decide +kernel) rfl) (bs_pu rfl) : bz_ok true 43 68 (bz_pu (.inl 20007) 71)),
  List.forall_mem_cons.mpr ⟨(bz_of (A := aa_ccu 70 1 2 6 aa_kV 74) (as_ccu mk_43 (ix := 135) aa_kV_ok (by decide +kernel) (cx_RX3_135 rfl) rfl) (bs_ccu bz_k0) : bz_ok true 43 71 (bz_ccv 70 1 2 6 0 74)),
  List.forall_mem_cons.mpr ⟨(bz_of (A := aa_inc 2 1 77) (as_iinc mk_43 (n := 1) (by decide +kernel) (by decide +kernel) (by decide) rfl) (bs_inc (by decide +kernel)) : bz_ok true 43 74 (bz_inc 2 1 77)),
  List.forall_mem_cons.mpr ⟨(bz_of (A := aa_go 7) (as_goto mk_43 (off := (-70)) (by decide +kernel) (by decide +kernel)) bs_go : bz_ok true 43 77 (bz_go 7)),
  List.forall_mem_cons.mpr ⟨(bz_of (A := aa_retv) (as_vret mk_43 (by decide +kernel) rfl) bs_retv : bz_ok true 43 80 (bz_retv)),
  fun _ h => absurd h List.not_mem_nil⟩⟩⟩⟩⟩⟩⟩⟩
theorem bd_43_ok : bz_tk true 43 bd_43 :=
  List.forall_mem_cons.mpr ⟨bd_43_0,
  List.forall_mem_cons.mpr ⟨bd_43_1,
  List.forall_mem_cons.mpr ⟨bd_43_2,
  List.forall_mem_cons.mpr ⟨bd_43_3,
  List.forall_mem_cons.mpr ⟨bd_43_4,
  fun _ h => absurd h List.not_mem_nil⟩⟩⟩⟩⟩
def bd_44 : bz_T := [(11, [(0, bz_lda 0 1), (1, bz_ldi 1 2), (2, bz_ccv 45 1 3 3 0 5), (5, bz_pu (.inl 0) 6), (6, bz_sti 2 7), (7, bz_ldi 2 8), (8, bz_pu (.inl 160) 11), (11, bz_icmp bh_lt 14 54)]), (28, [(14, bz_lda 0 15), (15, bz_ccv 37 0 1 3 1 18), (18, bz_pu (.inl 42) 20), (20, bz_icmp bh_eq 23 54), (23, bz_lda 0 24), (24, bz_dup 25), (25, bz_gI 3 6 28), (28, bz_pu (.inl 1) 29)]), (42, [(29, bz_bin bh_add 30), (30, bz_pI 3 6 33), (33, bz_lda 0 34), (34, bz_ldi 1 35), (35, bz_ccv 45 1 3 3 0 38), (38, bz_lda 0 39), (39, bz_gC 3 8 42), (42, bz_pu (.inl 20008) 45)]), (54, [(45, bz_ccv 70 1 2 6 0 48), (48, bz_inc 2 1 51), (51, bz_go 7), (54, bz_retv)])]
theorem bd_44_0 : ∀ q ∈ ([(0, bz_lda 0 1), (1, bz_ldi 1 2), (2, bz_ccv 45 1 3 3 0 5), (5, bz_pu (.inl 0) 6), (6, bz_sti 2 7), (7, bz_ldi 2 8), (8, bz_pu (.inl 160) 11), (11, bz_icmp bh_lt 14 54)] : List (Nat × bz_Op)), bz_ok true 44 q.1 q.2 :=
  List.forall_mem_cons.mpr ⟨(bz_of (A := aa_lda 0 1) (as_aload_n mk_44 (k := 0) (by decide +kernel) rfl rfl) bs_lda : bz_ok true 44 0 (bz_lda 0 1)),
  List.forall_mem_cons.mpr ⟨(bz_of (A := aa_ldi 1 2) (as_iload_n mk_44 (k := 1) (by decide +kernel) rfl rfl) bs_ldi : bz_ok true 44 1 (bz_ldi 1 2)),
  List.forall_mem_cons.mpr ⟨(bz_of (A := aa_ccv 45 1 3 3 aa_kV 5) (as_ccv mk_44 (ix := 151) aa_kV_ok (by decide +kernel) (cx_RX3_151 rfl) rfl) (bs_ccv bz_k0) : bz_ok true 44 2 (bz_ccv 45 1 3 3 0 5)),
  List.forall_mem_cons.mpr ⟨(bz_of (A := aa_pu (.int 0) 6) (as_iconst mk_44 (n := 0) (by decide +kernel) (by decide +kernel) rfl) (bs_pu rfl) : bz_ok true 44 5 (bz_pu (.inl 0) 6)),
  List.forall_mem_cons.mpr ⟨(bz_of (A := aa_sti 2 7) (as_istore_n mk_44 (k := 2) (by decide +kernel) rfl (by decide) rfl) bs_sti : bz_ok true 44 6 (bz_sti 2 7)),
  List.forall_mem_cons.mpr ⟨(bz_of (A := aa_ldi 2 8) (as_iload_n mk_44 (k := 2) (by decide +kernel) rfl rfl) bs_ldi : bz_ok true 44 7 (bz_ldi 2 8)),
  List.forall_mem_cons.mpr ⟨(bz_of (A := aa_pu (.int 160) 11) (as_sipush mk_44 (n := 160) (by decide +kernel) (by decide +kernel) rfl) (bs_pu rfl) : bz_ok true 44 8 (bz_pu (.inl 160) 11)),
  List.forall_mem_cons.mpr ⟨(bz_of (A := aa_icmp (fun x y => x < y) 14 54) (as_icmp_ge mk_44 (off := 43) (by decide +kernel) (by decide +kernel) rfl) (bs_icmp bh_lt_ok) : bz_ok true 44 11 (bz_icmp bh_lt 14 54)),
  fun _ h => absurd h List.not_mem_nil⟩⟩⟩⟩⟩⟩⟩⟩
theorem bd_44_1 : ∀ q ∈ ([(14, bz_lda 0 15), (15, bz_ccv 37 0 1 3 1 18), (18, bz_pu (.inl 42) 20), (20, bz_icmp bh_eq 23 54), (23, bz_lda 0 24), (24, bz_dup 25), (25, bz_gI 3 6 28), (28, bz_pu (.inl 1) 29)] : List (Nat × bz_Op)), bz_ok true 44 q.1 q.2 :=
  List.forall_mem_cons.mpr ⟨(bz_of (A := aa_lda 0 15) (as_aload_n mk_44 (k := 0) (by decide +kernel) rfl rfl) bs_lda : bz_ok true 44 14 (bz_lda 0 15)),
  List.forall_mem_cons.mpr ⟨(bz_of (A := aa_ccv 37 0 1 3 aa_kI 18) (as_ccv mk_44 (ix := 67) aa_kI_ok (by decide +kernel) (cx_RX3_67 rfl) rfl) (bs_ccv bz_k1) : bz_ok true 44 15 (bz_ccv 37 0 1 3 1 18)),
  List.forall_mem_cons.mpr ⟨(bz_of (A := aa_pu (.int 42) 20) (as_bipush mk_44 (n := 42) (by decide +kernel) (by decide +kernel) rfl) (bs_pu rfl) : bz_ok true 44 18 (bz_pu (.inl 42) 20)),
  List.forall_mem_cons.mpr ⟨(bz_of (A := aa_icmp (fun x y => x = y) 23 54) (as_icmp_ne mk_44 (off := 34) (by decide +kernel) (by decide +kernel) rfl) (bs_icmp bh_eq_ok) : bz_ok true 44 20 (bz_icmp bh_eq 23 54)),
  List.forall_mem_cons.mpr ⟨(bz_of (A := aa_lda 0 24) (as_aload_n mk_44 (k := 0) (by decide +kernel) rfl rfl) bs_lda : bz_ok true 44 23 (bz_lda 0 24)),
  List.forall_mem_cons.mpr ⟨(bz_of (A := aa_dup 25) (as_dup mk_44 (by decide +kernel) rfl) bs_dup : bz_ok true 44 24 (bz_dup 25)),
  List.forall_mem_cons.mpr ⟨(bz_of (A := aa_gI 3 6 28) (as_gI mk_44 (ix := 42) (by decide +kernel) (fd_RX3_42 rfl) rfl) bs_gI : bz_ok true 44 25 (bz_gI 3 6 28)),
  List.forall_mem_cons.mpr ⟨(bz_of (A := aa_pu (.int 1) 29) (as_iconst mk_44 (n := 1) (by decide +kernel) (by decide +kernel) rfl) (bs_pu rfl) : bz_ok true 44 28 (bz_pu (.inl 1) 29)),
  fun _ h => absurd h List.not_mem_nil⟩⟩⟩⟩⟩⟩⟩⟩
theorem bd_44_2 : ∀ q ∈ ([(29, bz_bin bh_add 30), (30, bz_pI 3 6 33), (33, bz_lda 0 34), (34, bz_ldi 1 35), (35, bz_ccv 45 1 3 3 0 38), (38, bz_lda 0 39), (39, bz_gC 3 8 42), (42, bz_pu (.inl 20008) 45)] : List (Nat × bz_Op)), bz_ok true 44 q.1 q.2 :=
  List.forall_mem_cons.mpr ⟨(bz_of (A := aa_bin (fun x y => x + y) 30) (as_iadd mk_44 (by decide +kernel) rfl) (bs_bin bh_add_ok) : bz_ok true 44 29 (bz_bin bh_add 30)),
  List.forall_mem_cons.mpr ⟨(bz_of (A := aa_pI 3 6 33) (as_pI mk_44 (ix := 42) (by decide +kernel) (fd_RX3_42 rfl) pt_3_6 rfl) bs_pI : bz_ok true 44 30 (bz_pI 3 6 33)),
  List.forall_mem_cons.mpr ⟨(bz_of (A := aa_lda 0 34) (as_aload_n mk_44 (k := 0) (by decide +kernel) rfl rfl) bs_lda : bz_ok true 44 33 (bz_lda 0 34)),
  List.forall_mem_cons.mpr ⟨(bz_of (A := aa_ldi 1 35) (as_iload_n mk_44 (k := 1) (by decide +kernel) rfl rfl) bs_ldi : bz_ok true 44 34 (bz_ldi 1 35)),
  List.forall_mem_cons.mpr ⟨(bz_of (A := aa_ccv 45 1 3 3 aa_kV 38) (as_ccv mk_44 (ix := 151) aa_kV_ok (by decide +kernel) (cx_RX3_151 rfl) rfl) (bs_ccv bz_k0) : bz_ok true 44 35 (bz_ccv 45 1 3 3 0 38)),
  List.forall_mem_cons.mpr ⟨(bz_of (A := aa_lda 0 39) (as_aload_n mk_44 (k := 0) (by decide +kernel) rfl rfl) bs_lda : bz_ok true 44 38 (bz_lda 0 39)),
  List.forall_mem_cons.mpr ⟨(bz_of (A := aa_gC 3 8 42) (as_gC mk_44 (ix := 48) (by decide +kernel) (fd_RX3_48 rfl) rfl) bs_gC : bz_ok true 44 39 (bz_gC 3 8 42)),
  List.forall_mem_cons.mpr ⟨(bz_of (A := aa_pu (.int 20008) 45) (as_sipush mk_44 (n := 20008) (by decide +kernel) (by decide +kernel) rfl) (bs_pu rfl) : bz_ok true 44 42 (bz_pu (.inl 20008) 45)),
  fun _ h => absurd h List.not_mem_nil⟩⟩⟩⟩⟩⟩⟩⟩
theorem bd_44_3 : ∀ q ∈ ([(45, bz_ccv 70 1 2 6 0 48), (48, bz_inc 2 1 51), (51, bz_go 7), (54, bz_retv)] : List (Nat × bz_Op)), bz_ok true 44 q.1 q.2 :=
  List.forall_mem_cons.mpr ⟨(bz_of (A := aa_ccu 70 1 2 6 aa_kV 48) (as_ccu mk_44 (ix := 135) aa_kV_ok (by decide +kernel) (cx_RX3_135 rfl) rfl) (bs_ccu bz_k0) : bz_ok true 44 45 (bz_ccv 70 1 2 6 0 48)),
  List.forall_mem_cons.mpr ⟨(bz_of (A := aa_inc 2 1 51) (as_iinc mk_44 (n := 1) (by decide +kernel) (by decide +kernel) (by decide) rfl) (bs_inc (by decide +kernel)) : bz_ok true 44 48 (bz_inc 2 1 51)),
  List.forall_mem_cons.mpr ⟨(bz_of (A := aa_go 7) (as_goto mk_44 (off := (-44)) (by decide +kernel) (by decide +kernel)) bs_go : bz_ok true 44 51 (bz_go 7)),
  List.forall_mem_cons.mpr ⟨(bz_of (A := aa_retv) (as_vret mk_44 (by decide +kernel) rfl) bs_retv : bz_ok true 44 54 (bz_retv)),
  fun _ h => absurd h List.not_mem_nil⟩⟩⟩⟩
theorem bd_44_ok : bz_tk true 44 bd_44 :=
  List.forall_mem_cons.mpr ⟨bd_44_0,
  List.forall_mem_cons.mpr ⟨bd_44_1,
  List.forall_mem_cons.mpr ⟨bd_44_2,
  List.forall_mem_cons.mpr ⟨bd_44_3,
  fun _ h => absurd h List.not_mem_nil⟩⟩⟩⟩
def bd_45 : bz_T := [(13, [(0, bz_lda 0 1), (1, bz_ccv 37 0 1 3 1 4), (4, bz_sti 2 5), (5, bz_ldi 2 6), (6, bz_pu (.inl 258) 9), (9, bz_icmp bh_eq 12 41), (12, bz_lda 0 13), (13, bz_gC 3 8 16)]), (29, [(16, bz_lda 0 17), (17, bz_gR 3 4 20), (20, bz_lda 0 21), (21, bz_gI 3 6 24), (24, bz_al 100 25), (25, bz_ccv 70 1 2 6 0 28), (28, bz_lda 0 29), (29, bz_dup 30)]), (45, [(30, bz_gI 3 6 33), (33, bz_pu (.inl 1) 34), (34, bz_bin bh_add 35), (35, bz_pI 3 6 38), (38, bz_go 147), (41, bz_ldi 2 42), (42, bz_pu (.inl 300) 45), (45, bz_pu (.inl 305) 48)]), (63, [(48, bz_ccs 182 3 3 1 51), (51, bz_if bh_eq0 79 54), (54, bz_lda 0 55), (55, bz_gC 3 8 58), (58, bz_ldi 2 59), (59, bz_pu (.inl 300) 62), (62, bz_bin bh_sub 63), (63, bz_ccv 71 1 2 6 0 66)]), (79, [(66, bz_lda 0 67), (67, bz_dup 68), (68, bz_gI 3 6 71), (71, bz_pu (.inl 1) 72), (72, bz_bin bh_add 73), (73, bz_pI 3 6 76), (76, bz_go 147), (79, bz_ldi 2 80)]), (94, [(80, bz_pu (.inl 45) 82), (82, bz_icmp bh_eq 85 113), (85, bz_lda 0 86), (86, bz_ldi 1 87), (87, bz_ccv 46 1 2 3 1 90), (90, bz_if bh_eq0 147 93), (93, bz_lda 0 94), (94, bz_ldi 1 95)]), (110, [(95, bz_pu (.inl 1) 96), (96, bz_bin bh_add 97), (97, bz_ccv 45 1 3 3 0 100), (100, bz_lda 0 101), (101, bz_gC 3 8 104), (104, bz_pu (.inl 20001) 107), (107, bz_ccv 70 1 2 6 0 110), (110, bz_go 147)]), (127, [(113, bz_ldi 2 114), (114, bz_pu (.inl 40) 116), (116, bz_icmp bh_eq 119 143), (119, bz_lda 0 120), (120, bz_ldi 1 121), (121, bz_ccv 46 1 2 3 1 124), (124, bz_if bh_eq0 147 127), (127, bz_lda 0 128)]), (140, [(128, bz_ldi 1 129), (129, bz_pu (.inl 1) 130), (130, bz_bin bh_add 131), (131, bz_ccv 40 1 3 3 0 134), (134, bz_lda 0 135), (135, bz_pu (.inl 41) 137), (137, bz_ccv 39 1 2 3 0 140), (140, bz_go 147)]), (147, [(143, bz_lda 0 144), (144, bz_ccv 38 0 1 3 0 147), (147, bz_retv)])]
theorem bd_45_0 : ∀ q ∈ ([(0, bz_lda 0 1), (1, bz_ccv 37 0 1 3 1 4), (4, bz_sti 2 5), (5, bz_ldi 2 6), (6, bz_pu (.inl 258) 9), (9, bz_icmp bh_eq 12 41), (12, bz_lda 0 13), (13, bz_gC 3 8 16)] : List (Nat × bz_Op)), bz_ok true 45 q.1 q.2 :=
  List.forall_mem_cons.mpr ⟨(bz_of (A := aa_lda 0 1) (as_aload_n mk_45 (k := 0) (by decide +kernel) rfl rfl) bs_lda : bz_ok true 45 0 (bz_lda 0 1)),
  List.forall_mem_cons.mpr ⟨(bz_of (A := aa_ccv 37 0 1 3 aa_kI 4) (as_ccv mk_45 (ix := 67) aa_kI_ok (by decide +kernel) (cx_RX3_67 rfl) rfl) (bs_ccv bz_k1) : bz_ok true 45 1 (bz_ccv 37 0 1 3 1 4)),
  List.forall_mem_cons.mpr ⟨(bz_of (A := aa_sti 2 5) (as_istore_n mk_45 (k := 2) (by decide +kernel) rfl (by decide) rfl) bs_sti : bz_ok true 45 4 (bz_sti 2 5)),
  List.forall_mem_cons.mpr ⟨(bz_of (A := aa_ldi 2 6) (as_iload_n mk_45 (k := 2) (by decide +kernel) rfl rfl) bs_ldi : bz_ok true 45 5 (bz_ldi 2 6)),
  List.forall_mem_cons.mpr ⟨(bz_of (A := aa_pu (.int 258) 9) (as_sipush mk_45 (n := 258) (by decide +kernel) (by decide +kernel) rfl) (bs_pu rfl) : bz_ok true 45 6 (bz_pu (.inl 258) 9)),
  List.forall_mem_cons.mpr ⟨(bz_of (A := aa_icmp (fun x y => x = y) 12 41) (as_icmp_ne mk_45 (off := 32) (by decide +kernel) (by decide +kernel) rfl) (bs_icmp bh_eq_ok) : bz_ok true 45 9 (bz_icmp bh_eq 12 41)),
  List.forall_mem_cons.mpr ⟨(bz_of (A := aa_lda 0 13) (as_aload_n mk_45 (k := 0) (by decide +kernel) rfl rfl) bs_lda : bz_ok true 45 12 (bz_lda 0 13)),
  List.forall_mem_cons.mpr ⟨(bz_of (A := aa_gC 3 8 16) (as_gC mk_45 (ix := 48) (by decide +kernel) (fd_RX3_48 rfl) rfl) bs_gC : bz_ok true 45 13 (bz_gC 3 8 16)),
  fun _ h => absurd h List.not_mem_nil⟩⟩⟩⟩⟩⟩⟩⟩
theorem bd_45_1 : ∀ q ∈ ([(16, bz_lda 0 17), (17, bz_gR 3 4 20), (20, bz_lda 0 21), (21, bz_gI 3 6 24), (24, bz_al 100 25), (25, bz_ccv 70 1 2 6 0 28), (28, bz_lda 0 29), (29, bz_dup 30)] : List (Nat × bz_Op)), bz_ok true 45 q.1 q.2 :=
  List.forall_mem_cons.mpr ⟨(bz_of (A := aa_lda 0 17) (as_aload_n mk_45 (k := 0) (by decide +kernel) rfl rfl) bs_lda : bz_ok true 45 16 (bz_lda 0 17)),
  List.forall_mem_cons.mpr ⟨(bz_of (A := aa_gR 3 4 20) (as_gR mk_45 (ix := 22) (by decide +kernel) (fd_RX3_22 rfl) rfl) bs_gR : bz_ok true 45 17 (bz_gR 3 4 20)),
  List.forall_mem_cons.mpr ⟨(bz_of (A := aa_lda 0 21) (as_aload_n mk_45 (k := 0) (by decide +kernel) rfl rfl) bs_lda : bz_ok true 45 20 (bz_lda 0 21)),
  List.forall_mem_cons.mpr ⟨(bz_of (A := aa_gI 3 6 24) (as_gI mk_45 (ix := 42) (by decide +kernel) (fd_RX3_42 rfl) rfl) bs_gI : bz_ok true 45 21 (bz_gI 3 6 24)),
  List.forall_mem_cons.mpr ⟨(bz_of (A := aa_al 100 25) (as_al mk_45 (Or.inl ⟨rfl, by decide +kernel⟩) rfl) bs_al : bz_ok true 45 24 (bz_al 100 25)),
  List.forall_mem_cons.mpr ⟨(bz_of (A := aa_ccu 70 1 2 6 aa_kV 28) (as_ccu mk_45 (ix := 135) aa_kV_ok (by decide +kernel) (cx_RX3_135 rfl) rfl) (bs_ccu bz_k0) : bz_ok true 45 25 (bz_ccv 70 1 2 6 0 28)),
  List.forall_mem_cons.mpr ⟨(bz_of (A := aa_lda 0 29) (as_aload_n mk_45 (k := 0) (by decide +kernel) rfl rfl) bs_lda : bz_ok true 45 28 (bz_lda 0 29)),
  List.forall_mem_cons.mpr ⟨(bz_of (A := aa_dup 30) (as_dup mk_45 (by decide +kernel) rfl) bs_dup : bz_ok true 45 29 (bz_dup 30)),
  fun _ h => absurd h List.not_mem_nil⟩⟩⟩⟩⟩⟩⟩⟩
theorem bd_45_2 : ∀ q ∈ ([(30, bz_gI 3 6 33), (33, bz_pu (.inl 1) 34), (34, bz_bin bh_add 35), (35, bz_pI 3 6 38), (38, bz_go 147), (41, bz_ldi 2 42), (42, bz_pu (.inl 300) 45), (45, bz_pu (.inl 305) 48)] : List (Nat × bz_Op)), bz_ok true 45 q.1 q.2 :=
  List.forall_mem_cons.mpr ⟨(bz_of (A := aa_gI 3 6 33) (as_gI mk_45 (ix := 42) (by decide +kernel) (fd_RX3_42 rfl) rfl) bs_gI : bz_ok true 45 30 (bz_gI 3 6 33)),
  List.forall_mem_cons.mpr ⟨(bz_of (A := aa_pu (.int 1) 34) (as_iconst mk_45 (n := 1) (by decide +kernel) (by decide +kernel) rfl) (bs_pu rfl) : bz_ok true 45 33 (bz_pu (.inl 1) 34)),
  List.forall_mem_cons.mpr ⟨(bz_of (A := aa_bin (fun x y => x + y) 35) (as_iadd mk_45 (by decide +kernel) rfl) (bs_bin bh_add_ok) : bz_ok true 45 34 (bz_bin bh_add 35)),
  List.forall_mem_cons.mpr ⟨(bz_of (A := aa_pI 3 6 38) (as_pI mk_45 (ix := 42) (by decide +kernel) (fd_RX3_42 rfl) pt_3_6 rfl) bs_pI : bz_ok true 45 35 (bz_pI 3 6 38)),
  List.forall_mem_cons.mpr ⟨(bz_of (A := aa_go 147) (as_goto mk_45 (off := 109) (by decide +kernel) (by decide +kernel)) bs_go : bz_ok true 45 38 (bz_go 147)),
  List.forall_mem_cons.mpr ⟨(bz_of (A := aa_ldi 2 42) (as_iload_n mk_45 (k := 2) (by decide +kernel) rfl rfl) bs_ldi : bz_ok true 45 41 (bz_ldi 2 42)),
  List.forall_mem_cons.mpr ⟨(bz_of (A := aa_pu (.int 300) 45) (as_sipush mk_45 (n := 300) (by decide +kernel) (by decide +kernel) rfl) (bs_pu rfl) : bz_ok true 45 42 (bz_pu (.inl 300) 45)),
  List.forall_mem_cons.mpr ⟨(bz_of (A := aa_pu (.int 305) 48) (as_sipush mk_45 (n := 305) (by decide +kernel) (by decide +kernel) rfl) (bs_pu rfl) : bz_ok true 45 45 (bz_pu (.inl 305) 48)),
  fun _ h => absurd h List.not_mem_nil⟩⟩⟩⟩⟩⟩⟩⟩
theorem bd_45_3 : ∀ q ∈ ([(48, bz_ccs 182 3 3 1 51), (51, bz_if bh_eq0 79 54), (54, bz_lda 0 55), (55, bz_gC 3 8 58), (58, bz_ldi 2 59), (59, bz_pu (.inl 300) 62), (62, bz_bin bh_sub 63), (63, bz_ccv 71 1 2 6 0 66)] : List (Nat × bz_Op)), bz_ok true 45 q.1 q.2 :=
  List.forall_mem_cons.mpr ⟨(bz_of (A := aa_ccs 182 3 3 aa_kI 51) (as_ccs mk_45 (ix := 95) (M' := ac_r182) aa_kI_ok (by decide +kernel) ce_182 lk_RX3_95 cs_182 rfl (by decide) rfl) (bs_ccs bz_k1) : bz_ok true 45 48 (bz_ccs 182 3 3 1 51)),
  List.forall_mem_cons.mpr ⟨(bz_of (A := aa_if (fun x => x = 0) 79 54) (as_if_eq mk_45 (off := 28) (by decide +kernel) (by decide +kernel) rfl) (bs_if bh_eq0_ok) : bz_ok true 45 51 (bz_if bh_eq0 79 54)),
  List.forall_mem_cons.mpr ⟨(bz_of (A := aa_lda 0 55) (as_aload_n mk_45 (k := 0) (by decide +kernel) rfl rfl) bs_lda : bz_ok true 45 54 (bz_lda 0 55)),
  List.forall_mem_cons.mpr ⟨(bz_of (A := aa_gC 3 8 58) (as_gC mk_45 (ix := 48) (by decide +kernel) (fd_RX3_48 rfl) rfl) bs_gC : bz_ok true 45 55 (bz_gC 3 8 58)),
  List.forall_mem_cons.mpr ⟨(bz_of (A := aa_ldi 2 59) (as_iload_n mk_45 (k := 2) (by decide +kernel) rfl rfl) bs_ldi : bz_ok true 45 58 (bz_ldi 2 59)),
  List.forall_mem_cons.mpr ⟨(bz_of (A := aa_pu (.int 300) 62) (as_sipush mk_45 (n := 300) (by decide +kernel) (by decide +kernel) rfl) (bs_pu rfl) : bz_ok true 45 59 (bz_pu (.inl 300) 62)),
  List.forall_mem_cons.mpr ⟨(bz_of (A := aa_bin (fun x y => x - y) 63) (as_isub mk_45 (by decide +kernel) rfl) (bs_bin bh_sub_ok) : bz_ok true 45 62 (bz_bin bh_sub 63)),
  List.forall_mem_cons.mpr ⟨(bz_of (A := aa_ccu 71 1 2 6 aa_kV 66) (as_ccu mk_45 (ix := 154) aa_kV_ok (by decide +kernel) (cx_RX3_154 rfl) rfl) (bs_ccu bz_k0) : bz_ok true 45 63 (bz_ccv 71 1 2 6 0 66)),
  fun _ h => absurd h List.not_mem_nil⟩⟩⟩⟩⟩⟩⟩⟩
theorem bd_45_4 : ∀ q ∈ ([(66, bz_lda 0 67), (67, bz_dup 68), (68, bz_gI 3 6 71), (71, bz_pu (.inl 1) 72), (72, bz_bin bh_add 73), (73, bz_pI 3 6 76), (76, bz_go 147), (79, bz_ldi 2 80)] : List (Nat × bz_Op)), bz_ok true 45 q.1 q.2 :=
  List.forall_mem_cons.mpr ⟨(bz_of (A := aa_lda 0 67) (as_aload_n mk_45 (k := 0) (by decide +kernel) rfl rfl) bs_lda : bz_ok true 45 66 (bz_lda 0 67)),
  List.forall_mem_cons.mpr ⟨(bz_of (A := aa_dup 68) (as_dup mk_45 (by decide +kernel) rfl) bs_dup : bz_ok true 45 67 (bz_dup 68)),
  List.forall_mem_cons.mpr ⟨(bz_of (A := aa_gI 3 6 71) (as_gI mk_45 (ix := 42) (by decide +kernel) (fd_RX3_42 rfl) rfl) bs_gI : bz_ok true 45 68 (bz_gI 3 6 71)),
  List.forall_mem_cons.mpr ⟨(bz_of (A := aa_pu (.int 1) 72) (as_iconst mk_45 (n := 1) (by decide +kernel) (by decide +kernel) rfl) (bs_pu rfl) : bz_ok true 45 71 (bz_pu (.inl 1) 72)),
  List.forall_mem_cons.mpr ⟨(bz_of (A := aa_bin (fun x y => x + y) 73) (as_iadd mk_45 (by decide +kernel) rfl) (bs_bin bh_add_ok) : bz_ok true 45 72 (bz_bin bh_add 73)),
  List.forall_mem_cons.mpr ⟨(bz_of (A := aa_pI 3 6 76) (as_pI mk_45 (ix := 42) (by decide +kernel) (fd_RX3_42 rfl) pt_3_6 rfl) bs_pI : bz_ok true 45 73 (bz_pI 3 6 76)),
  List.forall_mem_cons.mpr ⟨(bz_of (A := aa_go 147) (as_goto mk_45 (off := 71) (by decide +kernel) (by decide +kernel)) bs_go : bz_ok true 45 76 (bz_go 147)),
  List.forall_mem_cons.mpr ⟨(bz_of (A := aa_ldi 2 80) (as_iload_n mk_45 (k := 2) (by decide +kernel) rfl rfl) bs_ldi : bz_ok true 45 79 (bz_ldi 2 80)),
  fun _ h => absurd h List.not_mem_nil⟩⟩⟩⟩⟩⟩⟩⟩
theorem bd_45_5 : ∀ q ∈ ([(80, bz_pu (.inl 45) 82), (82, bz_icmp bh_eq 85 113), (85, bz_lda 0 86), (86, bz_ldi 1 87), (87, bz_ccv 46 1 2 3 1 90), (90, bz_if bh_eq0 147 93), (93, bz_lda 0 94), (94, bz_ldi 1 95)] : List (Nat × bz_Op)), bz_ok true 45 q.1 q.2 :=
  List.forall_mem_cons.mpr ⟨(bz_of (A := aa_pu (.int 45) 82) (as_bipush mk_45 (n := 45) (by decide +kernel) (by decide +kernel) rfl) (bs_pu rfl) : bz_ok true 45 80 (bz_pu (.inl 45) 82)),
  List.forall_mem_cons.mpr ⟨(bz_of (A := aa_icmp (fun x y => x = y) 85 113) (as_icmp_ne mk_45 (off := 31) (by decide +kernel) (by decide +kernel) rfl) (bs_icmp bh_eq_ok) : bz_ok true 45 82 (bz_icmp bh_eq 85 113)),
  List.forall_mem_cons.mpr ⟨(bz_of (A := aa_lda 0 86) (as_aload_n mk_45 (k := 0) (by decide +kernel) rfl rfl) bs_lda : bz_ok true 45 85 (bz_lda 0 86)),
  List.forall_mem_cons.mpr ⟨(bz_of (A := aa_ldi 1 87) (as_iload_n mk_45 (k := 1) (by decide +kernel) rfl rfl) bs_ldi : bz_ok true 45 86 (bz_ldi 1 87)),
  List.forall_mem_cons.mpr ⟨(bz_of (A := aa_ccv 46 1 2 3 aa_kI 90) (as_ccv mk_45 (ix := 141) aa_kI_ok (by decide +kernel) (cx_RX3_141 rfl) rfl) (bs_ccv bz_k1) : bz_ok true 45 87 (bz_ccv 46 1 2 3 1 90)),
  List.forall_mem_cons.mpr ⟨(bz_of (A := aa_if (fun x => x = 0) 147 93) (as_if_eq mk_45 (off := 57) (by decide +kernel) (by decide +kernel) rfl) (bs_if bh_eq0_ok) : bz_ok true 45 90 (bz_if bh_eq0 147 93)),
  List.forall_mem_cons.mpr ⟨(bz_of (A := aa_lda 0 94) (as_aload_n mk_45 (k := 0) (by decide +kernel) rfl rfl) bs_lda : bz_ok true 45 93 (bz_lda 0 94)),
  List.forall_mem_cons.mpr ⟨(bz_of (A := aa_ldi 1 95) (as_iload_n mk_45 (k := 1) (by decide +kernel) rfl rfl) bs_ldi : bz_ok true 45 94 (bz_ldi 1 95)),
  fun _ h => absurd h List.not_mem_nil⟩⟩⟩⟩⟩⟩⟩⟩
theorem bd_45_6 : ∀ q ∈ ([(95, bz_pu (.inl 1) 96), (96, bz_bin bh_add 97), (97, bz_ccv 45 1 3 3 0 100), (100, bz_lda 0 101), (101, bz_gC 3 8 104), (104, bz_pu (.inl 20001) 107), (107, bz_ccv 70 1 2 6 0 110), (110, bz_go 147)] : List (Nat × bz_Op)), bz_ok true 45 q.1 q.2 :=
  List.forall_mem_cons.mpr ⟨(bz_of (A := aa_pu (.int 1) 96) (as_iconst mk_45 (n := 1) (by decide +kernel) (by decide +kernel) rfl) (bs_pu rfl) : bz_ok true 45 95 (bz_pu (.inl 1) 96)),
  List.forall_mem_cons.mpr ⟨(bz_of (A := aa_bin (fun x y => x + y) 97) (as_iadd mk_45 (by decide +kernel) rfl) (bs_bin bh_add_ok) : bz_ok true 45 96 (bz_bin bh_add 97)),
  List.forall_mem_cons.mpr ⟨(bz_of (A := aa_ccv 45 1 3 3 aa_kV 100) (as_ccv mk_45 (ix := 151) aa_kV_ok (by decide +kernel) (cx_RX3_151 rfl) rfl) (bs_ccv bz_k0) : bz_ok true 45 97 (bz_ccv 45 1 3 3 0 100)),
  List.forall_mem_cons.mpr ⟨(bz_of (A := aa_lda 0 101) (as_aload_n mk_45 (k := 0) (by decide +kernel) rfl rfl) bs_lda : bz_ok true 45 100 (bz_lda 0 101)),
  List.forall_mem_cons.mpr ⟨(bz_of (A := aa_gC 3 8 104) (as_gC mk_45 (ix := 48) (by decide +kernel) (fd_RX3_48 rfl) rfl) bs_gC : bz_ok true 45 101 (bz_gC 3 8 104)),
  List.forall_mem_cons.mpr ⟨(bz_of (A := aa_pu (.int 20001) 107) (as_sipush mk_45 (n := 20001) (by decide +kernel) (by decide +kernel) rfl) (bs_pu rfl) : bz_ok true 45 104 (bz_pu (.inl 20001) 107)),
  List.forall_mem_cons.mpr ⟨(bz_of (A := aa_ccu 70 1 2 6 aa_kV 110) (as_ccu mk_45 (ix := 135) aa_kV_ok (by decide +kernel) (cx_RX3_135 rfl) rfl) (bs_ccu bz_k0) : bz_ok true 45 107 (bz_ccv 70 1 2 6 0 110)),
  List.forall_mem_cons.mpr ⟨(bz_of (A := aa_go 147) (as_goto mk_45 (off := 37) (by decide +kernel) (by decide +kernel)) bs_go : bz_ok true 45 110 (bz_go 147)),
  fun _ h => absurd h List.not_mem_nil⟩⟩⟩⟩⟩⟩⟩⟩
theorem bd_45_7 : ∀ q ∈ ([(113, bz_ldi 2 114), (114, bz_pu (.inl 40) 116), (116, bz_icmp bh_eq 119 143), (119, bz_lda 0 120), (120, bz_ldi 1 121), (121, bz_ccv 46 1 2 3 1 124), (124, bz_if bh_eq0 147 127), (127, bz_lda 0 128)] : List (Nat × bz_Op)), bz_ok true 45 q.1 q.2 :=
  List.forall_mem_cons.mpr ⟨(bz_of (A := aa_ldi 2 114) (as_iload_n mk_45 (k := 2) (by decide +kernel) rfl rfl) bs_ldi : bz_ok true 45 113 (bz_ldi 2 114)),
  List.forall_mem_cons.mpr ⟨(bz_of (A := aa_pu (.int 40) 116) (as_bipush mk_45 (n := 40) (by decide +kernel) (by decide +kernel) rfl) (bs_pu rfl) : bz_ok true 45 114 (bz_pu (.inl 40) 116)),
  List.forall_mem_cons.mpr ⟨(bz_of (A := aa_icmp (fun x y => x = y) 119 143) (as_icmp_ne mk_45 (off := 27) (by decide +kernel) (by decide +kernel) rfl) (bs_icmp bh_eq_ok) : bz_ok true 45 116 (bz_icmp bh_eq 119 143)),
  List.forall_mem_cons.mpr ⟨(bz_of (A := aa_lda 0 120) (as_aload_n mk_45 (k := 0) (by decide +kernel) rfl rfl) bs_lda : bz_ok true 45 119 (bz_lda 0 120)),
  List.forall_mem_cons.mpr ⟨(bz_of (A := aa_ldi 1 121) (as_iload_n mk_45 (k := 1) (by decide +kernel) rfl rfl) bs_ldi : bz_ok true 45 120 (bz_ldi 1 121)),
  List.forall_mem_cons.mpr ⟨(bz_of (A := aa_ccv 46 1 2 3 aa_kI 124) (as_ccv mk_45 (ix := 141) aa_kI_ok (by decide +kernel) (cx_RX3_141 rfl) rfl) (bs_ccv bz_k1) : bz_ok true 45 121 (bz_ccv 46 1 2 3 1 124)),
  List.forall_mem_cons.mpr ⟨(bz_of (A := aa_if (fun x => x = 0) 147 127) (as_if_eq mk_45 (off := 23) (by decide +kernel) (by decide +kernel) rfl) (bs_if bh_eq0_ok) : bz_ok true 45 124 (bz_if bh_eq0 147 127)),
  List.forall_mem_cons.mpr ⟨(bz_of (A := aa_lda 0 128) (as_aload_n mk_45 (k := 0) (by decide +kernel) rfl rfl) bs_lda : bz_ok true 45 127 (bz_lda 0 128)),
  fun _ h => absurd h List.not_mem_nil⟩⟩⟩⟩⟩⟩⟩⟩
theorem bd_45_8 : ∀ q ∈ ([(128, bz_ldi 1 129), (129, bz_pu (.inl 1) 130), (130, bz_bin bh_add 131), (131, bz_ccv 40 1 3 3 0 134), (134, bz_lda 0 135), (135, bz_pu (.inl 41) 137), (137, bz_ccv 39 1 2 3 0 140), (140, bz_go 147)] : List (Nat × bz_Op)), bz_ok true 45 q.1 q.2 :=
  List.forall_mem_cons.mpr ⟨(bz_of (A := aa_ldi 1 129) (as_iload_n mk_45 (k := 1) (by decide +kernel) rfl rfl) bs_ldi : bz_ok true 45 128 (bz_ldi 1 129)),
  List.forall_mem_cons.mpr ⟨(bz_of (A := aa_pu (.int 1) 130) (as_iconst mk_45 (n := 1) (by decide +kernel) (by decide +kernel) rfl) (bs_pu rfl) : bz_ok true 45 129 (bz_pu (.inl 1) 130)),
  List.forall_mem_cons.mpr ⟨(bz_of (A := aa_bin (fun x y => x + y) 131) (as_iadd mk_45 (by decide +kernel) rfl) (bs_bin bh_add_ok) : bz_ok true 45 130 (bz_bin bh_add 131)),
  List.forall_mem_cons.mpr ⟨(bz_of (A := aa_ccv 40 1 3 3 aa_kV 134) (as_ccv mk_45 (ix := 61) aa_kV_ok (by decide +kernel) (cx_RX3_61 rfl) rfl) (bs_ccv bz_k0) : bz_ok true 45 131 (bz_ccv 40 1 3 3 0 134)),
  List.forall_mem_cons.mpr ⟨(bz_of (A := aa_lda 0 135) (as_aload_n mk_45 (k := 0) (by decide +kernel) rfl rfl) bs_lda : bz_ok true 45 134 (bz_lda 0 135)),
  List.forall_mem_cons.mpr ⟨(bz_of (A := aa_pu (.int 41) 137) (as_bipush mk_45 (n := 41) (by decide +kernel) (by decide +kernel) rfl) (bs_pu rfl) : bz_ok true 45 135 (bz_pu (.inl 41) 137)),
  List.forall_mem_cons.mpr ⟨(bz_of (A := aa_ccv 39 1 2 3 aa_kV 140) (as_ccv mk_45 (ix := 57) aa_kV_ok (by decide +kernel) (cx_RX3_57 rfl) rfl) (bs_ccv bz_k0) : bz_ok true 45 137 (bz_ccv 39 1 2 3 0 140)),
  List.forall_mem_cons.mpr ⟨(bz_of (A := aa_go 147) (as_goto mk_45 (off := 7) (by decide +kernel) (by decide +kernel)) bs_go : bz_ok true 45 140 (bz_go 147)),
  fun _ h => absurd h List.not_mem_nil⟩⟩⟩⟩⟩⟩⟩⟩
theorem bd_45_9 : ∀ q ∈ ([(143, bz_lda 0 144), (144, bz_ccv 38 0 1 3 0 147), (147, bz_retv)] : List (Nat × bz_Op)), bz_ok true 45 q.1 q.2 :=
  List.forall_mem_cons.mpr ⟨(bz_of (A := aa_lda 0 144) (as_aload_n mk_45 (k := 0) (by decide +kernel) rfl rfl) bs_lda : bz_ok true 45 143 (bz_lda 0 144)),
  List.forall_mem_cons.mpr ⟨(bz_of (A := aa_ccv 38 0 1 3 aa_kV 147) (as_ccv mk_45 (ix := 70) aa_kV_ok (by decide +kernel) (cx_RX3_70 rfl) rfl) (bs_ccv bz_k0) : bz_ok true 45 144 (bz_ccv 38 0 1 3 0 147)),
  List.forall_mem_cons.mpr ⟨(bz_of (A := aa_retv) (as_vret mk_45 (by decide +kernel) rfl) bs_retv : bz_ok true 45 147 (bz_retv)),
  fun _ h => absurd h List.not_mem_nil⟩⟩⟩
theorem bd_45_ok : bz_tk true 45 bd_45 :=
  List.forall_mem_cons.mpr ⟨bd_45_0,
  List.forall_mem_cons.mpr ⟨bd_45_1,
  List.forall_mem_cons.mpr ⟨bd_45_2,
  List.forall_mem_cons.mpr ⟨bd_45_3,
  List.forall_mem_cons.mpr ⟨bd_45_4,
  List.forall_mem_cons.mpr ⟨bd_45_5,
  List.forall_mem_cons.mpr ⟨bd_45_6,
  List.forall_mem_cons.mpr ⟨bd_45_7,
  List.forall_mem_cons.mpr ⟨bd_45_8,
  List.forall_mem_cons.mpr ⟨bd_45_9,
  fun _ h => absurd h List.not_mem_nil⟩⟩⟩⟩⟩⟩⟩⟩⟩⟩
def bd_54 : bz_T := [(11, [(0, bz_pu (.inl 0) 1), (1, bz_sti 3 2), (2, bz_ldi 3 3), (3, bz_pu (.inl 8) 5), (5, bz_icmp bh_lt 8 76), (8, bz_pu (.inl 0) 9), (9, bz_sti 4 11), (11, bz_ldi 4 13)]), (24, [(13, bz_pu (.inl 8) 15), (15, bz_icmp bh_lt 18 70), (18, bz_lda 1 19), (19, bz_ldi 3 20), (20, bz_ar 103 21), (21, bz_ldi 4 23), (23, bz_ldi 3 24), (24, bz_ldi 4 26)]), (39, [(26, bz_icmp bh_eq 29 33), (29, bz_pu (.inl 0) 30), (30, bz_go 63), (33, bz_lda 0 34), (34, bz_gR 4 0 37), (37, bz_ldi 3 38), (38, bz_ar 103 39), (39, bz_ldi 4 41)]), (56, [(41, bz_al 100 42), (42, bz_pu (.inl 99) 44), (44, bz_icmp bh_eq 47 52), (47, bz_pu (.inl 99) 49), (49, bz_go 63), (52, bz_lda 0 53), (53, bz_gR 4 0 56), (56, bz_ldi 3 57)]), (67, [(57, bz_ar 103 58), (58, bz_ldi 4 60), (60, bz_al 100 61), (61, bz_ldi 2 62), (62, bz_bin bh_add 63), (63, bz_as 100 bh_id 64), (64, bz_inc 4 1 67), (67, bz_go 11)]), (84, [(70, bz_inc 3 1 73), (73, bz_go 2), (76, bz_pu (.inl 0) 77), (77, bz_sti 3 78), (78, bz_ldi 3 79), (79, bz_pu (.inl 8) 81), (81, bz_icmp bh_lt 84 152), (84, bz_pu (.inl 0) 85)]), (99, [(85, bz_sti 4 87), (87, bz_ldi 4 89), (89, bz_pu (.inl 8) 91), (91, bz_icmp bh_lt 94 146), (94, bz_pu (.inl 0) 95), (95, bz_sti 5 97), (97, bz_ldi 5 99), (99, bz_pu (.inl 8) 101)]), (113, [(101, bz_icmp bh_lt 104 140), (104, bz_lda 1 105), (105, bz_ldi 4 107), (107, bz_ar 103 108), (108, bz_ldi 5 110), (110, bz_lda 1 111), (111, bz_ldi 4 113), (113, bz_ar 103 114)]), (123, [(114, bz_ldi 5 116), (116, bz_al 100 117), (117, bz_lda 1 118), (118, bz_ldi 4 120), (120, bz_ar 103 121), (121, bz_ldi 3 122), (122, bz_al 100 123), (123, bz_lda 1 124)]), (134, [(124, bz_ldi 3 125), (125, bz_ar 103 126), (126, bz_ldi 5 128), (128, bz_al 100 129), (129, bz_bin bh_add 130), (130, bz_mm bh_min 133), (133, bz_as 100 bh_id 134), (134, bz_inc 5 1 137)]), (152, [(137, bz_go 97), (140, bz_inc 4 1 143), (143, bz_go 87), (146, bz_inc 3 1 149), (149, bz_go 78), (152, bz_retv)])]
theorem bd_54_0 : ∀ q ∈ ([(0, bz_pu (.inl 0) 1), (1, bz_sti 3 2), (2, bz_ldi 3 3), (3, bz_pu (.inl 8) 5), (5, bz_icmp bh_lt 8 76), (8, bz_pu (.inl 0) 9), (9, bz_sti 4 11), (11, bz_ldi 4 13)] : List (Nat × bz_Op)), bz_ok true 54 q.1 q.2 :=
  List.forall_mem_cons.mpr ⟨(bz_of (A := aa_pu (.int 0) 1) (as_iconst mk_54 (n := 0) (by decide +kernel) (by decide +kernel) rfl) (bs_pu rfl) : bz_ok true 54 0 (bz_pu (.inl 0) 1)),
  List.forall_mem_cons.mpr ⟨(bz_of (A := aa_sti 3 2) (as_istore_n mk_54 (k := 3) (by decide +kernel) rfl (by decide) rfl) bs_sti : bz_ok true 54 1 (bz_sti 3 2)),
  List.forall_mem_cons.mpr ⟨(bz_of (A := aa_ldi 3 3) (as_iload_n mk_54 (k := 3) (by decide +kernel) rfl rfl) bs_ldi : bz_ok true 54 2 (bz_ldi 3 3)),
  List.forall_mem_cons.mpr ⟨(bz_of (A := aa_pu (.int 8) 5) (as_bipush mk_54 (n := 8) (by decide +kernel) (by decide +kernel) rfl) (bs_pu rfl) : bz_ok true 54 3 (bz_pu (.inl 8) 5)),
  List.forall_mem_cons.mpr ⟨(bz_of (A := aa_icmp (fun x y => x < y) 8 76) (as_icmp_ge mk_54 (off := 71) (by decide +kernel) (by decide +kernel) rfl) (bs_icmp bh_lt_ok) : bz_ok true 54 5 (bz_icmp bh_lt 8 76)),
  List.forall_mem_cons.mpr ⟨(bz_of (A := aa_pu (.int 0) 9) (as_iconst mk_54 (n := 0) (by decide +kernel) (by decide +kernel) rfl) (bs_pu rfl) : bz_ok true 54 8 (bz_pu (.inl 0) 9)),
  List.forall_mem_cons.mpr ⟨(bz_of (A := aa_sti 4 11) (as_istore mk_54 (by decide +kernel) (by decide) rfl) bs_sti : bz_ok true 54 9 (bz_sti 4 11)),
  List.forall_mem_cons.mpr ⟨(bz_of (A := aa_ldi 4 13) (as_iload mk_54 (by decide +kernel) rfl) bs_ldi : bz_ok true 54 11 (bz_ldi 4 13)),
  fun _ h => absurd h List.not_mem_nil⟩⟩⟩⟩⟩⟩⟩⟩
theorem bd_54_1 : ∀ q ∈ ([(13, bz_pu (.inl 8) 15), (15, bz_icmp bh_lt 18 70), (18, bz_lda 1 19), (19, bz_ldi 3 20), (20, bz_ar 103 21), (21, bz_ldi 4 23), (23, bz_ldi 3 24), (24, bz_ldi 4 26)] : List (Nat × bz_Op)), bz_ok true 54 q.1 q.2 :=
  List.forall_mem_cons.mpr ⟨(bz_of (A := aa_pu (.int 8) 15) (as_bipush mk_54 (n := 8) (by decide +kernel) (by decide +kernel) rfl) (bs_pu rfl) : bz_ok true 54 13 (bz_pu (.inl 8) 15)),
  List.forall_mem_cons.mpr ⟨(bz_of (A := aa_icmp (fun x y => x < y) 18 70) (as_icmp_ge mk_54 (off := 55) (by decide +kernel) (by decide +kernel) rfl) (bs_icmp bh_lt_ok) : bz_ok true 54 15 (bz_icmp bh_lt 18 70)),
  List.forall_mem_cons.mpr ⟨(bz_of (A := aa_lda 1 19) (as_aload_n mk_54 (k := 1) (by decide +kernel) rfl rfl) bs_lda : bz_ok true 54 18 (bz_lda 1 19)),
  List.forall_mem_cons.mpr ⟨(bz_of (A := aa_ldi 3 20) (as_iload_n mk_54 (k := 3) (by decide +kernel) rfl rfl) bs_ldi : bz_ok true 54 19 (bz_ldi 3 20)),
  List.forall_mem_cons.mpr ⟨(bz_of (A := aa_ar_ 103 21) (as_ar_ mk_54 (Or.inr rfl) (by decide +kernel) rfl) bs_ar : bz_ok true 54 20 (bz_ar 103 21)),
  List.forall_mem_cons.mpr ⟨(bz_of (A := aa_ldi 4 23) (as_iload mk_54 (by decide +kernel) rfl) bs_ldi : bz_ok true 54 21 (bz_ldi 4 23)),
  List.forall_mem_cons.mpr ⟨(bz_of (A := aa_ldi 3 24) (as_iload_n mk_54 (k := 3) (by decide +kernel) rfl rfl) bs_ldi : bz_ok true 54 23 (bz_ldi 3 24)),
  List.forall_mem_cons.mpr ⟨(bz_of (A := aa_ldi 4 26) (as_iload mk_54 (by decide +kernel) rfl) bs_ldi : bz_ok true 54 24 (bz_ldi 4 26)),
  fun _ h => absurd h List.not_mem_nil⟩⟩⟩⟩⟩⟩⟩⟩
theorem bd_54_2 : ∀ q ∈ ([(26, bz_icmp bh_eq 29 33), (29, bz_pu (.inl 0) 30), (30, bz_go 63), (33, bz_lda 0 34), (34, bz_gR 4 0 37), (37, bz_ldi 3 38), (38, bz_ar 103 39), (39, bz_ldi 4 41)] : List (Nat × bz_Op)), bz_ok true 54 q.1 q.2 :=
  List.forall_mem_cons.mpr ⟨(bz_of (A := aa_icmp (fun x y => x = y) 29 33) (as_icmp_ne mk_54 (off := 7) (by decide +kernel) (by decide +kernel) rfl) (bs_icmp bh_eq_ok) : bz_ok true 54 26 (bz_icmp bh_eq 29 33)),
  List.forall_mem_cons.mpr ⟨(bz_of (A := aa_pu (.int 0) 30) (as_iconst mk_54 (n := 0) (by decide +kernel) (by decide +kernel) rfl) (bs_pu rfl) : bz_ok true 54 29 (bz_pu (.inl 0) 30)),
  List.forall_mem_cons.mpr ⟨(bz_of (A := aa_go 63) (as_goto mk_54 (off := 33) (by decide +kernel) (by decide +kernel)) bs_go : bz_ok true 54 30 (bz_go 63)),
  List.forall_mem_cons.mpr ⟨(bz_of (A := aa_lda 0 34) (as_aload_n mk_54 (k := 0) (by decide +kernel) rfl rfl) bs_lda : bz_ok true 54 33 (bz_lda 0 34)),
  List.forall_mem_cons.mpr ⟨(bz_of (A := aa_gR 4 0 37) (as_gR mk_54 (ix := 11) (by decide +kernel) (fd_RX4_11 rfl) rfl) bs_gR : bz_ok true 54 34 (bz_gR 4 0 37)),
  List.forall_mem_cons.mpr ⟨(bz_of (A := aa_ldi 3 38) (as_iload_n mk_54 (k := 3) (by decide +kernel) rfl rfl) bs_ldi : bz_ok true 54 37 (bz_ldi 3 38)),
  List.forall_mem_cons.mpr ⟨(bz_of (A := aa_ar_ 103 39) (as_ar_ mk_54 (Or.inr rfl) (by decide +kernel) rfl) bs_ar : bz_ok true 54 38 (bz_ar 103 39)),
  List.forall_mem_cons.mpr ⟨(bz_of (A := aa_ldi 4 41) (as_iload mk_54 (by decide +kernel) rfl) bs_ldi : bz_ok true 54 39 (bz_ldi 4 41)),
  fun _ h => absurd h List.not_mem_nil⟩⟩⟩⟩⟩⟩⟩⟩
theorem bd_54_3 : ∀ q ∈ ([(41, bz_al 100 42), (42, bz_pu (.inl 99) 44), (44, bz_icmp bh_eq 47 52), (47, bz_pu (.inl 99) 49), (49, bz_go 63), (52, bz_lda 0 53), (53, bz_gR 4 0 56), (56, bz_ldi 3 57)] : List (Nat × bz_Op)), bz_ok true 54 q.1 q.2 :=
  List.forall_mem_cons.mpr ⟨(bz_of (A := aa_als 100 42) (as_als mk_54 (Or.inl ⟨rfl, by decide +kernel⟩) rfl) bs_als : bz_ok true 54 41 (bz_al 100 42)),
  List.forall_mem_cons.mpr ⟨(bz_of (A := aa_pu (.int 99) 44) (as_bipush mk_54 (n := 99) (by decide +kernel) (by decide +kernel) rfl) (bs_pu rfl) : bz_ok true 54 42 (bz_pu (.inl 99) 44)),
  List.forall_mem_cons.mpr ⟨(bz_of (A := aa_icmp (fun x y => x = y) 47 52) (as_icmp_ne mk_54 (off := 8) (by decide +kernel) (by decide +kernel) rfl) (bs_icmp bh_eq_ok) : bz_ok true 54 44 (bz_icmp bh_eq 47 52)),
  List.forall_mem_cons.mpr ⟨(bz_of (A := aa_pu (.int 99) 49) (as_bipush mk_54 (n := 99) (by decide +kernel) (by decide +kernel) rfl) (bs_pu rfl) : bz_ok true 54 47 (bz_pu (.inl 99) 49)),
  List.forall_mem_cons.mpr ⟨(bz_of (A := aa_go 63) (as_goto mk_54 (off := 14) (by decide +kernel) (by decide +kernel)) bs_go : bz_ok true 54 49 (bz_go 63)),
  List.forall_mem_cons.mpr ⟨(bz_of (A := aa_lda 0 53) (as_aload_n mk_54 (k := 0) (by decide +kernel) rfl rfl) bs_lda : bz_ok true 54 52 (bz_lda 0 53)),
  List.forall_mem_cons.mpr ⟨(bz_of (A := aa_gR 4 0 56) (as_gR mk_54 (ix := 11) (by decide +kernel) (fd_RX4_11 rfl) rfl) bs_gR : bz_ok true 54 53 (bz_gR 4 0 56)),
  List.forall_mem_cons.mpr ⟨(bz_of (A := aa_ldi 3 57) (as_iload_n mk_54 (k := 3) (by decide +kernel) rfl rfl) bs_ldi : bz_ok true 54 56 (bz_ldi 3 57)),
  fun _ h => absurd h List.not_mem_nil⟩⟩⟩⟩⟩⟩⟩⟩
theorem bd_54_4 : ∀ q ∈ ([(57, bz_ar 103 58), (58, bz_ldi 4 60), (60, bz_al 100 61), (61, bz_ldi 2 62), (62, bz_bin bh_add 63), (63, bz_as 100 bh_id 64), (64, bz_inc 4 1 67), (67, bz_go 11)] : List (Nat × bz_Op)), bz_ok true 54 q.1 q.2 :=
  List.forall_mem_cons.mpr ⟨(bz_of (A := aa_ar_ 103 58) (as_ar_ mk_54 (Or.inr rfl) (by decide +kernel) rfl) bs_ar : bz_ok true 54 57 (bz_ar 103 58)),
  List.forall_mem_cons.mpr ⟨(bz_of (A := aa_ldi 4 60) (as_iload mk_54 (by decide +kernel) rfl) bs_ldi : bz_ok true 54 58 (bz_ldi 4 60)),
  List.forall_mem_cons.mpr ⟨(bz_of (A := aa_als 100 61) (as_als mk_54 (Or.inl ⟨rfl, by decide +kernel⟩) rfl) bs_als : bz_ok true 54 60 (bz_al 100 61)),
  List.forall_mem_cons.mpr ⟨(bz_of (A := aa_ldi 2 62) (as_iload_n mk_54 (k := 2) (by decide +kernel) rfl rfl) bs_ldi : bz_ok true 54 61 (bz_ldi 2 62)),
  List.forall_mem_cons.mpr ⟨(bz_of (A := aa_bin (fun x y => x + y) 63) (as_iadd mk_54 (by decide +kernel) rfl) (bs_bin bh_add_ok) : bz_ok true 54 62 (bz_bin bh_add 63)),
  List.forall_mem_cons.mpr ⟨(bz_of (A := aa_ass 100 (fun x => x) 64) (as_ass mk_54 (Or.inl ⟨rfl, fun _ => rfl, by decide +kernel⟩) rfl) (bs_ass bh_id_ok) : bz_ok true 54 63 (bz_as 100 bh_id 64)),
  List.forall_mem_cons.mpr ⟨(bz_of (A := aa_inc 4 1 67) (as_iinc mk_54 (n := 1) (by decide +kernel) (by decide +kernel) (by decide) rfl) (bs_inc (by decide +kernel)) : bz_ok true 54 64 (bz_inc 4 1 67)),
  List.forall_mem_cons.mpr ⟨(bz_of (A := aa_go 11) (as_goto mk_54 (off := (-56)) (by decide +kernel) (by decide +kernel)) bs_go : bz_ok true 54 67 (bz_go 11)),
  fun _ h => absurd h List.not_mem_nil⟩⟩⟩⟩⟩⟩⟩⟩
theorem bd_54_5 : ∀ q ∈ ([(70, bz_inc 3 1 73), (73, bz_go 2), (76, bz_pu (.inl 0) 77), (77, bz_sti 3 78), (78, bz_ldi 3 79), (79, bz_pu (.inl 8) 81), (81, bz_icmp bh_lt 84 152), (84, bz_pu (.inl 0) 85)] : List (Nat × bz_Op)), bz_ok true 54 q.1 q.2 :=
  List.forall_mem_cons.mpr ⟨(bz_of (A := aa_inc 3 1 73) (as_iinc mk_54 (n := 1) (by decide +kernel) (by decide +kernel) (by decide) rfl) (bs_inc (by decide +kernel)) : bz_ok true 54 70 (bz_inc 3 1 73)),
  List.forall_mem_cons.mpr ⟨(bz_of (A := aa_go 2) (as_goto mk_54 (off := (-71)) (by decide +kernel) (by decide +kernel)) bs_go : bz_ok true 54 73 (bz_go 2)),
  List.forall_mem_cons.mpr ⟨(bz_of (A := aa_pu (.int 0) 77) (as_iconst mk_54 (n := 0) (by decide +kernel) (by decide +kernel) rfl) (bs_pu rfl) : bz_ok true 54 76 (bz_pu (.inl 0) 77)),
  List.forall_mem_cons.mpr ⟨(bz_of (A := aa_sti 3 78) (as_istore_n mk_54 (k := 3) (by decide +kernel) rfl (by decide) rfl) bs_sti : bz_ok true 54 77 (bz_sti 3 78)),
  List.forall_mem_cons.mpr ⟨(bz_of (A := aa_ldi 3 79) (as_iload_n mk_54 (k := 3) (by decide +kernel) rfl rfl) bs_ldi : bz_ok true 54 78 (bz_ldi 3 79)),
  List.forall_mem_cons.mpr ⟨(bz_of (A := aa_pu (.int 8) 81) (as_bipush mk_54 (n := 8) (by decide +kernel) (by decide +kernel) rfl) (bs_pu rfl) : bz_ok true 54 79 (bz_pu (.inl 8) 81)),
  List.forall_mem_cons.mpr ⟨(bz_of (A := aa_icmp (fun x y => x < y) 84 152) (as_icmp_ge mk_54 (off := 71) (by decide +kernel) (by decide +kernel) rfl) (bs_icmp bh_lt_ok) : bz_ok true 54 81 (bz_icmp bh_lt 84 152)),
  List.forall_mem_cons.mpr ⟨(bz_of (A := aa_pu (.int 0) 85) (as_iconst mk_54 (n := 0) (by decide +kernel) (by decide +kernel) rfl) (bs_pu rfl) : bz_ok true 54 84 (bz_pu (.inl 0) 85)),
  fun _ h => absurd h List.not_mem_nil⟩⟩⟩⟩⟩⟩⟩⟩
theorem bd_54_6 : ∀ q ∈ ([(85, bz_sti 4 87), (87, bz_ldi 4 89), (89, bz_pu (.inl 8) 91), (91, bz_icmp bh_lt 94 146), (94, bz_pu (.inl 0) 95), (95, bz_sti 5 97), (97, bz_ldi 5 99), (99, bz_pu (.inl 8) 101)] : List (Nat × bz_Op)), bz_ok true 54 q.1 q.2 :=
  List.forall_mem_cons.mpr ⟨(bz_of (A := aa_sti 4 87) (as_istore mk_54 (by decide +kernel) (by decide) rfl) bs_sti : bz_ok true 54 85 (bz_sti 4 87)),
  List.forall_mem_cons.mpr ⟨(bz_of (A := aa_ldi 4 89) (as_iload mk_54 (by decide +kernel) rfl) bs_ldi : bz_ok true 54 87 (bz_ldi 4 89)),
  List.forall_mem_cons.mpr ⟨(bz_of (A := aa_pu (.int 8) 91) (as_bipush mk_54 (n := 8) (by decide +kernel) (by decide +kernel) rfl) (bs_pu rfl) : bz_ok true 54 89 (bz_pu (.inl 8) 91)),
  List.forall_mem_cons.mpr ⟨(bz_of (A := aa_icmp (fun x y => x < y) 94 146) (as_icmp_ge mk_54 (off := 55) (by decide +kernel) (by decide +kernel) rfl) (bs_icmp bh_lt_ok) : bz_ok true 54 91 (bz_icmp bh_lt 94 146)),
  List.forall_mem_cons.mpr ⟨(bz_of (A := aa_pu (.int 0) 95) (as_iconst mk_54 (n := 0) (by decide +kernel) (by decide +kernel) rfl) (bs_pu rfl) : bz_ok true 54 94 (bz_pu (.inl 0) 95)),
  List.forall_mem_cons.mpr ⟨(bz_of (A := aa_sti 5 97) (as_istore mk_54 (by decide +kernel) (by decide) rfl) bs_sti : bz_ok true 54 95 (bz_sti 5 97)),
  List.forall_mem_cons.mpr ⟨(bz_of (A := aa_ldi 5 99) (as_iload mk_54 (by decide +kernel) rfl) bs_ldi : bz_ok true 54 97 (bz_ldi 5 99)),
  List.forall_mem_cons.mpr ⟨(bz_of (A := aa_pu (.int 8) 101) (as_bipush mk_54 (n := 8) (by decide +kernel) (by decide +kernel) rfl) (bs_pu rfl) : bz_ok true 54 99 (bz_pu (.inl 8) 101)),
  fun _ h => absurd h List.not_mem_nil⟩⟩⟩⟩⟩⟩⟩⟩
theorem bd_54_7 : ∀ q ∈ ([(101, bz_icmp bh_lt 104 140), (104, bz_lda 1 105), (105, bz_ldi 4 107), (107, bz_ar 103 108), (108, bz_ldi 5 110), (110, bz_lda 1 111), (111, bz_ldi 4 113), (113, bz_ar 103 114)] : List (Nat × bz_Op)), bz_ok true 54 q.1 q.2 :=
  List.forall_mem_cons.mpr ⟨(bz_of (A := aa_icmp (fun x y => x < y) 104 140) (as_icmp_ge mk_54 (off := 39) (by decide +kernel) (by decide +kernel) rfl) (bs_icmp bh_lt_ok) : bz_ok true 54 101 (bz_icmp bh_lt 104 140)),
  List.forall_mem_cons.mpr ⟨(bz_of (A := aa_lda 1 105) (as_aload_n mk_54 (k := 1) (by decide +kernel) rfl rfl) bs_lda : bz_ok true 54 104 (bz_lda 1 105)),
  List.forall_mem_cons.mpr ⟨(bz_of (A := aa_ldi 4 107) (as_iload mk_54 (by decide +kernel) rfl) bs_ldi : bz_ok true 54 105 (bz_ldi 4 107)),
  List.forall_mem_cons.mpr ⟨(bz_of (A := aa_ar_ 103 108) (as_ar_ mk_54 (Or.inr rfl) (by decide +kernel) rfl) bs_ar : bz_ok true 54 107 (bz_ar 103 108)),
  List.forall_mem_cons.mpr ⟨(bz_of (A := aa_ldi 5 110) (as_iload mk_54 (by decide +kernel) rfl) bs_ldi : bz_ok true 54 108 (bz_ldi 5 110)),
  List.forall_mem_cons.mpr ⟨(bz_of (A := aa_lda 1 111) (as_aload_n mk_54 (k := 1) (by decide +kernel) rfl rfl) bs_lda : bz_ok true 54 110 (bz_lda 1 111)),
  List.forall_mem_cons.mpr ⟨(bz_of (A := aa_ldi 4 113) (as_iload mk_54 (by decide +kernel) rfl) bs_ldi : bz_ok true 54 111 (bz_ldi 4 113)),
  List.forall_mem_cons.mpr ⟨(bz_of (A := aa_ar_ 103 114) (as_ar_ mk_54 (Or.inr rfl) (by decide +kernel) rfl) bs_ar : bz_ok true 54 113 (bz_ar 103 114)),
  fun _ h => absurd h List.not_mem_nil⟩⟩⟩⟩⟩⟩⟩⟩
theorem bd_54_8 : ∀ q ∈ ([(114, bz_ldi 5 116), (116, bz_al 100 117), (117, bz_lda 1 118), (118, bz_ldi 4 120), (120, bz_ar 103 121), (121, bz_ldi 3 122), (122, bz_al 100 123), (123, bz_lda 1 124)] : List (Nat × bz_Op)), bz_ok true 54 q.1 q.2 :=
  List.forall_mem_cons.mpr ⟨(bz_of (A := aa_ldi 5 116) (as_iload mk_54 (by decide +kernel) rfl) bs_ldi : bz_ok true 54 114 (bz_ldi 5 116)),
  List.forall_mem_cons.mpr ⟨(bz_of (A := aa_als 100 117) (as_als mk_54 (Or.inl ⟨rfl, by decide +kernel⟩) rfl) bs_als : bz_ok true 54 116 (bz_al 100 117)),
  List.forall_mem_cons.mpr ⟨(bz_of (A := aa_lda 1 118) (as_aload_n mk_54 (k := 1) (by decide +kernel) rfl rfl) bs_lda : bz_ok true 54 117 (bz_lda 1 118)),
  List.forall_mem_cons.mpr ⟨(bz_of (A := aa_ldi 4 120) (as_iload mk_54 (by decide +kernel) rfl) bs_ldi : bz_ok true 54 118 (bz_ldi 4 120)),
  List.forall_mem_cons.mpr ⟨(bz_of (A := aa_ar_ 103 121) (as_ar_ mk_54 (Or.inr rfl) (by decide +kernel) rfl) bs_ar : bz_ok true 54 120 (bz_ar 103 121)),
  List.forall_mem_cons.mpr ⟨(bz_of (A := aa_ldi 3 122) (as_iload_n mk_54 (k := 3) (by decide +kernel) rfl rfl) bs_ldi : bz_ok true 54 121 (bz_ldi 3 122)),
  List.forall_mem_cons.mpr ⟨(bz_of (A := aa_als 100 123) (as_als mk_54 (Or.inl ⟨rfl, by decide +kernel⟩) rfl) bs_als : bz_ok true 54 122 (bz_al 100 123)),
  List.forall_mem_cons.mpr ⟨(bz_of (A := aa_lda 1 124) (as_aload_n mk_54 (k := 1) (by decide +kernel) rfl rfl) bs_lda : bz_ok true 54 123 (bz_lda 1 124)),
  fun _ h => absurd h List.not_mem_nil⟩⟩⟩⟩⟩⟩⟩⟩
theorem bd_54_9 : ∀ q ∈ ([(124, bz_ldi 3 125), (125, bz_ar 103 126), (126, bz_ldi 5 128), (128, bz_al 100 129), (129, bz_bin bh_add 130), (130, bz_mm bh_min 133), (133, bz_as 100 bh_id 134), (134, bz_inc 5 1 137)] : List (Nat × bz_Op)), bz_ok true 54 q.1 q.2 :=
  List.forall_mem_cons.mpr ⟨(bz_of (A := aa_ldi 3 125) (as_iload_n mk_54 (k := 3) (by decide +kernel) rfl rfl) bs_ldi : bz_ok true 54 124 (bz_ldi 3 125)),
  List.forall_mem_cons.mpr ⟨(bz_of (A := aa_ar_ 103 126) (as_ar_ mk_54 (Or.inr rfl) (by decide +kernel) rfl) bs_ar : bz_ok true 54 125 (bz_ar 103 126)),
  List.forall_mem_cons.mpr ⟨(bz_of (A := aa_ldi 5 128) (as_iload mk_54 (by decide +kernel) rfl) bs_ldi : bz_ok true 54 126 (bz_ldi 5 128)),
  List.forall_mem_cons.mpr ⟨(bz_of (A := aa_als 100 129) (as_als mk_54 (Or.inl ⟨rfl, by decide +kernel⟩) rfl) bs_als : bz_ok true 54 128 (bz_al 100 129)),
  List.forall_mem_cons.mpr ⟨(bz_of (A := aa_bin (fun x y => x + y) 130) (as_iadd mk_54 (by decide +kernel) rfl) (bs_bin bh_add_ok) : bz_ok true 54 129 (bz_bin bh_add 130)),
  List.forall_mem_cons.mpr ⟨(bz_of (A := aa_mm (fun x y => if y < x then y else x) 133) (as_mmin mk_54 (ix := 44) (by decide +kernel) mw_RX4_44 rfl) (bs_mm bh_min_ok) : bz_ok true 54 130 (bz_mm bh_min 133)),
  List.forall_mem_cons.mpr ⟨(bz_of (A := aa_ass 100 (fun x => x) 134) (as_ass mk_54 (Or.inl ⟨rfl, fun _ => rfl, by decide +kernel⟩) rfl) (bs_ass bh_id_ok) : bz_ok true 54 133 (bz_as 100 bh_id 134)),
  List.forall_mem_cons.mpr ⟨(bz_of (A := aa_inc 5 1 137) (as_iinc mk_54 (n := 1) (by decide +kernel) (by decide +kernel) (by decide) rfl) (bs_inc (by decide +kernel)) : bz_ok true 54 134 (bz_inc 5 1 137)),
  fun _ h => absurd h List.not_mem_nil⟩⟩⟩⟩⟩⟩⟩⟩
theorem bd_54_10 : ∀ q ∈ ([(137, bz_go 97), (140, bz_inc 4 1 143), (143, bz_go 87), (146, bz_inc 3 1 149), (149, bz_go 78), (152, bz_retv)] : List (Nat × bz_Op)), bz_ok true 54 q.1 q.2 :=
  List.forall_mem_cons.mpr ⟨(bz_of (A := aa_go 97) (as_goto mk_54 (off := (-40)) (by decide +kernel) (by decide +kernel)) bs_go : bz_ok true 54 137 (bz_go 97)),
  List.forall_mem_cons.mpr ⟨(bz_of (A := aa_inc 4 1 143) (as_iinc mk_54 (n := 1) (by decide +kernel) (by decide +kernel) (by decide) rfl) (bs_inc (by decide +kernel)) : bz_ok true 54 140 (bz_inc 4 1 143)),
  List.forall_mem_cons.mpr ⟨(bz_of (A := aa_go 87) (as_goto mk_54 (off := (-56)) (by decide +kernel) (by decide +kernel)) bs_go : bz_ok true 54 143 (bz_go 87)),
  List.forall_mem_cons.mpr ⟨(bz_of (A := aa_inc 3 1 149) (as_iinc mk_54 (n := 1) (by decide +kernel) (by decide +kernel) (by decide) rfl) (bs_inc (by decide +kernel)) : bz_ok true 54 146 (bz_inc 3 1 149)),
  List.forall_mem_cons.mpr ⟨(bz_of (A := aa_go 78) (as_goto mk_54 (off := (-71)) (by decide +kernel) (by decide +kernel)) bs_go : bz_ok true 54 149 (bz_go 78)),
  List.forall_mem_cons.mpr ⟨(bz_of (A := aa_retv) (as_vret mk_54 (by decide +kernel) rfl) bs_retv : bz_ok true 54 152 (bz_retv)),
  fun _ h => absurd h List.not_mem_nil⟩⟩⟩⟩⟩⟩
theorem bd_54_ok : bz_tk true 54 bd_54 :=
  List.forall_mem_cons.mpr ⟨bd_54_0,
  List.forall_mem_cons.mpr ⟨bd_54_1,
  List.forall_mem_cons.mpr ⟨bd_54_2,
  List.forall_mem_cons.mpr ⟨bd_54_3,
  List.forall_mem_cons.mpr ⟨bd_54_4,
  List.forall_mem_cons.mpr ⟨bd_54_5,
  List.forall_mem_cons.mpr ⟨bd_54_6,
  List.forall_mem_cons.mpr ⟨bd_54_7,
  List.forall_mem_cons.mpr ⟨bd_54_8,
  List.forall_mem_cons.mpr ⟨bd_54_9,
  List.forall_mem_cons.mpr ⟨bd_54_10,
  fun _ h => absurd h List.not_mem_nil⟩⟩⟩⟩⟩⟩⟩⟩⟩⟩⟩
def bd_68 : bz_T := [(10, [(0, bz_lda 0 1), (1, bz_pu (.inl 0) 2), (2, bz_pI 6 2 5), (5, bz_lda 0 6), (6, bz_pu (.inl 0) 7), (7, bz_pI 6 3 10), (10, bz_retv)])]
theorem bd_68_0 : ∀ q ∈ ([(0, bz_lda 0 1), (1, bz_pu (.inl 0) 2), (2, bz_pI 6 2 5), (5, bz_lda 0 6), (6, bz_pu (.inl 0) 7), (7, bz_pI 6 3 10), (10, bz_retv)] : List (Nat × bz_Op)), bz_ok true 68 q.1 q.2 :=
  List.forall_mem_cons.mpr ⟨(bz_of (A := aa_lda 0 1) (as_aload_n mk_68 (k := 0) (by decide +kernel) rfl rfl) bs_lda : bz_ok true 68 0 (bz_lda 0 1)),
  List.forall_mem_cons.mpr ⟨(bz_of (A := aa_pu (.int 0) 2) (as_iconst mk_68 (n := 0) (by decide +kernel) (by decide +kernel) rfl) (bs_pu rfl) : bz_ok true 68 1 (bz_pu (.inl 0) 2)),
  List.forall_mem_cons.mpr ⟨(bz_of (A := aa_pIs 6 2 5) (as_pIs mk_68 (ix := 18) (by decide +kernel) (fd_RX6_18 rfl) pt_6_2 rfl) bs_pIs : bz_ok true 68 2 (bz_pI 6 2 5)),
  List.forall_mem_cons.mpr ⟨(bz_of (A := aa_lda 0 6) (as_aload_n mk_68 (k := 0) (by decide +kernel) rfl rfl) bs_lda : bz_ok true 68 5 (bz_lda 0 6)),
  List.forall_mem_cons.mpr ⟨(bz_of (A := aa_pu (.int 0) 7) (as_iconst mk_68 (n := 0) (by decide +kernel) (by decide +kernel) rfl) (bs_pu rfl) : bz_ok true 68 6 (bz_pu (.inl 0) 7)),
  List.forall_mem_cons.mpr ⟨(bz_of (A := aa_pIs 6 3 10) (as_pIs mk_68 (ix := 22) (by decide +kernel) (fd_RX6_22 rfl) pt_6_3 rfl) bs_pIs : bz_ok true 68 7 (bz_pI 6 3 10)),
  List.forall_mem_cons.mpr ⟨(bz_of (A := aa_retv) (as_vret mk_68 (by decide +kernel) rfl) bs_retv : bz_ok true 68 10 (bz_retv)),
  fun _ h => absurd h List.not_mem_nil⟩⟩⟩⟩⟩⟩⟩
theorem bd_68_ok : bz_tk true 68 bd_68 :=
  List.forall_mem_cons.mpr ⟨bd_68_0,
  fun _ h => absurd h List.not_mem_nil⟩
def bd_69 : bz_T := [(8, [(0, bz_lda 0 1), (1, bz_lda 0 2), (2, bz_gI 6 3 5), (5, bz_pI 6 2 8), (8, bz_retv)])]
theorem bd_69_0 : ∀ q ∈ ([(0, bz_lda 0 1), (1, bz_lda 0 2), (2, bz_gI 6 3 5), (5, bz_pI 6 2 8), (8, bz_retv)] : List (Nat × bz_Op)), bz_ok true 69 q.1 q.2 :=
  List.forall_mem_cons.mpr ⟨(bz_of (A := aa_lda 0 1) (as_aload_n mk_69 (k := 0) (by decide +kernel) rfl rfl) bs_lda : bz_ok true 69 0 (bz_lda 0 1)),
  List.forall_mem_cons.mpr ⟨(bz_of (A := aa_lda 0 2) (as_aload_n mk_69 (k := 0) (by decide +kernel) rfl rfl) bs_lda : bz_ok true 69 1 (bz_lda 0 2)),
  List.forall_mem_cons.mpr ⟨(bz_of (A := aa_gIs 6 3 5) (as_gIs mk_69 (ix := 22) (by decide +kernel) (fd_RX6_22 rfl) rfl) bs_gIs : bz_ok true 69 2 (bz_gI 6 3 5)),
  List.forall_mem_cons.mpr ⟨(bz_of (A := aa_pIs 6 2 8) (as_pIs mk_69 (ix := 18) (by decide +kernel) (fd_RX6_18 rfl) pt_6_2 rfl) bs_pIs : bz_ok true 69 5 (bz_pI 6 2 8)),
  List.forall_mem_cons.mpr ⟨(bz_of (A := aa_retv) (as_vret mk_69 (by decide +kernel) rfl) bs_retv : bz_ok true 69 8 (bz_retv)),
  fun _ h => absurd h List.not_mem_nil⟩⟩⟩⟩⟩
theorem bd_69_ok : bz_tk true 69 bd_69 :=
  List.forall_mem_cons.mpr ⟨bd_69_0,
  fun _ h => absurd h List.not_mem_nil⟩
def bd_70 : bz_T := [(13, [(0, bz_lda 0 1), (1, bz_gI 6 3 4), (4, bz_lda 0 5), (5, bz_gR 6 0 8), (8, bz_len 9), (9, bz_icmp bh_lt 12 32), (12, bz_lda 0 13), (13, bz_gR 6 0 16)]), (27, [(16, bz_lda 0 17), (17, bz_gI 6 3 20), (20, bz_ldi 1 21), (21, bz_as 100 bh_id 22), (22, bz_lda 0 23), (23, bz_dup 24), (24, bz_gI 6 3 27), (27, bz_pu (.inl 1) 28)]), (32, [(28, bz_bin bh_add 29), (29, bz_pI 6 3 32), (32, bz_retv)])]
theorem bd_70_0 : ∀ q ∈ ([(0, bz_lda 0 1), (1, bz_gI 6 3 4), (4, bz_lda 0 5), (5, bz_gR 6 0 8), (8, bz_len 9), (9, bz_icmp bh_lt 12 32), (12, bz_lda 0 13), (13, bz_gR 6 0 16)] : List (Nat × bz_Op)), bz_ok true 70 q.1 q.2 :=
  List.forall_mem_cons.mpr ⟨(bz_of (A := aa_lda 0 1) (as_aload_n mk_70 (k := 0) (by decide +kernel) rfl rfl) bs_lda : bz_ok true 70 0 (bz_lda 0 1)),
  List.forall_mem_cons.mpr ⟨(bz_of (A := aa_gIs 6 3 4) (as_gIs mk_70 (ix := 22) (by decide +kernel) (fd_RX6_22 rfl) rfl) bs_gIs : bz_ok true 70 1 (bz_gI 6 3 4)),
  List.forall_mem_cons.mpr ⟨(bz_of (A := aa_lda 0 5) (as_aload_n mk_70 (k := 0) (by decide +kernel) rfl rfl) bs_lda : bz_ok true 70 4 (bz_lda 0 5)),
  List.forall_mem_cons.mpr ⟨(bz_of (A := aa_gRs 6 0 8) (as_gRs mk_70 (ix := 11) (by decide +kernel) (fd_RX6_11 rfl) rfl) bs_gRs : bz_ok true 70 5 (bz_gR 6 0 8)),
  List.forall_mem_cons.mpr ⟨(bz_of (A := aa_lens 9) (as_lens mk_70 (by decide +kernel) rfl) bs_lens : bz_ok true 70 8 (bz_len 9)),
  List.forall_mem_cons.mpr ⟨(bz_of (A := aa_icmp (fun x y => x < y) 12 32) (as_icmp_ge mk_70 (off := 23) (by decide +kernel) (by decide +kernel) rfl) (bs_icmp bh_lt_ok) : bz_ok true 70 9 (bz_icmp bh_lt 12 32)),
  List.forall_mem_cons.mpr ⟨(bz_of (A := aa_lda 0 13) (as_aload_n mk_70 (k := 0) (by decide +kernel) rfl rfl) bs_lda : bz_ok true 70 12 (bz_lda 0 13)),
  List.forall_mem_cons.mpr ⟨(bz_of (A := aa_gRs 6 0 16) (as_gRs mk_70 (ix := 11) (by decide +kernel) (fd_RX6_11 rfl) rfl) bs_gRs : bz_ok true 70 13 (bz_gR 6 0 16)),
  fun _ h => absurd h List.not_mem_nil⟩⟩⟩⟩⟩⟩⟩⟩
theorem bd_70_1 : ∀ q ∈ ([(16, bz_lda 0 17), (17, bz_gI 6 3 20), (20, bz_ldi 1 21), (21, bz_as 100 bh_id 22), (22, bz_lda 0 23), (23, bz_dup 24), (24, bz_gI 6 3 27), (27, bz_pu (.inl 1) 28)] : List (Nat × bz_Op)), bz_ok true 70 q.1 q.2 :=
  List.forall_mem_cons.mpr ⟨(bz_of (A := aa_lda 0 17) (as_aload_n mk_70 (k := 0) (by decide +kernel) rfl rfl) bs_lda : bz_ok true 70 16 (bz_lda 0 17)),
  List.forall_mem_cons.mpr ⟨(bz_of (A := aa_gIs 6 3 20) (as_gIs mk_70 (ix := 22) (by decide +kernel) (fd_RX6_22 rfl) rfl) bs_gIs : bz_ok true 70 17 (bz_gI 6 3 20)),
  List.forall_mem_cons.mpr ⟨(bz_of (A := aa_ldi 1 21) (as_iload_n mk_70 (k := 1) (by decide +kernel) rfl rfl) bs_ldi : bz_ok true 70 20 (bz_ldi 1 21)),
  List.forall_mem_cons.mpr ⟨(bz_of (A := aa_ass 100 (fun x => x) 22) (as_ass mk_70 (Or.inl ⟨rfl, fun _ => rfl, by decide +kernel⟩) rfl) (bs_ass bh_id_ok) : bz_ok true 70 21 (bz_as 100 bh_id 22)),
  List.forall_mem_cons.mpr ⟨(bz_of (A := aa_lda 0 23) (as_aload_n mk_70 (k := 0) (by decide +kernel) rfl rfl) bs_lda : bz_ok true 70 22 (bz_lda 0 23)),
  List.forall_mem_cons.mpr ⟨(bz_of (A := aa_dup 24) (as_dup mk_70 (by decide +kernel) rfl) bs_dup : bz_ok true 70 23 (bz_dup 24)),
  List.forall_mem_cons.mpr ⟨(bz_of (A := aa_gIs 6 3 27) (as_gIs mk_70 (ix := 22) (by decide +kernel) (fd_RX6_22 rfl) rfl) bs_gIs : bz_ok true 70 24 (bz_gI 6 3 27)),
  List.forall_mem_cons.mpr ⟨(bz_of (A := aa_pu (.int 1) 28) (as_iconst mk_70 (n := 1) (by decide +kernel) (by decide +kernel) rfl) (bs_pu rfl) : bz_ok true 70 27 (bz_pu (.inl 1) 28)),
  fun _ h => absurd h List.not_mem_nil⟩⟩⟩⟩⟩⟩⟩⟩
theorem bd_70_2 : ∀ q ∈ ([(28, bz_bin bh_add 29), (29, bz_pI 6 3 32), (32, bz_retv)] : List (Nat × bz_Op)), bz_ok true 70 q.1 q.2 :=
  List.forall_mem_cons.mpr ⟨(bz_of (A := aa_bin (fun x y => x + y) 29) (as_iadd mk_70 (by decide +kernel) rfl) (bs_bin bh_add_ok) : bz_ok true 70 28 (bz_bin bh_add 29)),
  List.forall_mem_cons.mpr ⟨(bz_of (A := aa_pIs 6 3 32) (as_pIs mk_70 (ix := 22) (by decide +kernel) (fd_RX6_22 rfl) pt_6_3 rfl) bs_pIs : bz_ok true 70 29 (bz_pI 6 3 32)),
  List.forall_mem_cons.mpr ⟨(bz_of (A := aa_retv) (as_vret mk_70 (by decide +kernel) rfl) bs_retv : bz_ok true 70 32 (bz_retv)),
  fun _ h => absurd h List.not_mem_nil⟩⟩⟩
theorem bd_70_ok : bz_tk true 70 bd_70 :=
  List.forall_mem_cons.mpr ⟨bd_70_0,
  List.forall_mem_cons.mpr ⟨bd_70_1,
  List.forall_mem_cons.mpr ⟨bd_70_2,
  fun _ h => absurd h List.not_mem_nil⟩⟩⟩
def bd_71 : bz_T := [(9, [(0, bz_lda 0 1), (1, bz_pu (.inl 10000) 4), (4, bz_ldi 1 5), (5, bz_bin bh_add 6), (6, bz_ccv 70 1 2 6 0 9), (9, bz_retv)])]
theorem bd_71_0 : ∀ q ∈ ([(0, bz_lda 0 1), (1, bz_pu (.inl 10000) 4), (4, bz_ldi 1 5), (5, bz_bin bh_add 6), (6, bz_ccv 70 1 2 6 0 9), (9, bz_retv)] : List (Nat × bz_Op)), bz_ok true 71 q.1 q.2 :=
  List.forall_mem_cons.mpr ⟨(bz_of (A := aa_lda 0 1) (as_aload_n mk_71 (k := 0) (by decide +kernel) rfl rfl) bs_lda : bz_ok true 71 0 (bz_lda 0 1)),
  List.forall_mem_cons.mpr ⟨(bz_of (A := aa_pu (.int 10000) 4) (as_sipush mk_71 (n := 10000) (by decide +kernel) (by decide +kernel) rfl) (bs_pu rfl) : bz_ok true 71 1 (bz_pu (.inl 10000) 4)),
  List.forall_mem_cons.mpr ⟨(bz_of (A := aa_ldi 1 5) (as_iload_n mk_71 (k := 1) (by decide +kernel) rfl rfl) bs_ldi : bz_ok true 71 4 (bz_ldi 1 5)),
  List.forall_mem_cons.mpr ⟨(bz_of (A := aa_bin (fun x y => x + y) 6) (as_iadd mk_71 (by decide +kernel) rfl) (bs_bin bh_add_ok) : bz_ok true 71 5 (bz_bin bh_add 6)),
  List.forall_mem_cons.mpr ⟨(bz_of (A := aa_ccu 70 1 2 6 aa_kV 9) (as_ccu mk_71 (ix := 25) aa_kV_ok (by decide +kernel) (cx_RX6_25 rfl) rfl) (bs_ccu bz_k0) : bz_ok true 71 6 (bz_ccv 70 1 2 6 0 9)),
  List.forall_mem_cons.mpr ⟨(bz_of (A := aa_retv) (as_vret mk_71 (by decide +kernel) rfl) bs_retv : bz_ok true 71 9 (bz_retv)),
  fun _ h => absurd h List.not_mem_nil⟩⟩⟩⟩⟩⟩
theorem bd_71_ok : bz_tk true 71 bd_71 :=
  List.forall_mem_cons.mpr ⟨bd_71_0,
  fun _ h => absurd h List.not_mem_nil⟩
def bd_182 : bz_T := [(11, [(0, bz_ldi 0 1), (1, bz_ldi 1 2), (2, bz_icmp bh_lt 14 5), (5, bz_ldi 0 6), (6, bz_ldi 2 7), (7, bz_icmp bh_gt 14 10), (10, bz_pu (.inl 1) 11), (11, bz_go 15)]), (15, [(14, bz_pu (.inl 0) 15), (15, bz_retb 2)])]
theorem bd_182_0 : ∀ q ∈ ([(0, bz_ldi 0 1), (1, bz_ldi 1 2), (2, bz_icmp bh_lt 14 5), (5, bz_ldi 0 6), (6, bz_ldi 2 7), (7, bz_icmp bh_gt 14 10), (10, bz_pu (.inl 1) 11), (11, bz_go 15)] : List (Nat × bz_Op)), bz_ok true 182 q.1 q.2 :=
  List.forall_mem_cons.mpr ⟨(bz_of (A := aa_ldi 0 1) (as_iload_n mk_182 (k := 0) (by decide +kernel) rfl rfl) bs_ldi : bz_ok true 182 0 (bz_ldi 0 1)),
  List.forall_mem_cons.mpr ⟨(bz_of (A := aa_ldi 1 2) (as_iload_n mk_182 (k := 1) (by decide +kernel) rfl rfl) bs_ldi : bz_ok true 182 1 (bz_ldi 1 2)),
  List.forall_mem_cons.mpr ⟨(bz_of (A := aa_icmp (fun x y => x < y) 14 5) (as_icmp_lt mk_182 (off := 12) (by decide +kernel) (by decide +kernel) rfl) (bs_icmp bh_lt_ok) : bz_ok true 182 2 (bz_icmp bh_lt 14 5)),
  List.forall_mem_cons.mpr ⟨(bz_of (A := aa_ldi 0 6) (as_iload_n mk_182 (k := 0) (by decide +kernel) rfl rfl) bs_ldi : bz_ok true 182 5 (bz_ldi 0 6)),
  List.forall_mem_cons.mpr ⟨(bz_of (A := aa_ldi 2 7) (as_iload_n mk_182 (k := 2) (by decide +kernel) rfl rfl) bs_ldi : bz_ok true 182 6 (bz_ldi 2 7)),
  List.forall_mem_cons.mpr ⟨(bz_of (A := aa_icmp (fun x y => y < x) 14 10) (as_icmp_gt mk_182 (off := 7) (by decide +kernel) (by decide +kernel) rfl) (bs_icmp bh_gt_ok) : bz_ok true 182 7 (bz_icmp bh_gt 14 10)),
  List.forall_mem_cons.mpr ⟨(bz_of (A := aa_pu (.int 1) 11) (as_iconst mk_182 (n := 1) (by decide +kernel) (by decide +kernel) rfl) (bs_pu rfl) : bz_ok true 182 10 (bz_pu (.inl 1) 11)),
  List.forall_mem_cons.mpr ⟨(bz_of (A := aa_go 15) (as_goto mk_182 (off := 4) (by decide +kernel) (by decide +kernel)) bs_go : bz_ok true 182 11 (bz_go 15)),
  fun _ h => absurd h List.not_mem_nil⟩⟩⟩⟩⟩⟩⟩⟩
theorem bd_182_1 : ∀ q ∈ ([(14, bz_pu (.inl 0) 15), (15, bz_retb 2)] : List (Nat × bz_Op)), bz_ok true 182 q.1 q.2 :=
  List.forall_mem_cons.mpr ⟨(bz_of (A := aa_pu (.int 0) 15) (as_iconst mk_182 (n := 0) (by decide +kernel) (by decide +kernel) rfl) (bs_pu rfl) : bz_ok true 182 14 (bz_pu (.inl 0) 15)),
  List.forall_mem_cons.mpr ⟨(bz_of (A := aa_retz) (as_zret mk_182 (by decide +kernel) rfl) bs_retz : bz_ok true 182 15 (bz_retb 2)),
  fun _ h => absurd h List.not_mem_nil⟩⟩
theorem bd_182_ok : bz_tk true 182 bd_182 :=
  List.forall_mem_cons.mpr ⟨bd_182_0,
  List.forall_mem_cons.mpr ⟨bd_182_1,
  fun _ h => absurd h List.not_mem_nil⟩⟩
def bd_211 : bz_T := [(11, [(0, bz_lda 0 1), (1, bz_gR 11 14 4), (4, bz_lda 0 5), (5, bz_gI 11 25 8), (8, bz_ldi 1 9), (9, bz_as 100 bh_id 10), (10, bz_lda 0 11), (11, bz_gR 11 15 14)]), (25, [(14, bz_lda 0 15), (15, bz_gI 11 25 18), (18, bz_ldi 2 19), (19, bz_as 100 bh_id 20), (20, bz_lda 0 21), (21, bz_dup 22), (22, bz_gI 11 25 25), (25, bz_pu (.inl 1) 26)]), (30, [(26, bz_bin bh_add 27), (27, bz_pI 11 25 30), (30, bz_retv)])]
theorem bd_211_0 : ∀ q ∈ ([(0, bz_lda 0 1), (1, bz_gR 11 14 4), (4, bz_lda 0 5), (5, bz_gI 11 25 8), (8, bz_ldi 1 9), (9, bz_as 100 bh_id 10), (10, bz_lda 0 11), (11, bz_gR 11 15 14)] : List (Nat × bz_Op)), bz_ok true 211 q.1 q.2 :=
  List.forall_mem_cons.mpr ⟨(bz_of (A := aa_lda 0 1) (as_aload_n mk_211 (k := 0) (by decide +kernel) rfl rfl) bs_lda : bz_ok true 211 0 (bz_lda 0 1)),
  List.forall_mem_cons.mpr ⟨(bz_of (A := aa_gR 11 14 4) (as_gR mk_211 (ix := 43) (by decide +kernel) (fd_RX11_43 rfl) rfl) bs_gR : bz_ok true 211 1 (bz_gR 11 14 4)),
  List.forall_mem_cons.mpr ⟨(bz_of (A := aa_lda 0 5) (as_aload_n mk_211 (k := 0) (by decide +kernel) rfl rfl) bs_lda : bz_ok true 211 4 (bz_lda 0 5)),
  List.forall_mem_cons.mpr ⟨(bz_of (A := aa_gI 11 25 8) (as_gI mk_211 (ix := 215) (by decide +kernel) (fd_RX11_215 rfl) rfl) bs_gI : bz_ok true 211 5 (bz_gI 11 25 8)),
  List.forall_mem_cons.mpr ⟨(bz_of (A := aa_ldi 1 9) (as_iload_n mk_211 (k := 1) (by decide +kernel) rfl rfl) bs_ldi : bz_ok true 211 8 (bz_ldi 1 9)),
  List.forall_mem_cons.mpr ⟨(bz_of (A := aa_as 100 (fun x => x) 10) (as_as mk_211 (Or.inl ⟨rfl, fun _ => rfl, by decide +kernel⟩) rfl) (bs_as bh_id_ok) : bz_ok true 211 9 (bz_as 100 bh_id 10)),
  List.forall_mem_cons.mpr ⟨(bz_of (A := aa_lda 0 11) (as_aload_n mk_211 (k := 0) (by decide +kernel) rfl rfl) bs_lda : bz_ok true 211 10 (bz_lda 0 11)),
  List.forall_mem_cons.mpr ⟨(bz_of (A := aa_gR 11 15 14) (as_gR mk_211 (ix := 46) (by decide +kernel) (fd_RX11_46 rfl) rfl) bs_gR : bz_ok true 211 11 (bz_gR 11 15 14)),
  fun _ h => absurd h List.not_mem_nil⟩⟩⟩⟩⟩⟩⟩⟩
theorem bd_211_1 : ∀ q ∈ ([(14, bz_lda 0 15), (15, bz_gI 11 25 18), (18, bz_ldi 2 19), (19, bz_as 100 bh_id 20), (20, bz_lda 0 21), (21, bz_dup 22), (22, bz_gI 11 25 25), (25, bz_pu (.inl 1) 26)] : List (Nat × bz_Op)), bz_ok true 211 q.1 q.2 :=
  List.forall_mem_cons.mpr ⟨(bz_of (A := aa_lda 0 15) (as_aload_n mk_211 (k := 0) (by decide +kernel) rfl rfl) bs_lda : bz_ok true 211 14 (bz_lda 0 15)),
  List.forall_mem_cons.mpr ⟨(bz_of (A := aa_gI 11 25 18) (as_gI mk_211 (ix := 215) (by decide +kernel) (fd_RX11_215 rfl) rfl) bs_gI : bz_ok true 211 15 (bz_gI 11 25 18)),
  List.forall_mem_cons.mpr ⟨(bz_of (A := aa_ldi 2 19) (as_iload_n mk_211 (k := 2) (by decide +kernel) rfl rfl) bs_ldi : bz_ok true 211 18 (bz_ldi 2 19)),
  List.forall_mem_cons.mpr ⟨(bz_of (A := aa_as 100 (fun x => x) 20) (as_as mk_211 (Or.inl ⟨rfl, fun _ => rfl, by decide +kernel⟩) rfl) (bs_as bh_id_ok) : bz_ok true 211 19 (bz_as 100 bh_id 20)),
  List.forall_mem_cons.mpr ⟨(bz_of (A := aa_lda 0 21) (as_aload_n mk_211 (k := 0) (by decide +kernel) rfl rfl) bs_lda : bz_ok true 211 20 (bz_lda 0 21)),
  List.forall_mem_cons.mpr ⟨(bz_of (A := aa_dup 22) (as_dup mk_211 (by decide +kernel) rfl) bs_dup : bz_ok true 211 21 (bz_dup 22)),
  List.forall_mem_cons.mpr ⟨(bz_of (A := aa_gI 11 25 25) (as_gI mk_211 (ix := 215) (by decide +kernel) (fd_RX11_215 rfl) rfl) bs_gI : bz_ok true 211 22 (bz_gI 11 25 25)),
  List.forall_mem_cons.mpr ⟨(bz_of (A := aa_pu (.int 1) 26) (as_iconst mk_211 (n := 1) (by decide +kernel) (by decide +kernel) rfl) (bs_pu rfl) : bz_ok true 211 25 (bz_pu (.inl 1) 26)),
  fun _ h => absurd h List.not_mem_nil⟩⟩⟩⟩⟩⟩⟩⟩
theorem bd_211_2 : ∀ q ∈ ([(26, bz_bin bh_add 27), (27, bz_pI 11 25 30), (30, bz_retv)] : List (Nat × bz_Op)), bz_ok true 211 q.1 q.2 :=
  List.forall_mem_cons.mpr ⟨(bz_of (A := aa_bin (fun x y => x + y) 27) (as_iadd mk_211 (by decide +kernel) rfl) (bs_bin bh_add_ok) : bz_ok true 211 26 (bz_bin bh_add 27)),
  List.forall_mem_cons.mpr ⟨(bz_of (A := aa_pI 11 25 30) (as_pI mk_211 (ix := 215) (by decide +kernel) (fd_RX11_215 rfl) pt_11_25 rfl) bs_pI : bz_ok true 211 27 (bz_pI 11 25 30)),
  List.forall_mem_cons.mpr ⟨(bz_of (A := aa_retv) (as_vret mk_211 (by decide +kernel) rfl) bs_retv : bz_ok true 211 30 (bz_retv)),
  fun _ h => absurd h List.not_mem_nil⟩⟩⟩
theorem bd_211_ok : bz_tk true 211 bd_211 :=
  List.forall_mem_cons.mpr ⟨bd_211_0,
  List.forall_mem_cons.mpr ⟨bd_211_1,
  List.forall_mem_cons.mpr ⟨bd_211_2,
  fun _ h => absurd h List.not_mem_nil⟩⟩⟩
def bd_212 : bz_T := [(10, [(0, bz_lda 0 1), (1, bz_pu (.inl 0) 2), (2, bz_pu (.inl 10) 4), (4, bz_ccv 211 2 3 11 0 7), (7, bz_lda 0 8), (8, bz_pu (.inl 1) 9), (9, bz_pu (.inl 1) 10), (10, bz_ccv 211 2 3 11 0 13)]), (25, [(13, bz_lda 0 14), (14, bz_pu (.inl 7) 16), (16, bz_pu (.inl 0) 17), (17, bz_ccv 211 2 3 11 0 20), (20, bz_lda 0 21), (21, bz_gR 11 17 24), (24, bz_pu (.inl 0) 25), (25, bz_lda 0 26)]), (39, [(26, bz_gI 11 25 29), (29, bz_as 100 bh_id 30), (30, bz_lda 0 31), (31, bz_gR 11 16 34), (34, bz_pu (.inl 1) 35), (35, bz_lda 0 36), (36, bz_gI 11 25 39), (39, bz_as 100 bh_id 40)]), (49, [(40, bz_lda 0 41), (41, bz_pu (.inl 0) 42), (42, bz_pu (.inl 1) 43), (43, bz_ccv 211 2 3 11 0 46), (46, bz_lda 0 47), (47, bz_pu (.inl 1) 48), (48, bz_pu (.inl 4) 49), (49, bz_ccv 211 2 3 11 0 52)]), (63, [(52, bz_lda 0 53), (53, bz_pu (.inl 5) 54), (54, bz_pu (.inl 0) 55), (55, bz_ccv 211 2 3 11 0 58), (58, bz_lda 0 59), (59, bz_gR 11 17 62), (62, bz_pu (.inl 1) 63), (63, bz_lda 0 64)]), (68, [(64, bz_gI 11 25 67), (67, bz_as 100 bh_id 68), (68, bz_retv)])]
theorem bd_212_0 : ∀ q ∈ ([(0, bz_lda 0 1), (1, bz_pu (.inl 0) 2), (2, bz_pu (.inl 10) 4), (4, bz_ccv 211 2 3 11 0 7), (7, bz_lda 0 8), (8, bz_pu (.inl 1) 9), (9, bz_pu (.inl 1) 10), (10, bz_ccv 211 2 3 11 0 13)] : List (Nat × bz_Op)), bz_ok true 212 q.1 q.2 :=
  List.forall_mem_cons.mpr ⟨(bz_of (A := aa_lda 0 1) (as_aload_n mk_212 (k := 0) (by decide +kernel) rfl rfl) bs_lda : bz_ok true 212 0 (bz_lda 0 1)),
  List.forall_mem_cons.mpr ⟨(bz_of (A := aa_pu (.int 0) 2) (as_iconst mk_212 (n := 0) (by decide +kernel) (by decide +kernel) rfl) (bs_pu rfl) : bz_ok true 212 1 (bz_pu (.inl 0) 2)),
  List.forall_mem_cons.mpr ⟨(bz_of (A := aa_pu (.int 10) 4) (as_bipush mk_212 (n := 10) (by decide +kernel) (by decide +kernel) rfl) (bs_pu rfl) : bz_ok true 212 2 (bz_pu (.inl 10) 4)),
  List.forall_mem_cons.mpr ⟨(bz_of (A := aa_ccv 211 2 3 11 aa_kV 7) (as_ccv mk_212 (ix := 218) aa_kV_ok (by decide +kernel) (cx_RX11_218 rfl) rfl) (bs_ccv bz_k0) : bz_ok true 212 4 (bz_ccv 211 2 3 11 0 7)),
  List.forall_mem_cons.mpr ⟨(bz_of (A := aa_lda 0 8) (as_aload_n mk_212 (k := 0) (by decide +kernel) rfl rfl) bs_lda : bz_ok true 212 7 (bz_lda 0 8)),
  List.forall_mem_cons.mpr ⟨(bz_of (A := aa_pu (.int 1) 9) (as_iconst mk_212 (n := 1) (by decide +kernel) (by decide +kernel) rfl) (bs_pu rfl) : bz_ok true 212 8 (bz_pu (.inl 1) 9)),
  List.forall_mem_cons.mpr ⟨(bz_of (A := aa_pu (.int 1) 10) (as_iconst mk_212 (n := 1) (by decide +kernel) (by decide +kernel) rfl) (bs_pu rfl) : bz_ok true 212 9 (bz_pu (.inl 1) 10)),
  List.forall_mem_cons.mpr ⟨(bz_of (A := aa_ccv 211 2 3 11 aa_kV 13) (as_ccv mk_212 (ix := 218) aa_kV_ok (by decide +kernel) (cx_RX11_218 rfl) rfl) (bs_ccv bz_k0) : bz_ok true 212 10 (bz_ccv 211 2 3 11 0 13)),
  fun _ h => absurd h List.not_mem_nil⟩⟩⟩⟩⟩⟩⟩⟩
theorem bd_212_1 : ∀ q ∈ ([(13, bz_lda 0 14), (14, bz_pu (.inl 7) 16), (16, bz_pu (.inl 0) 17), (17, bz_ccv 211 2 3 11 0 20), (20, bz_lda 0 21), (21, bz_gR 11 17 24), (24, bz_pu (.inl 0) 25), (25, bz_lda 0 26)] : List (Nat × bz_Op)), bz_ok true 212 q.1 q.2 :=
  List.forall_mem_cons.mpr ⟨(bz_of (A := aa_lda 0 14) (as_aload_n mk_212 (k := 0) (by decide +kernel) rfl rfl) bs_lda : bz_ok true 212 13 (bz_lda 0 14)),
  List.forall_mem_cons.mpr ⟨(bz_of (A := aa_pu (.int 7) 16) (as_bipush mk_212 (n := 7) (by decide +kernel) (by decide +kernel) rfl) (bs_pu rfl) : bz_ok true 212 14 (bz_pu (.inl 7) 16)),
  List.forall_mem_cons.mpr ⟨(bz_of (A := aa_pu (.int 0) 17) (as_iconst mk_212 (n := 0) (by decide +kernel) (by decide +kernel) rfl) (bs_pu rfl) : bz_ok true 212 16 (bz_pu (.inl 0) 17)),
  List.forall_mem_cons.mpr ⟨(bz_of (A := aa_ccv 211 2 3 11 aa_kV 20) (as_ccv mk_212 (ix := 218) aa_kV_ok (by decide +kernel) (cx_RX11_218 rfl) rfl) (bs_ccv bz_k0) : bz_ok true 212 17 (bz_ccv 211 2 3 11 0 20)),
  List.forall_mem_cons.mpr ⟨(bz_of (A := aa_lda 0 21) (as_aload_n mk_212 (k := 0) (by decide +kernel) rfl rfl) bs_lda : bz_ok true 212 20 (bz_lda 0 21)),
  List.forall_mem_cons.mpr ⟨(bz_of (A := aa_gR 11 17 24) (as_gR mk_212 (ix := 52) (by decide +kernel) (fd_RX11_52 rfl) rfl) bs_gR : bz_ok true 212 21 (bz_gR 11 17 24)),
  List.forall_mem_cons.mpr ⟨(bz_of (A := aa_pu (.int 0) 25) (as_iconst mk_212 (n := 0) (by decide +kernel) (by decide +kernel) rfl) (bs_pu rfl) : bz_ok true 212 24 (bz_pu (.inl 0) 25)),
  List.forall_mem_cons.mpr ⟨(bz_of (A := aa_lda 0 26) (as_aload_n mk_212 (k := 0) (by decide +kernel) rfl rfl) bs_lda : bz_ok true 212 25 (bz_lda 0 26)),
  fun _ h => absurd h List.not_mem_nil⟩⟩⟩⟩⟩⟩⟩⟩
theorem bd_212_2 : ∀ q ∈ ([(26, bz_gI 11 25 29), (29, bz_as 100 bh_id 30), (30, bz_lda 0 31), (31, bz_gR 11 16 34), (34, bz_pu (.inl 1) 35), (35, bz_lda 0 36), (36, bz_gI 11 25 39), (39, bz_as 100 bh_id 40)] : List (Nat × bz_Op)), bz_ok true 212 q.1 q.2 :=
  List.forall_mem_cons.mpr ⟨(bz_of (A := aa_gI 11 25 29) (as_gI mk_212 (ix := 215) (by decide +kernel) (fd_RX11_215 rfl) rfl) bs_gI : bz_ok true 212 26 (bz_gI 11 25 29)),
  List.forall_mem_cons.mpr ⟨(bz_of (A := aa_as 100 (fun x => x) 30) (as_as mk_212 (Or.inl ⟨rfl, fun _ => rfl, by decide +kernel⟩) rfl) (bs_as bh_id_ok) : bz_ok true 212 29 (bz_as 100 bh_id 30)),
  List.forall_mem_cons.mpr ⟨(bz_of (A := aa_lda 0 31) (as_aload_n mk_212 (k := 0) (by decide +kernel) rfl rfl) bs_lda : bz_ok true 212 30 (bz_lda 0 31)),
  List.forall_mem_cons.mpr ⟨(bz_of (A := aa_gR 11 16 34) (as_gR mk_212 (ix := 49) (by decide +kernel) (fd_RX11_49 rfl) rfl) bs_gR : bz_ok true 212 31 (bz_gR 11 16 34)),
  List.forall_mem_cons.mpr ⟨(bz_of (A := aa_pu (.int 1) 35) (as_iconst mk_212 (n := 1) (by decide +kernel) (by decide +kernel) rfl) (bs_pu rfl) : bz_ok true 212 34 (bz_pu (.inl 1) 35)),
  List.forall_mem_cons.mpr ⟨(bz_of (A := aa_lda 0 36) (as_aload_n mk_212 (k := 0) (by decide +kernel) rfl rfl) bs_lda : bz_ok true 212 35 (bz_lda 0 36)),
  List.forall_mem_cons.mpr ⟨(bz_of (A := aa_gI 11 25 39) (as_gI mk_212 (ix := 215) (by decide +kernel) (fd_RX11_215 rfl) rfl) bs_gI : bz_ok true 212 36 (bz_gI 11 25 39)),
  List.forall_mem_cons.mpr ⟨(bz_of (A := aa_as 100 (fun x => x) 40) (as_as mk_212 (Or.inl ⟨rfl, fun _ => rfl, by decide +kernel⟩) rfl) (bs_as bh_id_ok) : bz_ok true 212 39 (bz_as 100 bh_id 40)),
  fun _ h => absurd h List.not_mem_nil⟩⟩⟩⟩⟩⟩⟩⟩
theorem bd_212_3 : ∀ q ∈ ([(40, bz_lda 0 41), (41, bz_pu (.inl 0) 42), (42, bz_pu (.inl 1) 43), (43, bz_ccv 211 2 3 11 0 46), (46, bz_lda 0 47), (47, bz_pu (.inl 1) 48), (48, bz_pu (.inl 4) 49), (49, bz_ccv 211 2 3 11 0 52)] : List (Nat × bz_Op)), bz_ok true 212 q.1 q.2 :=
  List.forall_mem_cons.mpr ⟨(bz_of (A := aa_lda 0 41) (as_aload_n mk_212 (k := 0) (by decide +kernel) rfl rfl) bs_lda : bz_ok true 212 40 (bz_lda 0 41)),
  List.forall_mem_cons.mpr ⟨(bz_of (A := aa_pu (.int 0) 42) (as_iconst mk_212 (n := 0) (by decide +kernel) (by decide +kernel) rfl) (bs_pu rfl) : bz_ok true 212 41 (bz_pu (.inl 0) 42)),
  List.forall_mem_cons.mpr ⟨(bz_of (A := aa_pu (.int 1) 43) (as_iconst mk_212 (n := 1) (by decide +kernel) (by decide +kernel) rfl) (bs_pu rfl) : bz_ok true 212 42 (bz_pu (.inl 1) 43)),
  List.forall_mem_cons.mpr ⟨(bz_of (A := aa_ccv 211 2 3 11 aa_kV 46) (as_ccv mk_212 (ix := 218) aa_kV_ok (by decide +kernel) (cx_RX11_218 rfl) rfl) (bs_ccv bz_k0) : bz_ok true 212 43 (bz_ccv 211 2 3 11 0 46)),
  List.forall_mem_cons.mpr ⟨(bz_of (A := aa_lda 0 47) (as_aload_n mk_212 (k := 0) (by decide +kernel) rfl rfl) bs_lda : bz_ok true 212 46 (bz_lda 0 47)),
  List.forall_mem_cons.mpr ⟨(bz_of (A := aa_pu (.int 1) 48) (as_iconst mk_212 (n := 1) (by decide +kernel) (by decide +kernel) rfl) (bs_pu rfl) : bz_ok true 212 47 (bz_pu (.inl 1) 48)),
  List.forall_mem_cons.mpr ⟨(bz_of (A := aa_pu (.int 4) 49) (as_iconst mk_212 (n := 4) (by decide +kernel) (by decide +kernel) rfl) (bs_pu rfl) : bz_ok true 212 48 (bz_pu (.inl 4) 49)),
  List.forall_mem_cons.mpr ⟨(bz_of (A := aa_ccv 211 2 3 11 aa_kV 52) (as_ccv mk_212 (ix := 218) aa_kV_ok (by decide +kernel) (cx_RX11_218 rfl) rfl) (bs_ccv bz_k0) : bz_ok true 212 49 (bz_ccv 211 2 3 11 0 52)),
  fun _ h => absurd h List.not_mem_nil⟩⟩⟩⟩⟩⟩⟩⟩
theorem bd_212_4 : ∀ q ∈ ([(52, bz_lda 0 53), (53, bz_pu (.inl 5) 54), (54, bz_pu (.inl 0) 55), (55, bz_ccv 211 2 3 11 0 58), (58, bz_lda 0 59), (59, bz_gR 11 17 62), (62, bz_pu (.inl 1) 63), (63, bz_lda 0 64)] : List (Nat × bz_Op)), bz_ok true 212 q.1 q.2 :=
  List.forall_mem_cons.mpr ⟨(bz_of (A := aa_lda 0 53) (as_aload_n mk_212 (k := 0) (by decide +kernel) rfl rfl) bs_lda : bz_ok true 212 52 (bz_lda 0 53)),
  List.forall_mem_cons.mpr ⟨(bz_of (A := aa_pu (.int 5) 54) (as_iconst mk_212 (n := 5) (by decide +kernel) (by decide +kernel) rfl) (bs_pu rfl) : bz_ok true 212 53 (bz_pu (.inl 5) 54)),
  List.forall_mem_cons.mpr ⟨(bz_of (A := aa_pu (.int 0) 55) (as_iconst mk_212 (n := 0) (by decide +kernel) (by decide +kernel) rfl) (bs_pu rfl) : bz_ok true 212 54 (bz_pu (.inl 0) 55)),
  List.forall_mem_cons.mpr ⟨(bz_of (A := aa_ccv 211 2 3 11 aa_kV 58) (as_ccv mk_212 (ix := 218) aa_kV_ok (by decide +kernel) (cx_RX11_218 rfl) rfl) (bs_ccv bz_k0) : bz_ok true 212 55 (bz_ccv 211 2 3 11 0 58)),
  List.forall_mem_cons.mpr ⟨(bz_of (A := aa_lda 0 59) (as_aload_n mk_212 (k := 0) (by decide +kernel) rfl rfl) bs_lda : bz_ok true 212 58 (bz_lda 0 59)),
  List.forall_mem_cons.mpr ⟨(bz_of (A := aa_gR 11 17 62) (as_gR mk_212 (ix := 52) (by decide +kernel) (fd_RX11_52 rfl) rfl) bs_gR : bz_ok true 212 59 (bz_gR 11 17 62)),
  List.forall_mem_cons.mpr ⟨(bz_of (A := aa_pu (.int 1) 63) (as_iconst mk_212 (n := 1) (by decide +kernel) (by decide +kernel) rfl) (bs_pu rfl) : bz_ok true 212 62 (bz_pu (.inl 1) 63)),
  List.forall_mem_cons.mpr ⟨(bz_of (A := aa_lda 0 64) (as_aload_n mk_212 (k := 0) (by decide +kernel) rfl rfl) bs_lda : bz_ok true 212 63 (bz_lda 0 64)),
  fun _ h => absurd h List.not_mem_nil⟩⟩⟩⟩⟩⟩⟩⟩
theorem bd_212_5 : ∀ q ∈ ([(64, bz_gI 11 25 67), (67, bz_as 100 bh_id 68), (68, bz_retv)] : List (Nat × bz_Op)), bz_ok true 212 q.1 q.2 :=
  List.forall_mem_cons.mpr ⟨(bz_of (A := aa_gI 11 25 67) (as_gI mk_212 (ix := 215) (by decide +kernel) (fd_RX11_215 rfl) rfl) bs_gI : bz_ok true 212 64 (bz_gI 11 25 67)),
  List.forall_mem_cons.mpr ⟨(bz_of (A := aa_as 100 (fun x => x) 68) (as_as mk_212 (Or.inl ⟨rfl, fun _ => rfl, by decide +kernel⟩) rfl) (bs_as bh_id_ok) : bz_ok true 212 67 (bz_as 100 bh_id 68)),
  List.forall_mem_cons.mpr ⟨(bz_of (A := aa_retv) (as_vret mk_212 (by decide +kernel) rfl) bs_retv : bz_ok true 212 68 (bz_retv)),
  fun _ h => absurd h List.not_mem_nil⟩⟩⟩
theorem bd_212_ok : bz_tk true 212 bd_212 :=
  List.forall_mem_cons.mpr ⟨bd_212_0,
  List.forall_mem_cons.mpr ⟨bd_212_1,
  List.forall_mem_cons.mpr ⟨bd_212_2,
  List.forall_mem_cons.mpr ⟨bd_212_3,
  List.forall_mem_cons.mpr ⟨bd_212_4,
  List.forall_mem_cons.mpr ⟨bd_212_5,
  fun _ h => absurd h List.not_mem_nil⟩⟩⟩⟩⟩⟩
def bd_289 : bz_T := [(10, [(0, bz_lda 0 1), (1, bz_gS1 4), (4, bz_lenb 5), (5, bz_lda 0 6), (6, bz_ccS 291 0 1 1 9), (9, bz_bin bh_shr 10), (10, bz_reti)])]
theorem bd_289_0 : ∀ q ∈ ([(0, bz_lda 0 1), (1, bz_gS1 4), (4, bz_lenb 5), (5, bz_lda 0 6), (6, bz_ccS 291 0 1 1 9), (9, bz_bin bh_shr 10), (10, bz_reti)] : List (Nat × bz_Op)), bz_ok true 289 q.1 q.2 :=
  List.forall_mem_cons.mpr ⟨(bz_of (A := aa_lda 0 1) (as_aload_n mk_289 (k := 0) (by decide +kernel) rfl rfl) bs_lda : bz_ok true 289 0 (bz_lda 0 1)),
  List.forall_mem_cons.mpr ⟨(bz_of (A := aa_gS 1 4) (as_gS mk_289 (ix := 9) (by decide +kernel) (Or.inr ⟨rfl, aa_bw 1818 (by decide +kernel) rfl⟩) rfl) bs_gS1 : bz_ok true 289 1 (bz_gS1 4)),
  List.forall_mem_cons.mpr ⟨(bz_of (A := aa_lenb 5) (as_lenb mk_289 (by decide +kernel) rfl) bs_lenb : bz_ok true 289 4 (bz_lenb 5)),
  List.forall_mem_cons.mpr ⟨(bz_of (A := aa_lda 0 6) (as_aload_n mk_289 (k := 0) (by decide +kernel) rfl rfl) bs_lda : bz_ok true 289 5 (bz_lda 0 6)),
  List.forall_mem_cons.mpr ⟨(bz_of (A := aa_ccS 291 0 1 aa_kI 9) (as_ccS mk_289 (ix := 335) (M' := ac_r291) aa_kI_ok (by decide +kernel) ce_291 lk_RJ0_335 ci_291 cv_291 rfl (by decide) rfl rfl) (bs_ccS bz_k1) : bz_ok true 289 6 (bz_ccS 291 0 1 1 9)),
  List.forall_mem_cons.mpr ⟨(bz_of (A := aa_bin (fun x y => x >>> (y &&& 31)) 10) (as_ishr mk_289 (by decide +kernel) rfl) (bs_bin bh_shr_ok) : bz_ok true 289 9 (bz_bin bh_shr 10)),
  List.forall_mem_cons.mpr ⟨(bz_of (A := aa_reti) (as_iret mk_289 (by decide +kernel) rfl) bs_reti : bz_ok true 289 10 (bz_reti)),
  fun _ h => absurd h List.not_mem_nil⟩⟩⟩⟩⟩⟩⟩
theorem bd_289_ok : bz_tk true 289 bd_289 :=
  List.forall_mem_cons.mpr ⟨bd_289_0,
  fun _ h => absurd h List.not_mem_nil⟩
def bd_290 : bz_T := [(15, [(0, bz_lda 0 1), (1, bz_ccS 292 0 1 1 4), (4, bz_if bh_eq0 16 7), (7, bz_lda 0 8), (8, bz_gS1 11), (11, bz_ldi 1 12), (12, bz_ccs 294 2 2 1 15), (15, bz_retb 128)]), (20, [(16, bz_lda 0 17), (17, bz_gS1 20), (20, bz_ldi 1 21)])]
theorem bd_290_0 : ∀ q ∈ ([(0, bz_lda 0 1), (1, bz_ccS 292 0 1 1 4), (4, bz_if bh_eq0 16 7), (7, bz_lda 0 8), (8, bz_gS1 11), (11, bz_ldi 1 12), (12, bz_ccs 294 2 2 1 15), (15, bz_retb 128)] : List (Nat × bz_Op)), bz_ok true 290 q.1 q.2 :=
  List.forall_mem_cons.mpr ⟨(bz_of (A := aa_lda 0 1) (as_aload_n mk_290 (k := 0) (by decide +kernel) rfl rfl) bs_lda : bz_ok true 290 0 (bz_lda 0 1)),
  List.forall_mem_cons.mpr ⟨(bz_of (A := aa_ccS 292 0 1 aa_kI 4) (as_ccS mk_290 (ix := 492) (M' := ac_r292) aa_kI_ok (by decide +kernel) ce_292 lk_RJ0_492 ci_292 cv_292 rfl (by decide) rfl rfl) (bs_ccS bz_k1) : bz_ok true 290 1 (bz_ccS 292 0 1 1 4)),
  List.forall_mem_cons.mpr ⟨(bz_of (A := aa_if (fun x => x = 0) 16 7) (as_if_eq mk_290 (off := 12) (by decide +kernel) (by decide +kernel) rfl) (bs_if bh_eq0_ok) : bz_ok true 290 4 (bz_if bh_eq0 16 7)),
  List.forall_mem_cons.mpr ⟨(bz_of (A := aa_lda 0 8) (as_aload_n mk_290 (k := 0) (by decide +kernel) rfl rfl) bs_lda : bz_ok true 290 7 (bz_lda 0 8)),
  List.forall_mem_cons.mpr ⟨(bz_of (A := aa_gS 1 11) (as_gS mk_290 (ix := 9) (by decide +kernel) (Or.inr ⟨rfl, aa_bw 1818 (by decide +kernel) rfl⟩) rfl) bs_gS1 : bz_ok true 290 8 (bz_gS1 11)),
  List.forall_mem_cons.mpr ⟨(bz_of (A := aa_ldi 1 12) (as_iload_n mk_290 (k := 1) (by decide +kernel) rfl rfl) bs_ldi : bz_ok true 290 11 (bz_ldi 1 12)),
  List.forall_mem_cons.mpr ⟨(bz_of (A := aa_ccs 294 2 2 aa_kI 15) (as_ccs mk_290 (ix := 495) (M' := ac_r294) aa_kI_ok (by decide +kernel) ce_294 lk_RJ0_495 cs_294 rfl (by decide) rfl) (bs_ccs bz_k1) : bz_ok true 290 12 (bz_ccs 294 2 2 1 15)),
  List.forall_mem_cons.mpr ⟨(bz_of (A := aa_retn .char) (as_nret mk_290 (by decide +kernel) rfl) (bs_retn bh_char) : bz_ok true 290 15 (bz_retb 128)),
  fun _ h => absurd h List.not_mem_nil⟩⟩⟩⟩⟩⟩⟩⟩
theorem bd_290_1 : ∀ q ∈ ([(16, bz_lda 0 17), (17, bz_gS1 20), (20, bz_ldi 1 21)] : List (Nat × bz_Op)), bz_ok true 290 q.1 q.2 :=
  List.forall_mem_cons.mpr ⟨(bz_of (A := aa_lda 0 17) (as_aload_n mk_290 (k := 0) (by decide +kernel) rfl rfl) bs_lda : bz_ok true 290 16 (bz_lda 0 17)),
  List.forall_mem_cons.mpr ⟨(bz_of (A := aa_gS 1 20) (as_gS mk_290 (ix := 9) (by decide +kernel) (Or.inr ⟨rfl, aa_bw 1818 (by decide +kernel) rfl⟩) rfl) bs_gS1 : bz_ok true 290 17 (bz_gS1 20)),
  List.forall_mem_cons.mpr ⟨(bz_of (A := aa_ldi 1 21) (as_iload_n mk_290 (k := 1) (by decide +kernel) rfl rfl) bs_ldi : bz_ok true 290 20 (bz_ldi 1 21)),
  fun _ h => absurd h List.not_mem_nil⟩⟩⟩
theorem bd_290_ok : bz_tk true 290 bd_290 :=
  List.forall_mem_cons.mpr ⟨bd_290_0,
  List.forall_mem_cons.mpr ⟨bd_290_1,
  fun _ h => absurd h List.not_mem_nil⟩⟩
def bd_291 : bz_T := [(14, [(0, bz_pu (.inl 1) 3), (3, bz_if bh_eq0 13 6), (6, bz_lda 0 7), (7, bz_gS0 10), (10, bz_go 14), (13, bz_pu (.inl 1) 14), (14, bz_retb 128)])]
theorem bd_291_0 : ∀ q ∈ ([(0, bz_pu (.inl 1) 3), (3, bz_if bh_eq0 13 6), (6, bz_lda 0 7), (7, bz_gS0 10), (10, bz_go 14), (13, bz_pu (.inl 1) 14), (14, bz_retb 128)] : List (Nat × bz_Op)), bz_ok true 291 q.1 q.2 :=
  List.forall_mem_cons.mpr ⟨(bz_of (A := aa_pu (.int 1) 3) (as_gst mk_291 (ix := 38) (by decide +kernel) (Or.inr (Or.inr (Or.inl ⟨rfl, aa_bw 389 (by decide +kernel) rfl⟩))) rfl) (bs_pu rfl) : bz_ok true 291 0 (bz_pu (.inl 1) 3)),
  List.forall_mem_cons.mpr ⟨(bz_of (A := aa_if (fun x => x = 0) 13 6) (as_if_eq mk_291 (off := 10) (by decide +kernel) (by decide +kernel) rfl) (bs_if bh_eq0_ok) : bz_ok true 291 3 (bz_if bh_eq0 13 6)),
  List.forall_mem_cons.mpr ⟨(bz_of (A := aa_lda 0 7) (as_aload_n mk_291 (k := 0) (by decide +kernel) rfl rfl) bs_lda : bz_ok true 291 6 (bz_lda 0 7)),
  List.forall_mem_cons.mpr ⟨(bz_of (A := aa_gS 0 10) (as_gS mk_291 (ix := 15) (by decide +kernel) (Or.inl ⟨rfl, aa_bw 1819 (by decide +kernel) rfl⟩) rfl) bs_gS0 : bz_ok true 291 7 (bz_gS0 10)),
  List.forall_mem_cons.mpr ⟨(bz_of (A := aa_go 14) (as_goto mk_291 (off := 4) (by decide +kernel) (by decide +kernel)) bs_go : bz_ok true 291 10 (bz_go 14)),
  List.forall_mem_cons.mpr ⟨(bz_of (A := aa_pu (.int 1) 14) (as_iconst mk_291 (n := 1) (by decide +kernel) (by decide +kernel) rfl) (bs_pu rfl) : bz_ok true 291 13 (bz_pu (.inl 1) 14)),
  List.forall_mem_cons.mpr ⟨(bz_of (A := aa_retn .byte) (as_nret mk_291 (by decide +kernel) rfl) (bs_retn bh_byte) : bz_ok true 291 14 (bz_retb 128)),
  fun _ h => absurd h List.not_mem_nil⟩⟩⟩⟩⟩⟩⟩
theorem bd_291_ok : bz_tk true 291 bd_291 :=
  List.forall_mem_cons.mpr ⟨bd_291_0,
  fun _ h => absurd h List.not_mem_nil⟩
def bd_292 : bz_T := [(17, [(0, bz_pu (.inl 1) 3), (3, bz_if bh_eq0 17 6), (6, bz_lda 0 7), (7, bz_gS0 10), (10, bz_if bh_eq0 13 17), (13, bz_pu (.inl 1) 14), (14, bz_go 18), (17, bz_pu (.inl 0) 18)]), (18, [(18, bz_retb 2)])]
theorem bd_292_0 : ∀ q ∈ ([(0, bz_pu (.inl 1) 3), (3, bz_if bh_eq0 17 6), (6, bz_lda 0 7), (7, bz_gS0 10), (10, bz_if bh_eq0 13 17), (13, bz_pu (.inl 1) 14), (14, bz_go 18), (17, bz_pu (.inl 0) 18)] : List (Nat × bz_Op)), bz_ok true 292 q.1 q.2 :=
  List.forall_mem_cons.mpr ⟨(bz_of (A := aa_pu (.int 1) 3) (as_gst mk_292 (ix := 38) (by decide +kernel) (Or.inr (Or.inr (Or.inl ⟨rfl, aa_bw 389 (by decide +kernel) rfl⟩))) rfl) (bs_pu rfl) : bz_ok true 292 0 (bz_pu (.inl 1) 3)),
  List.forall_mem_cons.mpr ⟨(bz_of (A := aa_if (fun x => x = 0) 17 6) (as_if_eq mk_292 (off := 14) (by decide +kernel) (by decide +kernel) rfl) (bs_if bh_eq0_ok) : bz_ok true 292 3 (bz_if bh_eq0 17 6)),
  List.forall_mem_cons.mpr ⟨(bz_of (A := aa_lda 0 7) (as_aload_n mk_292 (k := 0) (by decide +kernel) rfl rfl) bs_lda : bz_ok true 292 6 (bz_lda 0 7)),
  List.forall_mem_cons.mpr ⟨(bz_of (A := aa_gS 0 10) (as_gS mk_292 (ix := 15) (by decide +kernel) (Or.inl ⟨rfl, aa_bw 1819 (by decide +kernel) rfl⟩) rfl) bs_gS0 : bz_ok true 292 7 (bz_gS0 10)),
  List.forall_mem_cons.mpr ⟨(bz_of (A := aa_if (fun x => x = 0) 13 17) (as_if_ne mk_292 (off := 7) (by decide +kernel) (by decide +kernel) rfl) (bs_if bh_eq0_ok) : bz_ok true 292 10 (bz_if bh_eq0 13 17)),
  List.forall_mem_cons.mpr ⟨(bz_of (A := aa_pu (.int 1) 14) (as_iconst mk_292 (n := 1) (by decide +kernel) (by decide +kernel) rfl) (bs_pu rfl) : bz_ok true 292 13 (bz_pu (.inl 1) 14)),
  List.forall_mem_cons.mpr ⟨(bz_of (A := aa_go 18) (as_goto mk_292 (off := 4) (by decide +kernel) (by decide +kernel)) bs_go : bz_ok true 292 14 (bz_go 18)),
  List.forall_mem_cons.mpr ⟨(bz_of (A := aa_pu (.int 0) 18) (as_iconst mk_292 (n := 0) (by decide +kernel) (by decide +kernel) rfl) (bs_pu rfl) : bz_ok true 292 17 (bz_pu (.inl 0) 18)),
  fun _ h => absurd h List.not_mem_nil⟩⟩⟩⟩⟩⟩⟩⟩
theorem bd_292_1 : ∀ q ∈ ([(18, bz_retb 2)] : List (Nat × bz_Op)), bz_ok true 292 q.1 q.2 :=
  List.forall_mem_cons.mpr ⟨(bz_of (A := aa_retz) (as_zret mk_292 (by decide +kernel) rfl) bs_retz : bz_ok true 292 18 (bz_retb 2)),
  fun _ h => absurd h List.not_mem_nil⟩
theorem bd_292_ok : bz_tk true 292 bd_292 :=
  List.forall_mem_cons.mpr ⟨bd_292_0,
  List.forall_mem_cons.mpr ⟨bd_292_1,
  fun _ h => absurd h List.not_mem_nil⟩⟩
def bd_293 : bz_T := [(9, [(0, bz_ldi 0 1), (1, bz_ldi 1 2), (2, bz_pu (.inr (.inr ())) 5), (5, bz_ccs 300 3 3 1 8), (8, bz_pop 9), (9, bz_retv)])]
theorem bd_293_0 : ∀ q ∈ ([(0, bz_ldi 0 1), (1, bz_ldi 1 2), (2, bz_pu (.inr (.inr ())) 5), (5, bz_ccs 300 3 3 1 8), (8, bz_pop 9), (9, bz_retv)] : List (Nat × bz_Op)), bz_ok true 293 q.1 q.2 :=
  List.forall_mem_cons.mpr ⟨(bz_of (A := aa_ldi 0 1) (as_iload_n mk_293 (k := 0) (by decide +kernel) rfl rfl) bs_ldi : bz_ok true 293 0 (bz_ldi 0 1)),
  List.forall_mem_cons.mpr ⟨(bz_of (A := aa_ldi 1 2) (as_iload_n mk_293 (k := 1) (by decide +kernel) rfl rfl) bs_ldi : bz_ok true 293 1 (bz_ldi 1 2)),
  List.forall_mem_cons.mpr ⟨(bz_of (A := aa_pu (.float 0) 5) (as_gst mk_293 (ix := 1053) (by decide +kernel) (Or.inr (Or.inr (Or.inr ⟨rfl, aa_bw 405 (by decide +kernel) rfl⟩))) rfl) (bs_pu rfl) : bz_ok true 293 2 (bz_pu (.inr (.inr ())) 5)),
  List.forall_mem_cons.mpr ⟨(bz_of (A := aa_ccs 300 3 3 aa_kI 8) (as_ccs mk_293 (ix := 1059) (M' := ac_r300) aa_kI_ok (by decide +kernel) ce_300 lk_RJ0_1059 cs_300 rfl (by decide) rfl) (bs_ccs bz_k1) : bz_ok true 293 5 (bz_ccs 300 3 3 1 8)),
  List.forall_mem_cons.mpr ⟨(bz_of (A := aa_popo 9) (as_pop mk_293 (by decide +kernel) rfl) bs_pop : bz_ok true 293 8 (bz_pop 9)),
  List.forall_mem_cons.mpr ⟨(bz_of (A := aa_retv) (as_vret mk_293 (by decide +kernel) rfl) bs_retv : bz_ok true 293 9 (bz_retv)),
  fun _ h => absurd h List.not_mem_nil⟩⟩⟩⟩⟩⟩
theorem bd_293_ok : bz_tk true 293 bd_293 :=
  List.forall_mem_cons.mpr ⟨bd_293_0,
  fun _ h => absurd h List.not_mem_nil⟩
def bd_294 : bz_T := [(9, [(0, bz_ldi 1 1), (1, bz_lda 0 2), (2, bz_lenb 3), (3, bz_ccs 293 2 2 0 6), (6, bz_lda 0 7), (7, bz_ldi 1 8), (8, bz_alb 9), (9, bz_pu (.inl 255) 12)]), (14, [(12, bz_bin bh_and 13), (13, bz_un bh_i2c 14), (14, bz_retb 128)])]
theorem bd_294_0 : ∀ q ∈ ([(0, bz_ldi 1 1), (1, bz_lda 0 2), (2, bz_lenb 3), (3, bz_ccs 293 2 2 0 6), (6, bz_lda 0 7), (7, bz_ldi 1 8), (8, bz_alb 9), (9, bz_pu (.inl 255) 12)] : List (Nat × bz_Op)), bz_ok true 294 q.1 q.2 :=
  List.forall_mem_cons.mpr ⟨(bz_of (A := aa_ldi 1 1) (as_iload_n mk_294 (k := 1) (by decide +kernel) rfl rfl) bs_ldi : bz_ok true 294 0 (bz_ldi 1 1)),
  List.forall_mem_cons.mpr ⟨(bz_of (A := aa_lda 0 2) (as_aload_n mk_294 (k := 0) (by decide +kernel) rfl rfl) bs_lda : bz_ok true 294 1 (bz_lda 0 2)),
  List.forall_mem_cons.mpr ⟨(bz_of (A := aa_lenb 3) (as_lenb mk_294 (by decide +kernel) rfl) bs_lenb : bz_ok true 294 2 (bz_lenb 3)),
  List.forall_mem_cons.mpr ⟨(bz_of (A := aa_ccs 293 2 2 aa_kV 6) (as_ccs mk_294 (ix := 9) (M' := ac_r293) aa_kV_ok (by decide +kernel) ce_293 lk_RJ1_9 cs_293 rfl (by decide) rfl) (bs_ccs bz_k0) : bz_ok true 294 3 (bz_ccs 293 2 2 0 6)),
  List.forall_mem_cons.mpr ⟨(bz_of (A := aa_lda 0 7) (as_aload_n mk_294 (k := 0) (by decide +kernel) rfl rfl) bs_lda : bz_ok true 294 6 (bz_lda 0 7)),
  List.forall_mem_cons.mpr ⟨(bz_of (A := aa_ldi 1 8) (as_iload_n mk_294 (k := 1) (by decide +kernel) rfl rfl) bs_ldi : bz_ok true 294 7 (bz_ldi 1 8)),
  List.forall_mem_cons.mpr ⟨(bz_of (A := aa_alb 9) (as_alb mk_294 (by decide +kernel) rfl) bs_alb : bz_ok true 294 8 (bz_alb 9)),
  List.forall_mem_cons.mpr ⟨(bz_of (A := aa_pu (.int 255) 12) (as_sipush mk_294 (n := 255) (by decide +kernel) (by decide +kernel) rfl) (bs_pu rfl) : bz_ok true 294 9 (bz_pu (.inl 255) 12)),
  fun _ h => absurd h List.not_mem_nil⟩⟩⟩⟩⟩⟩⟩⟩
theorem bd_294_1 : ∀ q ∈ ([(12, bz_bin bh_and 13), (13, bz_un bh_i2c 14), (14, bz_retb 128)] : List (Nat × bz_Op)), bz_ok true 294 q.1 q.2 :=
  List.forall_mem_cons.mpr ⟨(bz_of (A := aa_bin (fun x y => x &&& y) 13) (as_iand mk_294 (by decide +kernel) rfl) (bs_bin bh_and_ok) : bz_ok true 294 12 (bz_bin bh_and 13)),
  List.forall_mem_cons.mpr ⟨(bz_of (A := aa_un (fun x => (x.toUInt32 % 65536).toInt32) 14) (as_i2c mk_294 (by decide +kernel) rfl) (bs_un bh_i2c_ok) : bz_ok true 294 13 (bz_un bh_i2c 14)),
  List.forall_mem_cons.mpr ⟨(bz_of (A := aa_retn .char) (as_nret mk_294 (by decide +kernel) rfl) (bs_retn bh_char) : bz_ok true 294 14 (bz_retb 128)),
  fun _ h => absurd h List.not_mem_nil⟩⟩⟩
theorem bd_294_ok : bz_tk true 294 bd_294 :=
  List.forall_mem_cons.mpr ⟨bd_294_0,
  List.forall_mem_cons.mpr ⟨bd_294_1,
  fun _ h => absurd h List.not_mem_nil⟩⟩
def bd_299 : bz_T := [(7, [(0, bz_pu (.inl 0) 1), (1, bz_sti 2 2), (2, bz_lda 0 3), (3, bz_len 4), (4, bz_sti 3 5), (5, bz_ldi 2 6), (6, bz_ldi 3 7), (7, bz_icmp bh_lt 10 20)]), (20, [(10, bz_lda 0 11), (11, bz_ldi 2 12), (12, bz_ldi 1 13), (13, bz_as 100 bh_id 14), (14, bz_inc 2 1 17), (17, bz_go 5), (20, bz_retv)])]
theorem bd_299_0 : ∀ q ∈ ([(0, bz_pu (.inl 0) 1), (1, bz_sti 2 2), (2, bz_lda 0 3), (3, bz_len 4), (4, bz_sti 3 5), (5, bz_ldi 2 6), (6, bz_ldi 3 7), (7, bz_icmp bh_lt 10 20)] : List (Nat × bz_Op)), bz_ok true 299 q.1 q.2 :=
  List.forall_mem_cons.mpr ⟨(bz_of (A := aa_pu (.int 0) 1) (as_iconst mk_299 (n := 0) (by decide +kernel) (by decide +kernel) rfl) (bs_pu rfl) : bz_ok true 299 0 (bz_pu (.inl 0) 1)),
  List.forall_mem_cons.mpr ⟨(bz_of (A := aa_sti 2 2) (as_istore_n mk_299 (k := 2) (by decide +kernel) rfl (by decide) rfl) bs_sti : bz_ok true 299 1 (bz_sti 2 2)),
  List.forall_mem_cons.mpr ⟨(bz_of (A := aa_lda 0 3) (as_aload_n mk_299 (k := 0) (by decide +kernel) rfl rfl) bs_lda : bz_ok true 299 2 (bz_lda 0 3)),
  List.forall_mem_cons.mpr ⟨(bz_of (A := aa_lens 4) (as_lens mk_299 (by decide +kernel) rfl) bs_lens : bz_ok true 299 3 (bz_len 4)),
  List.forall_mem_cons.mpr ⟨(bz_of (A := aa_sti 3 5) (as_istore_n mk_299 (k := 3) (by decide +kernel) rfl (by decide) rfl) bs_sti : bz_ok true 299 4 (bz_sti 3 5)),
  List.forall_mem_cons.mpr ⟨(bz_of (A := aa_ldi 2 6) (as_iload_n mk_299 (k := 2) (by decide +kernel) rfl rfl) bs_ldi : bz_ok true 299 5 (bz_ldi 2 6)),
  List.forall_mem_cons.mpr ⟨(bz_of (A := aa_ldi 3 7) (as_iload_n mk_299 (k := 3) (by decide +kernel) rfl rfl) bs_ldi : bz_ok true 299 6 (bz_ldi 3 7)),
  List.forall_mem_cons.mpr ⟨(bz_of (A := aa_icmp (fun x y => x < y) 10 20) (as_icmp_ge mk_299 (off := 13) (by decide +kernel) (by decide +kernel) rfl) (bs_icmp bh_lt_ok) : bz_ok true 299 7 (bz_icmp bh_lt 10 20)),
  fun _ h => absurd h List.not_mem_nil⟩⟩⟩⟩⟩⟩⟩⟩
theorem bd_299_1 : ∀ q ∈ ([(10, bz_lda 0 11), (11, bz_ldi 2 12), (12, bz_ldi 1 13), (13, bz_as 100 bh_id 14), (14, bz_inc 2 1 17), (17, bz_go 5), (20, bz_retv)] : List (Nat × bz_Op)), bz_ok true 299 q.1 q.2 :=
  List.forall_mem_cons.mpr ⟨(bz_of (A := aa_lda 0 11) (as_aload_n mk_299 (k := 0) (by decide +kernel) rfl rfl) bs_lda : bz_ok true 299 10 (bz_lda 0 11)),
  List.forall_mem_cons.mpr ⟨(bz_of (A := aa_ldi 2 12) (as_iload_n mk_299 (k := 2) (by decide +kernel) rfl rfl) bs_ldi : bz_ok true 299 11 (bz_ldi 2 12)),
  List.forall_mem_cons.mpr ⟨(bz_of (A := aa_ldi 1 13) (as_iload_n mk_299 (k := 1) (by decide +kernel) rfl rfl) bs_ldi : bz_ok true 299 12 (bz_ldi 1 13)),
  List.forall_mem_cons.mpr ⟨(bz_of (A := aa_ass 100 (fun x => x) 14) (as_ass mk_299 (Or.inl ⟨rfl, fun _ => rfl, by decide +kernel⟩) rfl) (bs_ass bh_id_ok) : bz_ok true 299 13 (bz_as 100 bh_id 14)),
  List.forall_mem_cons.mpr ⟨(bz_of (A := aa_inc 2 1 17) (as_iinc mk_299 (n := 1) (by decide +kernel) (by decide +kernel) (by decide) rfl) (bs_inc (by decide +kernel)) : bz_ok true 299 14 (bz_inc 2 1 17)),
  List.forall_mem_cons.mpr ⟨(bz_of (A := aa_go 5) (as_goto mk_299 (off := (-12)) (by decide +kernel) (by decide +kernel)) bs_go : bz_ok true 299 17 (bz_go 5)),
  List.forall_mem_cons.mpr ⟨(bz_of (A := aa_retv) (as_vret mk_299 (by decide +kernel) rfl) bs_retv : bz_ok true 299 20 (bz_retv)),
  fun _ h => absurd h List.not_mem_nil⟩⟩⟩⟩⟩⟩⟩
theorem bd_299_ok : bz_tk true 299 bd_299 :=
  List.forall_mem_cons.mpr ⟨bd_299_0,
  List.forall_mem_cons.mpr ⟨bd_299_1,
  fun _ h => absurd h List.not_mem_nil⟩⟩
def bd_300 : bz_T := [(16, [(0, bz_ldi 0 1), (1, bz_if bh_lt0 9 4), (4, bz_ldi 0 5), (5, bz_ldi 1 6), (6, bz_icmp bh_lt 16 9), (10, bz_ldi 0 11), (11, bz_ldi 1 12), (16, bz_ldi 0 17)]), (17, [(17, bz_reti)])]
theorem bd_300_0 : ∀ q ∈ ([(0, bz_ldi 0 1), (1, bz_if bh_lt0 9 4), (4, bz_ldi 0 5), (5, bz_ldi 1 6), (6, bz_icmp bh_lt 16 9), (10, bz_ldi 0 11), (11, bz_ldi 1 12), (16, bz_ldi 0 17)] : List (Nat × bz_Op)), bz_ok true 300 q.1 q.2 :=
  List.forall_mem_cons.mpr ⟨(bz_of (A := aa_ldi 0 1) (as_iload_n mk_300 (k := 0) (by decide +kernel) rfl rfl) bs_ldi : bz_ok true 300 0 (bz_ldi 0 1)),
  List.forall_mem_cons.mpr ⟨(bz_of (A := aa_if (fun x => x < 0) 9 4) (as_if_lt mk_300 (off := 8) (by decide +kernel) (by decide +kernel) rfl) (bs_if bh_lt0_ok) : bz_ok true 300 1 (bz_if bh_lt0 9 4)),
  List.forall_mem_cons.mpr ⟨(bz_of (A := aa_ldi 0 5) (as_iload_n mk_300 (k := 0) (by decide +kernel) rfl rfl) bs_ldi : bz_ok true 300 4 (bz_ldi 0 5)),
  List.forall_mem_cons.mpr ⟨(bz_of (A := aa_ldi 1 6) (as_iload_n mk_300 (k := 1) (by decide +kernel) rfl rfl) bs_ldi : bz_ok true 300 5 (bz_ldi 1 6)),
  List.forall_mem_cons.mpr ⟨(bz_of (A := aa_icmp (fun x y => x < y) 16 9) (as_icmp_lt mk_300 (off := 10) (by decide +kernel) (by decide +kernel) rfl) (bs_icmp bh_lt_ok) : bz_ok true 300 6 (bz_icmp bh_lt 16 9)),
  List.forall_mem_cons.mpr ⟨(bz_of (A := aa_ldi 0 11) (as_iload_n mk_300 (k := 0) (by decide +kernel) rfl rfl) bs_ldi : bz_ok true 300 10 (bz_ldi 0 11)),
  List.forall_mem_cons.mpr ⟨(bz_of (A := aa_ldi 1 12) (as_iload_n mk_300 (k := 1) (by decide +kernel) rfl rfl) bs_ldi : bz_ok true 300 11 (bz_ldi 1 12)),
  List.forall_mem_cons.mpr ⟨(bz_of (A := aa_ldi 0 17) (as_iload_n mk_300 (k := 0) (by decide +kernel) rfl rfl) bs_ldi : bz_ok true 300 16 (bz_ldi 0 17)),
  fun _ h => absurd h List.not_mem_nil⟩⟩⟩⟩⟩⟩⟩⟩
theorem bd_300_1 : ∀ q ∈ ([(17, bz_reti)] : List (Nat × bz_Op)), bz_ok true 300 q.1 q.2 :=
  List.forall_mem_cons.mpr ⟨(bz_of (A := aa_reti) (as_iret mk_300 (by decide +kernel) rfl) bs_reti : bz_ok true 300 17 (bz_reti)),
  fun _ h => absurd h List.not_mem_nil⟩
theorem bd_300_ok : bz_tk true 300 bd_300 :=
  List.forall_mem_cons.mpr ⟨bd_300_0,
  List.forall_mem_cons.mpr ⟨bd_300_1,
  fun _ h => absurd h List.not_mem_nil⟩⟩
def bD_o : bz_D := [(26, 3, bd_26), (28, 2, bd_28), (29, 5, bd_29), (30, 5, bd_30), (31, 1, bd_31), (32, 3, bd_32), (33, 5, bd_33), (34, 4, bd_34), (35, 5, bd_35), (36, 1, bd_36), (37, 1, bd_37), (39, 2, bd_39), (40, 3, bd_40), (41, 3, bd_41), (42, 3, bd_42), (43, 4, bd_43), (44, 3, bd_44), (45, 3, bd_45), (54, 6, bd_54), (68, 1, bd_68), (69, 1, bd_69), (70, 2, bd_70), (71, 2, bd_71), (182, 3, bd_182), (211, 3, bd_211), (212, 1, bd_212), (289, 1, bd_289), (290, 2, bd_290), (291, 1, bd_291), (292, 1, bd_292), (293, 2, bd_293), (294, 2, bd_294), (299, 4, bd_299), (300, 3, bd_300)]
theorem bD_o_ok : bz_dk true bD_o :=
  List.forall_mem_cons.mpr ⟨⟨⟨ac_r26, mk_26, rfl⟩, bd_26_ok⟩,
  List.forall_mem_cons.mpr ⟨⟨⟨ac_r28, mk_28, rfl⟩, bd_28_ok⟩,
  List.forall_mem_cons.mpr ⟨⟨⟨ac_r29, mk_29, rfl⟩, bd_29_ok⟩,
  List.forall_mem_cons.mpr ⟨⟨⟨ac_r30, mk_30, rfl⟩, bd_30_ok⟩,
  List.forall_mem_cons.mpr ⟨⟨⟨ac_r31, mk_31, rfl⟩, bd_31_ok⟩,
  List.forall_mem_cons.mpr ⟨⟨⟨ac_r32, mk_32, rfl⟩, bd_32_ok⟩,
  List.forall_mem_cons.mpr ⟨⟨⟨ac_r33, mk_33, rfl⟩, bd_33_ok⟩,
  List.forall_mem_cons.mpr ⟨⟨⟨ac_r34, mk_34, rfl⟩, bd_34_ok⟩,
  List.forall_mem_cons.mpr ⟨⟨⟨ac_r35, mk_35, rfl⟩, bd_35_ok⟩,
  List.forall_mem_cons.mpr ⟨⟨⟨ac_r36, mk_36, rfl⟩, bd_36_ok⟩,
  List.forall_mem_cons.mpr ⟨⟨⟨ac_r37, mk_37, rfl⟩, bd_37_ok⟩,
  List.forall_mem_cons.mpr ⟨⟨⟨ac_r39, mk_39, rfl⟩, bd_39_ok⟩,
  List.forall_mem_cons.mpr ⟨⟨⟨ac_r40, mk_40, rfl⟩, bd_40_ok⟩,
  List.forall_mem_cons.mpr ⟨⟨⟨ac_r41, mk_41, rfl⟩, bd_41_ok⟩,
  List.forall_mem_cons.mpr ⟨⟨⟨ac_r42, mk_42, rfl⟩, bd_42_ok⟩,
  List.forall_mem_cons.mpr ⟨⟨⟨ac_r43, mk_43, rfl⟩, bd_43_ok⟩,
  List.forall_mem_cons.mpr ⟨⟨⟨ac_r44, mk_44, rfl⟩, bd_44_ok⟩,
  List.forall_mem_cons.mpr ⟨⟨⟨ac_r45, mk_45, rfl⟩, bd_45_ok⟩,
  List.forall_mem_cons.mpr ⟨⟨⟨ac_r54, mk_54, rfl⟩, bd_54_ok⟩,
  List.forall_mem_cons.mpr ⟨⟨⟨ac_r68, mk_68, rfl⟩, bd_68_ok⟩,
  List.forall_mem_cons.mpr ⟨⟨⟨ac_r69, mk_69, rfl⟩, bd_69_ok⟩,
  List.forall_mem_cons.mpr ⟨⟨⟨ac_r70, mk_70, rfl⟩, bd_70_ok⟩,
  List.forall_mem_cons.mpr ⟨⟨⟨ac_r71, mk_71, rfl⟩, bd_71_ok⟩,
  List.forall_mem_cons.mpr ⟨⟨⟨ac_r182, mk_182, rfl⟩, bd_182_ok⟩,
  List.forall_mem_cons.mpr ⟨⟨⟨ac_r211, mk_211, rfl⟩, bd_211_ok⟩,
  List.forall_mem_cons.mpr ⟨⟨⟨ac_r212, mk_212, rfl⟩, bd_212_ok⟩,
  List.forall_mem_cons.mpr ⟨⟨⟨ac_r289, mk_289, rfl⟩, bd_289_ok⟩,
  List.forall_mem_cons.mpr ⟨⟨⟨ac_r290, mk_290, rfl⟩, bd_290_ok⟩,
  List.forall_mem_cons.mpr ⟨⟨⟨ac_r291, mk_291, rfl⟩, bd_291_ok⟩,
  List.forall_mem_cons.mpr ⟨⟨⟨ac_r292, mk_292, rfl⟩, bd_292_ok⟩,
  List.forall_mem_cons.mpr ⟨⟨⟨ac_r293, mk_293, rfl⟩, bd_293_ok⟩,
  List.forall_mem_cons.mpr ⟨⟨⟨ac_r294, mk_294, rfl⟩, bd_294_ok⟩,
  List.forall_mem_cons.mpr ⟨⟨⟨ac_r299, mk_299, rfl⟩, bd_299_ok⟩,
  List.forall_mem_cons.mpr ⟨⟨⟨ac_r300, mk_300, rfl⟩, bd_300_ok⟩,
  fun _ h => absurd h List.not_mem_nil⟩⟩⟩⟩⟩⟩⟩⟩⟩⟩⟩⟩⟩⟩⟩⟩⟩⟩⟩⟩⟩⟩⟩⟩⟩⟩⟩⟩⟩⟩⟩⟩⟩⟩
