/-! tables of the computing machine: constructors, and the law's first instructions -/
def bd_0 : bz_T := [(13, [(0, bz_lda 0 1), (1, bz_obj 4), (4, bz_lda 0 5), (5, bz_pu (.inl 8) 7), (7, bz_newa 100 9), (9, bz_putF 0 1 12), (12, bz_lda 0 13), (13, bz_pu (.inl 8) 15)]), (28, [(15, bz_newa 100 17), (17, bz_putF 0 2 20), (20, bz_lda 0 21), (21, bz_pu (.inl 8) 23), (23, bz_newa 100 25), (25, bz_putF 0 3 28), (28, bz_retv)])]
theorem bd_0_0 : ∀ q ∈ ([(0, bz_lda 0 1), (1, bz_obj 4), (4, bz_lda 0 5), (5, bz_pu (.inl 8) 7), (7, bz_newa 100 9), (9, bz_putF 0 1 12), (12, bz_lda 0 13), (13, bz_pu (.inl 8) 15)] : List (Nat × bz_Op)), bz_ok false 0 q.1 q.2 :=
  List.forall_mem_cons.mpr ⟨(bz_of (A := aa_lda 0 1) (as_aload_n mk_0 (k := 0) (by decide +kernel) rfl rfl) bs_lda : bz_ok false 0 0 (bz_lda 0 1)),
  List.forall_mem_cons.mpr ⟨(bo_obj mk_0 (ix := 3) (by decide +kernel) rfl (aa_bw 275 (by decide +kernel) rfl) oi_i oi_c : bz_ok false 0 1 (bz_obj 4)),
  List.forall_mem_cons.mpr ⟨(bz_of (A := aa_lda 0 5) (as_aload_n mk_0 (k := 0) (by decide +kernel) rfl rfl) bs_lda : bz_ok false 0 4 (bz_lda 0 5)),
  List.forall_mem_cons.mpr ⟨(bz_of (A := aa_pu (.int 8) 7) (as_bipush mk_0 (n := 8) (by decide +kernel) (by decide +kernel) rfl) (bs_pu rfl) : bz_ok false 0 5 (bz_pu (.inl 8) 7)),
  List.forall_mem_cons.mpr ⟨(bo_newI mk_0 (by decide +kernel) rfl (aa_bw 129 (by decide +kernel) rfl) : bz_ok false 0 7 (bz_newa 100 9)),
  List.forall_mem_cons.mpr ⟨(bo_putF mk_0 (ix := 9) (by decide +kernel) rfl (fd_RX0_9 rfl) pf_0_1 : bz_ok false 0 9 (bz_putF 0 1 12)),
  List.forall_mem_cons.mpr ⟨(bz_of (A := aa_lda 0 13) (as_aload_n mk_0 (k := 0) (by decide +kernel) rfl rfl) bs_lda : bz_ok false 0 12 (bz_lda 0 13)),
  List.forall_mem_cons.mpr ⟨(bz_of (A := aa_pu (.int 8) 15) (as_bipush mk_0 (n := 8) (by decide +kernel) (by decide +kernel) rfl) (bs_pu rfl) : bz_ok false 0 13 (bz_pu (.inl 8) 15)),
  fun _ h => absurd h List.not_mem_nil⟩⟩⟩⟩⟩⟩⟩⟩
theorem bd_0_1 : ∀ q ∈ ([(15, bz_newa 100 17), (17, bz_putF 0 2 20), (20, bz_lda 0 21), (21, bz_pu (.inl 8) 23), (23, bz_newa 100 25), (25, bz_putF 0 3 28), (28, bz_retv)] : List (Nat × bz_Op)), bz_ok false 0 q.1 q.2 :=
  List.forall_mem_cons.mpr ⟨(bo_newI mk_0 (by decide +kernel) rfl (aa_bw 129 (by decide +kernel) rfl) : bz_ok false 0 15 (bz_newa 100 17)),
  List.forall_mem_cons.mpr ⟨(bo_putF mk_0 (ix := 15) (by decide +kernel) rfl (fd_RX0_15 rfl) pf_0_2 : bz_ok false 0 17 (bz_putF 0 2 20)),
  List.forall_mem_cons.mpr ⟨(bz_of (A := aa_lda 0 21) (as_aload_n mk_0 (k := 0) (by decide +kernel) rfl rfl) bs_lda : bz_ok false 0 20 (bz_lda 0 21)),
  List.forall_mem_cons.mpr ⟨(bz_of (A := aa_pu (.int 8) 23) (as_bipush mk_0 (n := 8) (by decide +kernel) (by decide +kernel) rfl) (bs_pu rfl) : bz_ok false 0 21 (bz_pu (.inl 8) 23)),
  List.forall_mem_cons.mpr ⟨(bo_newI mk_0 (by decide +kernel) rfl (aa_bw 129 (by decide +kernel) rfl) : bz_ok false 0 23 (bz_newa 100 25)),
  List.forall_mem_cons.mpr ⟨(bo_putF mk_0 (ix := 18) (by decide +kernel) rfl (fd_RX0_18 rfl) pf_0_3 : bz_ok false 0 25 (bz_putF 0 3 28)),
  List.forall_mem_cons.mpr ⟨(bz_of (A := aa_retv) (as_vret mk_0 (by decide +kernel) rfl) bs_retv : bz_ok false 0 28 (bz_retv)),
  fun _ h => absurd h List.not_mem_nil⟩⟩⟩⟩⟩⟩⟩
theorem bd_0_ok : bz_tk false 0 bd_0 :=
  List.forall_mem_cons.mpr ⟨bd_0_0,
  List.forall_mem_cons.mpr ⟨bd_0_1,
  fun _ h => absurd h List.not_mem_nil⟩⟩
def bd_9 : bz_T := [(13, [(0, bz_lda 0 1), (1, bz_obj 4), (4, bz_lda 0 5), (5, bz_pu (.inl 40) 7), (7, bz_newa 100 9), (9, bz_putF 1 1 12), (12, bz_lda 0 13), (13, bz_pu (.inl 40) 15)]), (29, [(15, bz_newa 100 17), (17, bz_putF 1 2 20), (20, bz_lda 0 21), (21, bz_pu (.inl 40) 23), (23, bz_newa 100 25), (25, bz_putF 1 3 28), (28, bz_lda 0 29), (29, bz_pu (.inl 12) 31)]), (45, [(31, bz_newa 100 33), (33, bz_putF 1 4 36), (36, bz_lda 0 37), (37, bz_pu (.inl 12) 39), (39, bz_newa 100 41), (41, bz_putF 1 5 44), (44, bz_lda 0 45), (45, bz_gR 1 4 48)]), (52, [(48, bz_pu (.inl 4294967295) 49), (49, bz_ccs 299 2 4 0 52), (52, bz_retv)])]
theorem bd_9_0 : ∀ q ∈ ([(0, bz_lda 0 1), (1, bz_obj 4), (4, bz_lda 0 5), (5, bz_pu (.inl 40) 7), (7, bz_newa 100 9), (9, bz_putF 1 1 12), (12, bz_lda 0 13), (13, bz_pu (.inl 40) 15)] : List (Nat × bz_Op)), bz_ok false 9 q.1 q.2 :=
  List.forall_mem_cons.mpr ⟨(bz_of (A := aa_lda 0 1) (as_aload_n mk_9 (k := 0) (by decide +kernel) rfl rfl) bs_lda : bz_ok false 9 0 (bz_lda 0 1)),
  List.forall_mem_cons.mpr ⟨(bo_obj mk_9 (ix := 3) (by decide +kernel) rfl (aa_bw 249 (by decide +kernel) rfl) oi_i oi_c : bz_ok false 9 1 (bz_obj 4)),
  List.forall_mem_cons.mpr ⟨(bz_of (A := aa_lda 0 5) (as_aload_n mk_9 (k := 0) (by decide +kernel) rfl rfl) bs_lda : bz_ok false 9 4 (bz_lda 0 5)),
  List.forall_mem_cons.mpr ⟨(bz_of (A := aa_pu (.int 40) 7) (as_bipush mk_9 (n := 40) (by decide +kernel) (by decide +kernel) rfl) (bs_pu rfl) : bz_ok false 9 5 (bz_pu (.inl 40) 7)),
  List.forall_mem_cons.mpr ⟨(bo_newI mk_9 (by decide +kernel) rfl (aa_bw 129 (by decide +kernel) rfl) : bz_ok false 9 7 (bz_newa 100 9)),
  List.forall_mem_cons.mpr ⟨(bo_putF mk_9 (ix := 9) (by decide +kernel) rfl (fd_RX1_9 rfl) pf_1_1 : bz_ok false 9 9 (bz_putF 1 1 12)),
  List.forall_mem_cons.mpr ⟨(bz_of (A := aa_lda 0 13) (as_aload_n mk_9 (k := 0) (by decide +kernel) rfl rfl) bs_lda : bz_ok false 9 12 (bz_lda 0 13)),
  List.forall_mem_cons.mpr ⟨(bz_of (A := aa_pu (.int 40) 15) (as_bipush mk_9 (n := 40) (by decide +kernel) (by decide +kernel) rfl) (bs_pu rfl) : bz_ok false 9 13 (bz_pu (.inl 40) 15)),
  fun _ h => absurd h List.not_mem_nil⟩⟩⟩⟩⟩⟩⟩⟩
theorem bd_9_1 : ∀ q ∈ ([(15, bz_newa 100 17), (17, bz_putF 1 2 20), (20, bz_lda 0 21), (21, bz_pu (.inl 40) 23), (23, bz_newa 100 25), (25, bz_putF 1 3 28), (28, bz_lda 0 29), (29, bz_pu (.inl 12) 31)] : List (Nat × bz_Op)), bz_ok false 9 q.1 q.2 :=
  List.forall_mem_cons.mpr ⟨(bo_newI mk_9 (by decide +kernel) rfl (aa_bw 129 (by decide +kernel) rfl) : bz_ok false 9 15 (bz_newa 100 17)),
  List.forall_mem_cons.mpr ⟨(bo_putF mk_9 (ix := 15) (by decide +kernel) rfl (fd_RX1_15 rfl) pf_1_2 : bz_ok false 9 17 (bz_putF 1 2 20)),
  List.forall_mem_cons.mpr ⟨(bz_of (A := aa_lda 0 21) (as_aload_n mk_9 (k := 0) (by decide +kernel) rfl rfl) bs_lda : bz_ok false 9 20 (bz_lda 0 21)),
  List.forall_mem_cons.mpr ⟨(bz_of (A := aa_pu (.int 40) 23) (as_bipush mk_9 (n := 40) (by decide +kernel) (by decide +kernel) rfl) (bs_pu rfl) : bz_ok false 9 21 (bz_pu (.inl 40) 23)),
  List.forall_mem_cons.mpr ⟨(bo_newI mk_9 (by decide +kernel) rfl (aa_bw 129 (by decide +kernel) rfl) : bz_ok false 9 23 (bz_newa 100 25)),
  List.forall_mem_cons.mpr ⟨(bo_putF mk_9 (ix := 18) (by decide +kernel) rfl (fd_RX1_18 rfl) pf_1_3 : bz_ok false 9 25 (bz_putF 1 3 28)),
  List.forall_mem_cons.mpr ⟨(bz_of (A := aa_lda 0 29) (as_aload_n mk_9 (k := 0) (by decide +kernel) rfl rfl) bs_lda : bz_ok false 9 28 (bz_lda 0 29)),
  List.forall_mem_cons.mpr ⟨(bz_of (A := aa_pu (.int 12) 31) (as_bipush mk_9 (n := 12) (by decide +kernel) (by decide +kernel) rfl) (bs_pu rfl) : bz_ok false 9 29 (bz_pu (.inl 12) 31)),
  fun _ h => absurd h List.not_mem_nil⟩⟩⟩⟩⟩⟩⟩⟩
theorem bd_9_2 : ∀ q ∈ ([(31, bz_newa 100 33), (33, bz_putF 1 4 36), (36, bz_lda 0 37), (37, bz_pu (.inl 12) 39), (39, bz_newa 100 41), (41, bz_putF 1 5 44), (44, bz_lda 0 45), (45, bz_gR 1 4 48)] : List (Nat × bz_Op)), bz_ok false 9 q.1 q.2 :=
  List.forall_mem_cons.mpr ⟨(bo_newI mk_9 (by decide +kernel) rfl (aa_bw 129 (by decide +kernel) rfl) : bz_ok false 9 31 (bz_newa 100 33)),
  List.forall_mem_cons.mpr ⟨(bo_putF mk_9 (ix := 21) (by decide +kernel) rfl (fd_RX1_21 rfl) pf_1_4 : bz_ok false 9 33 (bz_putF 1 4 36)),
  List.forall_mem_cons.mpr ⟨(bz_of (A := aa_lda 0 37) (as_aload_n mk_9 (k := 0) (by decide +kernel) rfl rfl) bs_lda : bz_ok false 9 36 (bz_lda 0 37)),
  List.forall_mem_cons.mpr ⟨(bz_of (A := aa_pu (.int 12) 39) (as_bipush mk_9 (n := 12) (by decide +kernel) (by decide +kernel) rfl) (bs_pu rfl) : bz_ok false 9 37 (bz_pu (.inl 12) 39)),
  List.forall_mem_cons.mpr ⟨(bo_newI mk_9 (by decide +kernel) rfl (aa_bw 129 (by decide +kernel) rfl) : bz_ok false 9 39 (bz_newa 100 41)),
  List.forall_mem_cons.mpr ⟨(bo_putF mk_9 (ix := 24) (by decide +kernel) rfl (fd_RX1_24 rfl) pf_1_5 : bz_ok false 9 41 (bz_putF 1 5 44)),
  List.forall_mem_cons.mpr ⟨(bz_of (A := aa_lda 0 45) (as_aload_n mk_9 (k := 0) (by decide +kernel) rfl rfl) bs_lda : bz_ok false 9 44 (bz_lda 0 45)),
  List.forall_mem_cons.mpr ⟨(bz_of (A := aa_gR 1 4 48) (as_gR mk_9 (ix := 21) (by decide +kernel) (fd_RX1_21 rfl) rfl) bs_gR : bz_ok false 9 45 (bz_gR 1 4 48)),
  fun _ h => absurd h List.not_mem_nil⟩⟩⟩⟩⟩⟩⟩⟩
theorem bd_9_3 : ∀ q ∈ ([(48, bz_pu (.inl 4294967295) 49), (49, bz_ccs 299 2 4 0 52), (52, bz_retv)] : List (Nat × bz_Op)), bz_ok false 9 q.1 q.2 :=
  List.forall_mem_cons.mpr ⟨(bz_of (A := aa_pu (.int (-1)) 49) (as_iconst mk_9 (n := (-1)) (by decide +kernel) (by decide +kernel) rfl) (bs_pu (by decide +kernel)) : bz_ok false 9 48 (bz_pu (.inl 4294967295) 49)),
  List.forall_mem_cons.mpr ⟨(bz_of (A := aa_ccs 299 2 4 aa_kV 52) (as_ccs mk_9 (ix := 27) (M' := ac_r299) aa_kV_ok (by decide +kernel) ce_299 lk_RX1_27 cs_299 rfl (by decide) rfl) (bs_ccs bz_k0) : bz_ok false 9 49 (bz_ccs 299 2 4 0 52)),
  List.forall_mem_cons.mpr ⟨(bz_of (A := aa_retv) (as_vret mk_9 (by decide +kernel) rfl) bs_retv : bz_ok false 9 52 (bz_retv)),
  fun _ h => absurd h List.not_mem_nil⟩⟩⟩
theorem bd_9_ok : bz_tk false 9 bd_9 :=
  List.forall_mem_cons.mpr ⟨bd_9_0,
  List.forall_mem_cons.mpr ⟨bd_9_1,
  List.forall_mem_cons.mpr ⟨bd_9_2,
  List.forall_mem_cons.mpr ⟨bd_9_3,
  fun _ h => absurd h List.not_mem_nil⟩⟩⟩⟩
def bd_17 : bz_T := [(13, [(0, bz_lda 0 1), (1, bz_obj 4), (4, bz_lda 0 5), (5, bz_pu (.inl 30) 7), (7, bz_newa 100 9), (9, bz_putF 2 2 12), (12, bz_lda 0 13), (13, bz_pu (.inl 30) 15)]), (29, [(15, bz_newa 100 17), (17, bz_putF 2 3 20), (20, bz_lda 0 21), (21, bz_pu (.inl 30) 23), (23, bz_newa 100 25), (25, bz_putF 2 4 28), (28, bz_lda 0 29), (29, bz_lda 1 30)]), (33, [(30, bz_putF 2 0 33), (33, bz_retv)])]
theorem bd_17_0 : ∀ q ∈ ([(0, bz_lda 0 1), (1, bz_obj 4), (4, bz_lda 0 5), (5, bz_pu (.inl 30) 7), (7, bz_newa 100 9), (9, bz_putF 2 2 12), (12, bz_lda 0 13), (13, bz_pu (.inl 30) 15)] : List (Nat × bz_Op)), bz_ok false 17 q.1 q.2 :=
  List.forall_mem_cons.mpr ⟨(bz_of (A := aa_lda 0 1) (as_aload_n mk_17 (k := 0) (by decide +kernel) rfl rfl) bs_lda : bz_ok false 17 0 (bz_lda 0 1)),
  List.forall_mem_cons.mpr ⟨(bo_obj mk_17 (ix := 3) (by decide +kernel) rfl (aa_bw 172 (by decide +kernel) rfl) oi_i oi_c : bz_ok false 17 1 (bz_obj 4)),
  List.forall_mem_cons.mpr ⟨(bz_of (A := aa_lda 0 5) (as_aload_n mk_17 (k := 0) (by decide +kernel) rfl rfl) bs_lda : bz_ok false 17 4 (bz_lda 0 5)),
  List.forall_mem_cons.mpr ⟨(bz_of (A := aa_pu (.int 30) 7) (as_bipush mk_17 (n := 30) (by decide +kernel) (by decide +kernel) rfl) (bs_pu rfl) : bz_ok false 17 5 (bz_pu (.inl 30) 7)),
  List.forall_mem_cons.mpr ⟨(bo_newI mk_17 (by decide +kernel) rfl (aa_bw 129 (by decide +kernel) rfl) : bz_ok false 17 7 (bz_newa 100 9)),
  List.forall_mem_cons.mpr ⟨(bo_putF mk_17 (ix := 9) (by decide +kernel) rfl (fd_RX2_9 rfl) pf_2_2 : bz_ok false 17 9 (bz_putF 2 2 12)),
  List.forall_mem_cons.mpr ⟨(bz_of (A := aa_lda 0 13) (as_aload_n mk_17 (k := 0) (by decide +kernel) rfl rfl) bs_lda : bz_ok false 17 12 (bz_lda 0 13)),
  List.forall_mem_cons.mpr ⟨(bz_of (A := aa_pu (.int 30) 15) (as_bipush mk_17 (n := 30) (by decide +kernel) (by decide +kernel) rfl) (bs_pu rfl) : bz_ok false 17 13 (bz_pu (.inl 30) 15)),
  fun _ h => absurd h List.not_mem_nil⟩⟩⟩⟩⟩⟩⟩⟩
theorem bd_17_1 : ∀ q ∈ ([(15, bz_newa 100 17), (17, bz_putF 2 3 20), (20, bz_lda 0 21), (21, bz_pu (.inl 30) 23), (23, bz_newa 100 25), (25, bz_putF 2 4 28), (28, bz_lda 0 29), (29, bz_lda 1 30)] : List (Nat × bz_Op)), bz_ok false 17 q.1 q.2 :=
  List.forall_mem_cons.mpr ⟨(bo_newI mk_17 (by decide +kernel) rfl (aa_bw 129 (by decide +kernel) rfl) : bz_ok false 17 15 (bz_newa 100 17)),
  List.forall_mem_cons.mpr ⟨(bo_putF mk_17 (ix := 15) (by decide +kernel) rfl (fd_RX2_15 rfl) pf_2_3 : bz_ok false 17 17 (bz_putF 2 3 20)),
  List.forall_mem_cons.mpr ⟨(bz_of (A := aa_lda 0 21) (as_aload_n mk_17 (k := 0) (by decide +kernel) rfl rfl) bs_lda : bz_ok false 17 20 (bz_lda 0 21)),
  List.forall_mem_cons.mpr ⟨(bz_of (A := aa_pu (.int 30) 23) (as_bipush mk_17 (n := 30) (by decide +kernel) (by decide +kernel) rfl) (bs_pu rfl) : bz_ok false 17 21 (bz_pu (.inl 30) 23)),
  List.forall_mem_cons.mpr ⟨(bo_newI mk_17 (by decide +kernel) rfl (aa_bw 129 (by decide +kernel) rfl) : bz_ok false 17 23 (bz_newa 100 25)),
  List.forall_mem_cons.mpr ⟨(bo_putF mk_17 (ix := 18) (by decide +kernel) rfl (fd_RX2_18 rfl) pf_2_4 : bz_ok false 17 25 (bz_putF 2 4 28)),
  List.forall_mem_cons.mpr ⟨(bz_of (A := aa_lda 0 29) (as_aload_n mk_17 (k := 0) (by decide +kernel) rfl rfl) bs_lda : bz_ok false 17 28 (bz_lda 0 29)),
  List.forall_mem_cons.mpr ⟨(bz_of (A := aa_lda 1 30) (as_aload_n mk_17 (k := 1) (by decide +kernel) rfl rfl) bs_lda : bz_ok false 17 29 (bz_lda 1 30)),
  fun _ h => absurd h List.not_mem_nil⟩⟩⟩⟩⟩⟩⟩⟩
theorem bd_17_2 : ∀ q ∈ ([(30, bz_putF 2 0 33), (33, bz_retv)] : List (Nat × bz_Op)), bz_ok false 17 q.1 q.2 :=
  List.forall_mem_cons.mpr ⟨(bo_putF mk_17 (ix := 21) (by decide +kernel) rfl (fd_RX2_21 rfl) pf_2_0 : bz_ok false 17 30 (bz_putF 2 0 33)),
  List.forall_mem_cons.mpr ⟨(bz_of (A := aa_retv) (as_vret mk_17 (by decide +kernel) rfl) bs_retv : bz_ok false 17 33 (bz_retv)),
  fun _ h => absurd h List.not_mem_nil⟩⟩
theorem bd_17_ok : bz_tk false 17 bd_17 :=
  List.forall_mem_cons.mpr ⟨bd_17_0,
  List.forall_mem_cons.mpr ⟨bd_17_1,
  List.forall_mem_cons.mpr ⟨bd_17_2,
  fun _ h => absurd h List.not_mem_nil⟩⟩⟩
def bd_24 : bz_T := [(14, [(0, bz_lda 0 1), (1, bz_obj 4), (4, bz_lda 0 5), (5, bz_pu (.inl 160) 8), (8, bz_newa 101 10), (10, bz_putF 3 0 13), (13, bz_lda 0 14), (14, bz_pu (.inl 161) 17)]), (32, [(17, bz_newa 100 19), (19, bz_putF 3 2 22), (22, bz_lda 0 23), (23, bz_pu (.inl 161) 26), (26, bz_newa 100 28), (28, bz_putF 3 3 31), (31, bz_lda 0 32), (32, bz_pu (.inl 161) 35)]), (40, [(35, bz_newa 100 37), (37, bz_putF 3 4 40), (40, bz_retv)])]
theorem bd_24_0 : ∀ q ∈ ([(0, bz_lda 0 1), (1, bz_obj 4), (4, bz_lda 0 5), (5, bz_pu (.inl 160) 8), (8, bz_newa 101 10), (10, bz_putF 3 0 13), (13, bz_lda 0 14), (14, bz_pu (.inl 161) 17)] : List (Nat × bz_Op)), bz_ok false 24 q.1 q.2 :=
  List.forall_mem_cons.mpr ⟨(bz_of (A := aa_lda 0 1) (as_aload_n mk_24 (k := 0) (by decide +kernel) rfl rfl) bs_lda : bz_ok false 24 0 (bz_lda 0 1)),
  List.forall_mem_cons.mpr ⟨(bo_obj mk_24 (ix := 5) (by decide +kernel) rfl (aa_bw 326 (by decide +kernel) rfl) oi_i oi_c : bz_ok false 24 1 (bz_obj 4)),
  List.forall_mem_cons.mpr ⟨(bz_of (A := aa_lda 0 5) (as_aload_n mk_24 (k := 0) (by decide +kernel) rfl rfl) bs_lda : bz_ok false 24 4 (bz_lda 0 5)),
  List.forall_mem_cons.mpr ⟨(bz_of (A := aa_pu (.int 160) 8) (as_sipush mk_24 (n := 160) (by decide +kernel) (by decide +kernel) rfl) (bs_pu rfl) : bz_ok false 24 5 (bz_pu (.inl 160) 8)),
  List.forall_mem_cons.mpr ⟨(bo_newB mk_24 (by decide +kernel) rfl (aa_bw 355 (by decide +kernel) rfl) : bz_ok false 24 8 (bz_newa 101 10)),
  List.forall_mem_cons.mpr ⟨(bo_putF mk_24 (ix := 11) (by decide +kernel) rfl (fd_RX3_11 rfl) pf_3_0 : bz_ok false 24 10 (bz_putF 3 0 13)),
  List.forall_mem_cons.mpr ⟨(bz_of (A := aa_lda 0 14) (as_aload_n mk_24 (k := 0) (by decide +kernel) rfl rfl) bs_lda : bz_ok false 24 13 (bz_lda 0 14)),
  List.forall_mem_cons.mpr ⟨(bz_of (A := aa_pu (.int 161) 17) (as_sipush mk_24 (n := 161) (by decide +kernel) (by decide +kernel) rfl) (bs_pu rfl) : bz_ok false 24 14 (bz_pu (.inl 161) 17)),
  fun _ h => absurd h List.not_mem_nil⟩⟩⟩⟩⟩⟩⟩⟩
theorem bd_24_1 : ∀ q ∈ ([(17, bz_newa 100 19), (19, bz_putF 3 2 22), (22, bz_lda 0 23), (23, bz_pu (.inl 161) 26), (26, bz_newa 100 28), (28, bz_putF 3 3 31), (31, bz_lda 0 32), (32, bz_pu (.inl 161) 35)] : List (Nat × bz_Op)), bz_ok false 24 q.1 q.2 :=
  List.forall_mem_cons.mpr ⟨(bo_newI mk_24 (by decide +kernel) rfl (aa_bw 129 (by decide +kernel) rfl) : bz_ok false 24 17 (bz_newa 100 19)),
  List.forall_mem_cons.mpr ⟨(bo_putF mk_24 (ix := 15) (by decide +kernel) rfl (fd_RX3_15 rfl) pf_3_2 : bz_ok false 24 19 (bz_putF 3 2 22)),
  List.forall_mem_cons.mpr ⟨(bz_of (A := aa_lda 0 23) (as_aload_n mk_24 (k := 0) (by decide +kernel) rfl rfl) bs_lda : bz_ok false 24 22 (bz_lda 0 23)),
  List.forall_mem_cons.mpr ⟨(bz_of (A := aa_pu (.int 161) 26) (as_sipush mk_24 (n := 161) (by decide +kernel) (by decide +kernel) rfl) (bs_pu rfl) : bz_ok false 24 23 (bz_pu (.inl 161) 26)),
  List.forall_mem_cons.mpr ⟨(bo_newI mk_24 (by decide +kernel) rfl (aa_bw 129 (by decide +kernel) rfl) : bz_ok false 24 26 (bz_newa 100 28)),
  List.forall_mem_cons.mpr ⟨(bo_putF mk_24 (ix := 19) (by decide +kernel) rfl (fd_RX3_19 rfl) pf_3_3 : bz_ok false 24 28 (bz_putF 3 3 31)),
  List.forall_mem_cons.mpr ⟨(bz_of (A := aa_lda 0 32) (as_aload_n mk_24 (k := 0) (by decide +kernel) rfl rfl) bs_lda : bz_ok false 24 31 (bz_lda 0 32)),
  List.forall_mem_cons.mpr ⟨(bz_of (A := aa_pu (.int 161) 35) (as_sipush mk_24 (n := 161) (by decide +kernel) (by decide +kernel) rfl) (bs_pu rfl) : bz_ok false 24 32 (bz_pu (.inl 161) 35)),
  fun _ h => absurd h List.not_mem_nil⟩⟩⟩⟩⟩⟩⟩⟩
theorem bd_24_2 : ∀ q ∈ ([(35, bz_newa 100 37), (37, bz_putF 3 4 40), (40, bz_retv)] : List (Nat × bz_Op)), bz_ok false 24 q.1 q.2 :=
  List.forall_mem_cons.mpr ⟨(bo_newI mk_24 (by decide +kernel) rfl (aa_bw 129 (by decide +kernel) rfl) : bz_ok false 24 35 (bz_newa 100 37)),
  List.forall_mem_cons.mpr ⟨(bo_putF mk_24 (ix := 22) (by decide +kernel) rfl (fd_RX3_22 rfl) pf_3_4 : bz_ok false 24 37 (bz_putF 3 4 40)),
  List.forall_mem_cons.mpr ⟨(bz_of (A := aa_retv) (as_vret mk_24 (by decide +kernel) rfl) bs_retv : bz_ok false 24 40 (bz_retv)),
  fun _ h => absurd h List.not_mem_nil⟩⟩⟩
theorem bd_24_ok : bz_tk false 24 bd_24 :=
  List.forall_mem_cons.mpr ⟨bd_24_0,
  List.forall_mem_cons.mpr ⟨bd_24_1,
  List.forall_mem_cons.mpr ⟨bd_24_2,
  fun _ h => absurd h List.not_mem_nil⟩⟩⟩
def bd_47 : bz_T := [(16, [(0, bz_lda 0 1), (1, bz_obj 4), (4, bz_lda 0 5), (5, bz_pu (.inl 8) 7), (7, bz_pu (.inl 8) 9), (9, bz_multi 13), (13, bz_putF 4 0 16), (16, bz_lda 0 17)]), (33, [(17, bz_pu (.inl 8) 19), (19, bz_pu (.inl 8) 21), (21, bz_multi 25), (25, bz_putF 4 1 28), (28, bz_lda 0 29), (29, bz_pu (.inl 8) 31), (31, bz_pu (.inl 8) 33), (33, bz_multi 37)]), (49, [(37, bz_putF 4 2 40), (40, bz_pu (.inl 0) 41), (41, bz_sti 1 42), (42, bz_ldi 1 43), (43, bz_pu (.inl 8) 45), (45, bz_icmp bh_lt 48 65), (48, bz_lda 0 49), (49, bz_gR 4 0 52)]), (66, [(52, bz_ldi 1 53), (53, bz_ar 103 54), (54, bz_pu (.inl 99) 56), (56, bz_ccs 299 2 4 0 59), (59, bz_inc 1 1 62), (62, bz_go 42), (65, bz_lda 0 66), (66, bz_lda 0 67)]), (80, [(67, bz_gR 4 1 70), (70, bz_pu (.inl 0) 71), (71, bz_ccv 54 2 6 4 0 74), (74, bz_lda 0 75), (75, bz_lda 0 76), (76, bz_gR 4 2 79), (79, bz_pu (.inl 1) 80), (80, bz_ccv 54 2 6 4 0 83)]), (83, [(83, bz_retv)])]
theorem bd_47_0 : ∀ q ∈ ([(0, bz_lda 0 1), (1, bz_obj 4), (4, bz_lda 0 5), (5, bz_pu (.inl 8) 7), (7, bz_pu (.inl 8) 9), (9, bz_multi 13), (13, bz_putF 4 0 16), (16, bz_lda 0 17)] : List (Nat × bz_Op)), bz_ok false 47 q.1 q.2 :=
  List.forall_mem_cons.mpr ⟨(bz_of (A := aa_lda 0 1) (as_aload_n mk_47 (k := 0) (by decide +kernel) rfl rfl) bs_lda : bz_ok false 47 0 (bz_lda 0 1)),
  List.forall_mem_cons.mpr ⟨(bo_obj mk_47 (ix := 3) (by decide +kernel) rfl (aa_bw 106 (by decide +kernel) rfl) oi_i oi_c : bz_ok false 47 1 (bz_obj 4)),
  List.forall_mem_cons.mpr ⟨(bz_of (A := aa_lda 0 5) (as_aload_n mk_47 (k := 0) (by decide +kernel) rfl rfl) bs_lda : bz_ok false 47 4 (bz_lda 0 5)),
  List.forall_mem_cons.mpr ⟨(bz_of (A := aa_pu (.int 8) 7) (as_bipush mk_47 (n := 8) (by decide +kernel) (by decide +kernel) rfl) (bs_pu rfl) : bz_ok false 47 5 (bz_pu (.inl 8) 7)),
  List.forall_mem_cons.mpr ⟨(bz_of (A := aa_pu (.int 8) 9) (as_bipush mk_47 (n := 8) (by decide +kernel) (by decide +kernel) rfl) (bs_pu rfl) : bz_ok false 47 7 (bz_pu (.inl 8) 9)),
  List.forall_mem_cons.mpr ⟨(bo_multi mk_47 (ix := 9) (by decide +kernel) rfl (aa_bw 107 (by decide +kernel) rfl) (aa_bw 129 (by decide +kernel) rfl) : bz_ok false 47 9 (bz_multi 13)),
  List.forall_mem_cons.mpr ⟨(bo_putF mk_47 (ix := 11) (by decide +kernel) rfl (fd_RX4_11 rfl) pf_4_0 : bz_ok false 47 13 (bz_putF 4 0 16)),
  List.forall_mem_cons.mpr ⟨(bz_of (A := aa_lda 0 17) (as_aload_n mk_47 (k := 0) (by decide +kernel) rfl rfl) bs_lda : bz_ok false 47 16 (bz_lda 0 17)),
  fun _ h => absurd h List.not_mem_nil⟩⟩⟩⟩⟩⟩⟩⟩
theorem bd_47_1 : ∀ q ∈ ([(17, bz_pu (.inl 8) 19), (19, bz_pu (.inl 8) 21), (21, bz_multi 25), (25, bz_putF 4 1 28), (28, bz_lda 0 29), (29, bz_pu (.inl 8) 31), (31, bz_pu (.inl 8) 33), (33, bz_multi 37)] : List (Nat × bz_Op)), bz_ok false 47 q.1 q.2 :=
  List.forall_mem_cons.mpr ⟨(bz_of (A := aa_pu (.int 8) 19) (as_bipush mk_47 (n := 8) (by decide +kernel) (by decide +kernel) rfl) (bs_pu rfl) : bz_ok false 47 17 (bz_pu (.inl 8) 19)),
  List.forall_mem_cons.mpr ⟨(bz_of (A := aa_pu (.int 8) 21) (as_bipush mk_47 (n := 8) (by decide +kernel) (by decide +kernel) rfl) (bs_pu rfl) : bz_ok false 47 19 (bz_pu (.inl 8) 21)),
  List.forall_mem_cons.mpr ⟨(bo_multi mk_47 (ix := 9) (by decide +kernel) rfl (aa_bw 107 (by decide +kernel) rfl) (aa_bw 129 (by decide +kernel) rfl) : bz_ok false 47 21 (bz_multi 25)),
  List.forall_mem_cons.mpr ⟨(bo_putF mk_47 (ix := 16) (by decide +kernel) rfl (fd_RX4_16 rfl) pf_4_1 : bz_ok false 47 25 (bz_putF 4 1 28)),
  List.forall_mem_cons.mpr ⟨(bz_of (A := aa_lda 0 29) (as_aload_n mk_47 (k := 0) (by decide +kernel) rfl rfl) bs_lda : bz_ok false 47 28 (bz_lda 0 29)),
  List.forall_mem_cons.mpr ⟨(bz_of (A := aa_pu (.int 8) 31) (as_bipush mk_47 (n := 8) (by decide +kernel) (by decide +kernel) rfl) (bs_pu rfl) : bz_ok false 47 29 (bz_pu (.inl 8) 31)),
  List.forall_mem_cons.mpr ⟨(bz_of (A := aa_pu (.int 8) 33) (as_bipush mk_47 (n := 8) (by decide +kernel) (by decide +kernel) rfl) (bs_pu rfl) : bz_ok false 47 31 (bz_pu (.inl 8) 33)),
  List.forall_mem_cons.mpr ⟨(bo_multi mk_47 (ix := 9) (by decide +kernel) rfl (aa_bw 107 (by decide +kernel) rfl) (aa_bw 129 (by decide +kernel) rfl) : bz_ok false 47 33 (bz_multi 37)),
  fun _ h => absurd h List.not_mem_nil⟩⟩⟩⟩⟩⟩⟩⟩
theorem bd_47_2 : ∀ q ∈ ([(37, bz_putF 4 2 40), (40, bz_pu (.inl 0) 41), (41, bz_sti 1 42), (42, bz_ldi 1 43), (43, bz_pu (.inl 8) 45), (45, bz_icmp bh_lt 48 65), (48, bz_lda 0 49), (49, bz_gR 4 0 52)] : List (Nat × bz_Op)), bz_ok false 47 q.1 q.2 :=
  List.forall_mem_cons.mpr ⟨(bo_putF mk_47 (ix := 19) (by decide +kernel) rfl (fd_RX4_19 rfl) pf_4_2 : bz_ok false 47 37 (bz_putF 4 2 40)),
  List.forall_mem_cons.mpr ⟨(bz_of (A := aa_pu (.int 0) 41) (as_iconst mk_47 (n := 0) (by decide +kernel) (by decide +kernel) rfl) (bs_pu rfl) : bz_ok false 47 40 (bz_pu (.inl 0) 41)),
  List.forall_mem_cons.mpr ⟨(bz_of (A := aa_sti 1 42) (as_istore_n mk_47 (k := 1) (by decide +kernel) rfl (by decide) rfl) bs_sti : bz_ok false 47 41 (bz_sti 1 42)),
  List.forall_mem_cons.mpr ⟨(bz_of (A := aa_ldi 1 43) (as_iload_n mk_47 (k := 1) (by decide +kernel) rfl rfl) bs_ldi : bz_ok false 47 42 (bz_ldi 1 43)),
  List.forall_mem_cons.mpr ⟨(bz_of (A := aa_pu (.int 8) 45) (as_bipush mk_47 (n := 8) (by decide +kernel) (by decide +kernel) rfl) (bs_pu rfl) : bz_ok false 47 43 (bz_pu (.inl 8) 45)),
  List.forall_mem_cons.mpr ⟨(bz_of (A := aa_icmp (fun x y => x < y) 48 65) (as_icmp_ge mk_47 (off := 20) (by decide +kernel) (by decide +kernel) rfl) (bs_icmp bh_lt_ok) : bz_ok false 47 45 (bz_icmp bh_lt 48 65)),
  List.forall_mem_cons.mpr ⟨(bz_of (A := aa_lda 0 49) (as_aload_n mk_47 (k := 0) (by decide +kernel) rfl rfl) bs_lda : bz_ok false 47 48 (bz_lda 0 49)),
  List.forall_mem_cons.mpr ⟨(bz_of (A := aa_gR 4 0 52) (as_gR mk_47 (ix := 11) (by decide +kernel) (fd_RX4_11 rfl) rfl) bs_gR : bz_ok false 47 49 (bz_gR 4 0 52)),
  fun _ h => absurd h List.not_mem_nil⟩⟩⟩⟩⟩⟩⟩⟩
theorem bd_47_3 : ∀ q ∈ ([(52, bz_ldi 1 53), (53, bz_ar 103 54), (54, bz_pu (.inl 99) 56), (56, bz_ccs 299 2 4 0 59), (59, bz_inc 1 1 62), (62, bz_go 42), (65, bz_lda 0 66), (66, bz_lda 0 67)] : List (Nat × bz_Op)), bz_ok false 47 q.1 q.2 :=
  List.forall_mem_cons.mpr ⟨(bz_of (A := aa_ldi 1 53) (as_iload_n mk_47 (k := 1) (by decide +kernel) rfl rfl) bs_ldi : bz_ok false 47 52 (bz_ldi 1 53)),
  List.forall_mem_cons.mpr ⟨(bz_of (A := aa_ar_ 103 54) (as_ar_ mk_47 (Or.inr rfl) (by decide +kernel) rfl) bs_ar : bz_ok false 47 53 (bz_ar 103 54)),
  List.forall_mem_cons.mpr ⟨(bz_of (A := aa_pu (.int 99) 56) (as_bipush mk_47 (n := 99) (by decide +kernel) (by decide +kernel) rfl) (bs_pu rfl) : bz_ok false 47 54 (bz_pu (.inl 99) 56)),
  List.forall_mem_cons.mpr ⟨(bz_of (A := aa_ccs 299 2 4 aa_kV 59) (as_ccs mk_47 (ix := 22) (M' := ac_r299) aa_kV_ok (by decide +kernel) ce_299 lk_RX4_22 cs_299 rfl (by decide) rfl) (bs_ccs bz_k0) : bz_ok false 47 56 (bz_ccs 299 2 4 0 59)),
  List.forall_mem_cons.mpr ⟨(bz_of (A := aa_inc 1 1 62) (as_iinc mk_47 (n := 1) (by decide +kernel) (by decide +kernel) (by decide) rfl) (bs_inc (by decide +kernel)) : bz_ok false 47 59 (bz_inc 1 1 62)),
  List.forall_mem_cons.mpr ⟨(bz_of (A := aa_go 42) (as_goto mk_47 (off := (-20)) (by decide +kernel) (by decide +kernel)) bs_go : bz_ok false 47 62 (bz_go 42)),
  List.forall_mem_cons.mpr ⟨(bz_of (A := aa_lda 0 66) (as_aload_n mk_47 (k := 0) (by decide +kernel) rfl rfl) bs_lda : bz_ok false 47 65 (bz_lda 0 66)),
  List.forall_mem_cons.mpr ⟨(bz_of (A := aa_lda 0 67) (as_aload_n mk_47 (k := 0) (by decide +kernel) rfl rfl) bs_lda : bz_ok false 47 66 (bz_lda 0 67)),
  fun _ h => absurd h List.not_mem_nil⟩⟩⟩⟩⟩⟩⟩⟩
theorem bd_47_4 : ∀ q ∈ ([(67, bz_gR 4 1 70), (70, bz_pu (.inl 0) 71), (71, bz_ccv 54 2 6 4 0 74), (74, bz_lda 0 75), (75, bz_lda 0 76), (76, bz_gR 4 2 79), (79, bz_pu (.inl 1) 80), (80, bz_ccv 54 2 6 4 0 83)] : List (Nat × bz_Op)), bz_ok false 47 q.1 q.2 :=
  List.forall_mem_cons.mpr ⟨(bz_of (A := aa_gR 4 1 70) (as_gR mk_47 (ix := 16) (by decide +kernel) (fd_RX4_16 rfl) rfl) bs_gR : bz_ok false 47 67 (bz_gR 4 1 70)),
  List.forall_mem_cons.mpr ⟨(bz_of (A := aa_pu (.int 0) 71) (as_iconst mk_47 (n := 0) (by decide +kernel) (by decide +kernel) rfl) (bs_pu rfl) : bz_ok false 47 70 (bz_pu (.inl 0) 71)),
  List.forall_mem_cons.mpr ⟨(bz_of (A := aa_ccv 54 2 6 4 aa_kV 74) (as_ccv mk_47 (ix := 28) aa_kV_ok (by decide +kernel) (cx_RX4_28 rfl) rfl) (bs_ccv bz_k0) : bz_ok false 47 71 (bz_ccv 54 2 6 4 0 74)),
  List.forall_mem_cons.mpr ⟨(bz_of (A := aa_lda 0 75) (as_aload_n mk_47 (k := 0) (by decide +kernel) rfl rfl) bs_lda : bz_ok false 47 74 (bz_lda 0 75)),
  List.forall_mem_cons.mpr ⟨(bz_of (A := aa_lda 0 76) (as_aload_n mk_47 (k := 0) (by decide +kernel) rfl rfl) bs_lda : bz_ok false 47 75 (bz_lda 0 76)),
  List.forall_mem_cons.mpr ⟨(bz_of (A := aa_gR 4 2 79) (as_gR mk_47 (ix := 19) (by decide +kernel) (fd_RX4_19 rfl) rfl) bs_gR : bz_ok false 47 76 (bz_gR 4 2 79)),
  List.forall_mem_cons.mpr ⟨(bz_of (A := aa_pu (.int 1) 80) (as_iconst mk_47 (n := 1) (by decide +kernel) (by decide +kernel) rfl) (bs_pu rfl) : bz_ok false 47 79 (bz_pu (.inl 1) 80)),
  List.forall_mem_cons.mpr ⟨(bz_of (A := aa_ccv 54 2 6 4 aa_kV 83) (as_ccv mk_47 (ix := 28) aa_kV_ok (by decide +kernel) (cx_RX4_28 rfl) rfl) (bs_ccv bz_k0) : bz_ok false 47 80 (bz_ccv 54 2 6 4 0 83)),
  fun _ h => absurd h List.not_mem_nil⟩⟩⟩⟩⟩⟩⟩⟩
theorem bd_47_5 : ∀ q ∈ ([(83, bz_retv)] : List (Nat × bz_Op)), bz_ok false 47 q.1 q.2 :=
  List.forall_mem_cons.mpr ⟨(bz_of (A := aa_retv) (as_vret mk_47 (by decide +kernel) rfl) bs_retv : bz_ok false 47 83 (bz_retv)),
  fun _ h => absurd h List.not_mem_nil⟩
theorem bd_47_ok : bz_tk false 47 bd_47 :=
  List.forall_mem_cons.mpr ⟨bd_47_0,
  List.forall_mem_cons.mpr ⟨bd_47_1,
  List.forall_mem_cons.mpr ⟨bd_47_2,
  List.forall_mem_cons.mpr ⟨bd_47_3,
  List.forall_mem_cons.mpr ⟨bd_47_4,
  List.forall_mem_cons.mpr ⟨bd_47_5,
  fun _ h => absurd h List.not_mem_nil⟩⟩⟩⟩⟩⟩
def bd_55 : bz_T := [(12, [(0, bz_lda 0 1), (1, bz_obj 4), (4, bz_lda 0 5), (5, bz_pu (.inl 4) 6), (6, bz_newa 100 8), (8, bz_putF 5 0 11), (11, bz_lda 0 12), (12, bz_pu (.inl 4) 13)]), (29, [(13, bz_newa 100 15), (15, bz_putF 5 1 18), (18, bz_lda 0 19), (19, bz_pu (.inl 4) 20), (20, bz_pu (.inl 40) 22), (22, bz_multi 26), (26, bz_putF 5 2 29), (29, bz_lda 0 30)]), (37, [(30, bz_gR 5 0 33), (33, bz_pu (.inl 4294967295) 34), (34, bz_ccs 299 2 4 0 37), (37, bz_retv)])]
theorem bd_55_0 : ∀ q ∈ ([(0, bz_lda 0 1), (1, bz_obj 4), (4, bz_lda 0 5), (5, bz_pu (.inl 4) 6), (6, bz_newa 100 8), (8, bz_putF 5 0 11), (11, bz_lda 0 12), (12, bz_pu (.inl 4) 13)] : List (Nat × bz_Op)), bz_ok false 55 q.1 q.2 :=
  List.forall_mem_cons.mpr ⟨(bz_of (A := aa_lda 0 1) (as_aload_n mk_55 (k := 0) (by decide +kernel) rfl rfl) bs_lda : bz_ok false 55 0 (bz_lda 0 1)),
  List.forall_mem_cons.mpr ⟨(bo_obj mk_55 (ix := 3) (by decide +kernel) rfl (aa_bw 308 (by decide +kernel) rfl) oi_i oi_c : bz_ok false 55 1 (bz_obj 4)),
  List.forall_mem_cons.mpr ⟨(bz_of (A := aa_lda 0 5) (as_aload_n mk_55 (k := 0) (by decide +kernel) rfl rfl) bs_lda : bz_ok false 55 4 (bz_lda 0 5)),
  List.forall_mem_cons.mpr ⟨(bz_of (A := aa_pu (.int 4) 6) (as_iconst mk_55 (n := 4) (by decide +kernel) (by decide +kernel) rfl) (bs_pu rfl) : bz_ok false 55 5 (bz_pu (.inl 4) 6)),
  List.forall_mem_cons.mpr ⟨(bo_newI mk_55 (by decide +kernel) rfl (aa_bw 129 (by decide +kernel) rfl) : bz_ok false 55 6 (bz_newa 100 8)),
  List.forall_mem_cons.mpr ⟨(bo_putF mk_55 (ix := 9) (by decide +kernel) rfl (fd_RX5_9 rfl) pf_5_0 : bz_ok false 55 8 (bz_putF 5 0 11)),
  List.forall_mem_cons.mpr ⟨(bz_of (A := aa_lda 0 12) (as_aload_n mk_55 (k := 0) (by decide +kernel) rfl rfl) bs_lda : bz_ok false 55 11 (bz_lda 0 12)),
  List.forall_mem_cons.mpr ⟨(bz_of (A := aa_pu (.int 4) 13) (as_iconst mk_55 (n := 4) (by decide +kernel) (by decide +kernel) rfl) (bs_pu rfl) : bz_ok false 55 12 (bz_pu (.inl 4) 13)),
  fun _ h => absurd h List.not_mem_nil⟩⟩⟩⟩⟩⟩⟩⟩
theorem bd_55_1 : ∀ q ∈ ([(13, bz_newa 100 15), (15, bz_putF 5 1 18), (18, bz_lda 0 19), (19, bz_pu (.inl 4) 20), (20, bz_pu (.inl 40) 22), (22, bz_multi 26), (26, bz_putF 5 2 29), (29, bz_lda 0 30)] : List (Nat × bz_Op)), bz_ok false 55 q.1 q.2 :=
  List.forall_mem_cons.mpr ⟨(bo_newI mk_55 (by decide +kernel) rfl (aa_bw 129 (by decide +kernel) rfl) : bz_ok false 55 13 (bz_newa 100 15)),
  List.forall_mem_cons.mpr ⟨(bo_putF mk_55 (ix := 15) (by decide +kernel) rfl (fd_RX5_15 rfl) pf_5_1 : bz_ok false 55 15 (bz_putF 5 1 18)),
  List.forall_mem_cons.mpr ⟨(bz_of (A := aa_lda 0 19) (as_aload_n mk_55 (k := 0) (by decide +kernel) rfl rfl) bs_lda : bz_ok false 55 18 (bz_lda 0 19)),
  List.forall_mem_cons.mpr ⟨(bz_of (A := aa_pu (.int 4) 20) (as_iconst mk_55 (n := 4) (by decide +kernel) (by decide +kernel) rfl) (bs_pu rfl) : bz_ok false 55 19 (bz_pu (.inl 4) 20)),
  List.forall_mem_cons.mpr ⟨(bz_of (A := aa_pu (.int 40) 22) (as_bipush mk_55 (n := 40) (by decide +kernel) (by decide +kernel) rfl) (bs_pu rfl) : bz_ok false 55 20 (bz_pu (.inl 40) 22)),
  List.forall_mem_cons.mpr ⟨(bo_multi mk_55 (ix := 18) (by decide +kernel) rfl (aa_bw 309 (by decide +kernel) rfl) (aa_bw 129 (by decide +kernel) rfl) : bz_ok false 55 22 (bz_multi 26)),
  List.forall_mem_cons.mpr ⟨(bo_putF mk_55 (ix := 20) (by decide +kernel) rfl (fd_RX5_20 rfl) pf_5_2 : bz_ok false 55 26 (bz_putF 5 2 29)),
  List.forall_mem_cons.mpr ⟨(bz_of (A := aa_lda 0 30) (as_aload_n mk_55 (k := 0) (by decide +kernel) rfl rfl) bs_lda : bz_ok false 55 29 (bz_lda 0 30)),
  fun _ h => absurd h List.not_mem_nil⟩⟩⟩⟩⟩⟩⟩⟩
theorem bd_55_2 : ∀ q ∈ ([(30, bz_gR 5 0 33), (33, bz_pu (.inl 4294967295) 34), (34, bz_ccs 299 2 4 0 37), (37, bz_retv)] : List (Nat × bz_Op)), bz_ok false 55 q.1 q.2 :=
  List.forall_mem_cons.mpr ⟨(bz_of (A := aa_gR 5 0 33) (as_gR mk_55 (ix := 9) (by decide +kernel) (fd_RX5_9 rfl) rfl) bs_gR : bz_ok false 55 30 (bz_gR 5 0 33)),
  List.forall_mem_cons.mpr ⟨(bz_of (A := aa_pu (.int (-1)) 34) (as_iconst mk_55 (n := (-1)) (by decide +kernel) (by decide +kernel) rfl) (bs_pu (by decide +kernel)) : bz_ok false 55 33 (bz_pu (.inl 4294967295) 34)),
  List.forall_mem_cons.mpr ⟨(bz_of (A := aa_ccs 299 2 4 aa_kV 37) (as_ccs mk_55 (ix := 23) (M' := ac_r299) aa_kV_ok (by decide +kernel) ce_299 lk_RX5_23 cs_299 rfl (by decide) rfl) (bs_ccs bz_k0) : bz_ok false 55 34 (bz_ccs 299 2 4 0 37)),
  List.forall_mem_cons.mpr ⟨(bz_of (A := aa_retv) (as_vret mk_55 (by decide +kernel) rfl) bs_retv : bz_ok false 55 37 (bz_retv)),
  fun _ h => absurd h List.not_mem_nil⟩⟩⟩⟩
theorem bd_55_ok : bz_tk false 55 bd_55 :=
  List.forall_mem_cons.mpr ⟨bd_55_0,
  List.forall_mem_cons.mpr ⟨bd_55_1,
  List.forall_mem_cons.mpr ⟨bd_55_2,
  fun _ h => absurd h List.not_mem_nil⟩⟩⟩
def bd_67 : bz_T := [(14, [(0, bz_lda 0 1), (1, bz_obj 4), (4, bz_lda 0 5), (5, bz_pu (.inl 160) 8), (8, bz_newa 100 10), (10, bz_putF 6 0 13), (13, bz_lda 0 14), (14, bz_pu (.inl 64) 16)]), (21, [(16, bz_newa 100 18), (18, bz_putF 6 1 21), (21, bz_retv)])]
theorem bd_67_0 : ∀ q ∈ ([(0, bz_lda 0 1), (1, bz_obj 4), (4, bz_lda 0 5), (5, bz_pu (.inl 160) 8), (8, bz_newa 100 10), (10, bz_putF 6 0 13), (13, bz_lda 0 14), (14, bz_pu (.inl 64) 16)] : List (Nat × bz_Op)), bz_ok false 67 q.1 q.2 :=
  List.forall_mem_cons.mpr ⟨(bz_of (A := aa_lda 0 1) (as_aload_n mk_67 (k := 0) (by decide +kernel) rfl rfl) bs_lda : bz_ok false 67 0 (bz_lda 0 1)),
  List.forall_mem_cons.mpr ⟨(bo_obj mk_67 (ix := 5) (by decide +kernel) rfl (aa_bw 362 (by decide +kernel) rfl) oi_i oi_c : bz_ok false 67 1 (bz_obj 4)),
  List.forall_mem_cons.mpr ⟨(bz_of (A := aa_lda 0 5) (as_aload_n mk_67 (k := 0) (by decide +kernel) rfl rfl) bs_lda : bz_ok false 67 4 (bz_lda 0 5)),
  List.forall_mem_cons.mpr ⟨(bz_of (A := aa_pu (.int 160) 8) (as_sipush mk_67 (n := 160) (by decide +kernel) (by decide +kernel) rfl) (bs_pu rfl) : bz_ok false 67 5 (bz_pu (.inl 160) 8)),
  List.forall_mem_cons.mpr ⟨(bo_newI mk_67 (by decide +kernel) rfl (aa_bw 129 (by decide +kernel) rfl) : bz_ok false 67 8 (bz_newa 100 10)),
  List.forall_mem_cons.mpr ⟨(bo_putF mk_67 (ix := 11) (by decide +kernel) rfl (fd_RX6_11 rfl) pf_6_0 : bz_ok false 67 10 (bz_putF 6 0 13)),
  List.forall_mem_cons.mpr ⟨(bz_of (A := aa_lda 0 14) (as_aload_n mk_67 (k := 0) (by decide +kernel) rfl rfl) bs_lda : bz_ok false 67 13 (bz_lda 0 14)),
  List.forall_mem_cons.mpr ⟨(bz_of (A := aa_pu (.int 64) 16) (as_bipush mk_67 (n := 64) (by decide +kernel) (by decide +kernel) rfl) (bs_pu rfl) : bz_ok false 67 14 (bz_pu (.inl 64) 16)),
  fun _ h => absurd h List.not_mem_nil⟩⟩⟩⟩⟩⟩⟩⟩
theorem bd_67_1 : ∀ q ∈ ([(16, bz_newa 100 18), (18, bz_putF 6 1 21), (21, bz_retv)] : List (Nat × bz_Op)), bz_ok false 67 q.1 q.2 :=
  List.forall_mem_cons.mpr ⟨(bo_newI mk_67 (by decide +kernel) rfl (aa_bw 129 (by decide +kernel) rfl) : bz_ok false 67 16 (bz_newa 100 18)),
  List.forall_mem_cons.mpr ⟨(bo_putF mk_67 (ix := 15) (by decide +kernel) rfl (fd_RX6_15 rfl) pf_6_1 : bz_ok false 67 18 (bz_putF 6 1 21)),
  List.forall_mem_cons.mpr ⟨(bz_of (A := aa_retv) (as_vret mk_67 (by decide +kernel) rfl) bs_retv : bz_ok false 67 21 (bz_retv)),
  fun _ h => absurd h List.not_mem_nil⟩⟩⟩
theorem bd_67_ok : bz_tk false 67 bd_67 :=
  List.forall_mem_cons.mpr ⟨bd_67_0,
  List.forall_mem_cons.mpr ⟨bd_67_1,
  fun _ h => absurd h List.not_mem_nil⟩⟩
def bd_79 : bz_T := [(13, [(0, bz_lda 0 1), (1, bz_obj 4), (4, bz_lda 0 5), (5, bz_pu (.inl 12) 7), (7, bz_newa 100 9), (9, bz_putF 7 3 12), (12, bz_lda 0 13), (13, bz_pu (.inl 40) 15)]), (29, [(15, bz_newa 100 17), (17, bz_putF 7 5 20), (20, bz_lda 0 21), (21, bz_pu (.inl 40) 23), (23, bz_newa 100 25), (25, bz_putF 7 6 28), (28, bz_lda 0 29), (29, bz_pu (.inl 40) 31)]), (45, [(31, bz_newa 100 33), (33, bz_putF 7 7 36), (36, bz_lda 0 37), (37, bz_pu (.inl 40) 39), (39, bz_newa 100 41), (41, bz_putF 7 8 44), (44, bz_lda 0 45), (45, bz_pu (.inl 40) 47)]), (61, [(47, bz_newa 100 49), (49, bz_putF 7 9 52), (52, bz_lda 0 53), (53, bz_pu (.inl 24) 55), (55, bz_newa 100 57), (57, bz_putF 7 11 60), (60, bz_lda 0 61), (61, bz_pu (.inl 24) 63)]), (77, [(63, bz_newa 100 65), (65, bz_putF 7 12 68), (68, bz_lda 0 69), (69, bz_pu (.inl 24) 71), (71, bz_newa 100 73), (73, bz_putF 7 13 76), (76, bz_lda 0 77), (77, bz_pu (.inl 24) 79)]), (93, [(79, bz_newa 100 81), (81, bz_putF 7 14 84), (84, bz_lda 0 85), (85, bz_pu (.inl 24) 87), (87, bz_newa 100 89), (89, bz_putF 7 15 92), (92, bz_lda 0 93), (93, bz_lda 1 94)]), (102, [(94, bz_putF 7 0 97), (97, bz_lda 0 98), (98, bz_lda 2 99), (99, bz_putF 7 1 102), (102, bz_retv)])]
theorem bd_79_0 : ∀ q ∈ ([(0, bz_lda 0 1), (1, bz_obj 4), (4, bz_lda 0 5), (5, bz_pu (.inl 12) 7), (7, bz_newa 100 9), (9, bz_putF 7 3 12), (12, bz_lda 0 13), (13, bz_pu (.inl 40) 15)] : List (Nat × bz_Op)), bz_ok false 79 q.1 q.2 :=
  List.forall_mem_cons.mpr ⟨(bz_of (A := aa_lda 0 1) (as_aload_n mk_79 (k := 0) (by decide +kernel) rfl rfl) bs_lda : bz_ok false 79 0 (bz_lda 0 1)),
  List.forall_mem_cons.mpr ⟨(bo_obj mk_79 (ix := 3) (by decide +kernel) rfl (aa_bw 194 (by decide +kernel) rfl) oi_i oi_c : bz_ok false 79 1 (bz_obj 4)),
  List.forall_mem_cons.mpr ⟨(bz_of (A := aa_lda 0 5) (as_aload_n mk_79 (k := 0) (by decide +kernel) rfl rfl) bs_lda : bz_ok false 79 4 (bz_lda 0 5)),
  List.forall_mem_cons.mpr ⟨(bz_of (A := aa_pu (.int 12) 7) (as_bipush mk_79 (n := 12) (by decide +kernel) (by decide +kernel) rfl) (bs_pu rfl) : bz_ok false 79 5 (bz_pu (.inl 12) 7)),
  List.forall_mem_cons.mpr ⟨(bo_newI mk_79 (by decide +kernel) rfl (aa_bw 129 (by decide +kernel) rfl) : bz_ok false 79 7 (bz_newa 100 9)),
  List.forall_mem_cons.mpr ⟨(bo_putF mk_79 (ix := 9) (by decide +kernel) rfl (fd_RX7_9 rfl) pf_7_3 : bz_ok false 79 9 (bz_putF 7 3 12)),
  List.forall_mem_cons.mpr ⟨(bz_of (A := aa_lda 0 13) (as_aload_n mk_79 (k := 0) (by decide +kernel) rfl rfl) bs_lda : bz_ok false 79 12 (bz_lda 0 13)),
  List.forall_mem_cons.mpr ⟨(bz_of (A := aa_pu (.int 40) 15) (as_bipush mk_79 (n := 40) (by decide +kernel) (by decide +kernel) rfl) (bs_pu rfl) : bz_ok false 79 13 (bz_pu (.inl 40) 15)),
  fun _ h => absurd h List.not_mem_nil⟩⟩⟩⟩⟩⟩⟩⟩
theorem bd_79_1 : ∀ q ∈ ([(15, bz_newa 100 17), (17, bz_putF 7 5 20), (20, bz_lda 0 21), (21, bz_pu (.inl 40) 23), (23, bz_newa 100 25), (25, bz_putF 7 6 28), (28, bz_lda 0 29), (29, bz_pu (.inl 40) 31)] : List (Nat × bz_Op)), bz_ok false 79 q.1 q.2 :=
  List.forall_mem_cons.mpr ⟨(bo_newI mk_79 (by decide +kernel) rfl (aa_bw 129 (by decide +kernel) rfl) : bz_ok false 79 15 (bz_newa 100 17)),
  List.forall_mem_cons.mpr ⟨(bo_putF mk_79 (ix := 15) (by decide +kernel) rfl (fd_RX7_15 rfl) pf_7_5 : bz_ok false 79 17 (bz_putF 7 5 20)),
  List.forall_mem_cons.mpr ⟨(bz_of (A := aa_lda 0 21) (as_aload_n mk_79 (k := 0) (by decide +kernel) rfl rfl) bs_lda : bz_ok false 79 20 (bz_lda 0 21)),
  List.forall_mem_cons.mpr ⟨(bz_of (A := aa_pu (.int 40) 23) (as_bipush mk_79 (n := 40) (by decide +kernel) (by decide +kernel) rfl) (bs_pu rfl) : bz_ok false 79 21 (bz_pu (.inl 40) 23)),
  List.forall_mem_cons.mpr ⟨(bo_newI mk_79 (by decide +kernel) rfl (aa_bw 129 (by decide +kernel) rfl) : bz_ok false 79 23 (bz_newa 100 25)),
  List.forall_mem_cons.mpr ⟨(bo_putF mk_79 (ix := 18) (by decide +kernel) rfl (fd_RX7_18 rfl) pf_7_6 : bz_ok false 79 25 (bz_putF 7 6 28)),
  List.forall_mem_cons.mpr ⟨(bz_of (A := aa_lda 0 29) (as_aload_n mk_79 (k := 0) (by decide +kernel) rfl rfl) bs_lda : bz_ok false 79 28 (bz_lda 0 29)),
  List.forall_mem_cons.mpr ⟨(bz_of (A := aa_pu (.int 40) 31) (as_bipush mk_79 (n := 40) (by decide +kernel) (by decide +kernel) rfl) (bs_pu rfl) : bz_ok false 79 29 (bz_pu (.inl 40) 31)),
  fun _ h => absurd h List.not_mem_nil⟩⟩⟩⟩⟩⟩⟩⟩
theorem bd_79_2 : ∀ q ∈ ([(31, bz_newa 100 33), (33, bz_putF 7 7 36), (36, bz_lda 0 37), (37, bz_pu (.inl 40) 39), (39, bz_newa 100 41), (41, bz_putF 7 8 44), (44, bz_lda 0 45), (45, bz_pu (.inl 40) 47)] : List (Nat × bz_Op)), bz_ok false 79 q.1 q.2 :=
  List.forall_mem_cons.mpr ⟨(bo_newI mk_79 (by decide +kernel) rfl (aa_bw 129 (by decide +kernel) rfl) : bz_ok false 79 31 (bz_newa 100 33)),
  List.forall_mem_cons.mpr ⟨(bo_putF mk_79 (ix := 21) (by decide +kernel) rfl (fd_RX7_21 rfl) pf_7_7 : bz_ok false 79 33 (bz_putF 7 7 36)),
  List.forall_mem_cons.mpr ⟨(bz_of (A := aa_lda 0 37) (as_aload_n mk_79 (k := 0) (by decide +kernel) rfl rfl) bs_lda : bz_ok false 79 36 (bz_lda 0 37)),
  List.forall_mem_cons.mpr ⟨(bz_of (A := aa_pu (.int 40) 39) (as_bipush mk_79 (n := 40) (by decide +kernel) (by decide +kernel) rfl) (bs_pu rfl) : bz_ok false 79 37 (bz_pu (.inl 40) 39)),
  List.forall_mem_cons.mpr ⟨(bo_newI mk_79 (by decide +kernel) rfl (aa_bw 129 (by decide +kernel) rfl) : bz_ok false 79 39 (bz_newa 100 41)),
  List.forall_mem_cons.mpr ⟨(bo_putF mk_79 (ix := 24) (by decide +kernel) rfl (fd_RX7_24 rfl) pf_7_8 : bz_ok false 79 41 (bz_putF 7 8 44)),
  List.forall_mem_cons.mpr ⟨(bz_of (A := aa_lda 0 45) (as_aload_n mk_79 (k := 0) (by decide +kernel) rfl rfl) bs_lda : bz_ok false 79 44 (bz_lda 0 45)),
  List.forall_mem_cons.mpr ⟨(bz_of (A := aa_pu (.int 40) 47) (as_bipush mk_79 (n := 40) (by decide +kernel) (by decide +kernel) rfl) (bs_pu rfl) : bz_ok false 79 45 (bz_pu (.inl 40) 47)),
  fun _ h => absurd h List.not_mem_nil⟩⟩⟩⟩⟩⟩⟩⟩
theorem bd_79_3 : ∀ q ∈ ([(47, bz_newa 100 49), (49, bz_putF 7 9 52), (52, bz_lda 0 53), (53, bz_pu (.inl 24) 55), (55, bz_newa 100 57), (57, bz_putF 7 11 60), (60, bz_lda 0 61), (61, bz_pu (.inl 24) 63)] : List (Nat × bz_Op)), bz_ok false 79 q.1 q.2 :=
  List.forall_mem_cons.mpr ⟨(bo_newI mk_79 (by decide +kernel) rfl (aa_bw 129 (by decide +kernel) rfl) : bz_ok false 79 47 (bz_newa 100 49)),
  List.forall_mem_cons.mpr ⟨(bo_putF mk_79 (ix := 27) (by decide +kernel) rfl (fd_RX7_27 rfl) pf_7_9 : bz_ok false 79 49 (bz_putF 7 9 52)),
  List.forall_mem_cons.mpr ⟨(bz_of (A := aa_lda 0 53) (as_aload_n mk_79 (k := 0) (by decide +kernel) rfl rfl) bs_lda : bz_ok false 79 52 (bz_lda 0 53)),
  List.forall_mem_cons.mpr ⟨(bz_of (A := aa_pu (.int 24) 55) (as_bipush mk_79 (n := 24) (by decide +kernel) (by decide +kernel) rfl) (bs_pu rfl) : bz_ok false 79 53 (bz_pu (.inl 24) 55)),
  List.forall_mem_cons.mpr ⟨(bo_newI mk_79 (by decide +kernel) rfl (aa_bw 129 (by decide +kernel) rfl) : bz_ok false 79 55 (bz_newa 100 57)),
  List.forall_mem_cons.mpr ⟨(bo_putF mk_79 (ix := 30) (by decide +kernel) rfl (fd_RX7_30 rfl) pf_7_11 : bz_ok false 79 57 (bz_putF 7 11 60)),
  List.forall_mem_cons.mpr ⟨(bz_of (A := aa_lda 0 61) (as_aload_n mk_79 (k := 0) (by decide +kernel) rfl rfl) bs_lda : bz_ok false 79 60 (bz_lda 0 61)),
  List.forall_mem_cons.mpr ⟨(bz_of (A := aa_pu (.int 24) 63) (as_bipush mk_79 (n := 24) (by decide +kernel) (by decide +kernel) rfl) (bs_pu rfl) : bz_ok false 79 61 (bz_pu (.inl 24) 63)),
  fun _ h => absurd h List.not_mem_nil⟩⟩⟩⟩⟩⟩⟩⟩
theorem bd_79_4 : ∀ q ∈ ([(63, bz_newa 100 65), (65, bz_putF 7 12 68), (68, bz_lda 0 69), (69, bz_pu (.inl 24) 71), (71, bz_newa 100 73), (73, bz_putF 7 13 76), (76, bz_lda 0 77), (77, bz_pu (.inl 24) 79)] : List (Nat × bz_Op)), bz_ok false 79 q.1 q.2 :=
  List.forall_mem_cons.mpr ⟨(bo_newI mk_79 (by decide +kernel) rfl (aa_bw 129 (by decide +kernel) rfl) : bz_ok false 79 63 (bz_newa 100 65)),
  List.forall_mem_cons.mpr ⟨(bo_putF mk_79 (ix := 33) (by decide +kernel) rfl (fd_RX7_33 rfl) pf_7_12 : bz_ok false 79 65 (bz_putF 7 12 68)),
  List.forall_mem_cons.mpr ⟨(bz_of (A := aa_lda 0 69) (as_aload_n mk_79 (k := 0) (by decide +kernel) rfl rfl) bs_lda : bz_ok false 79 68 (bz_lda 0 69)),
  List.forall_mem_cons.mpr ⟨(bz_of (A := aa_pu (.int 24) 71) (as_bipush mk_79 (n := 24) (by decide +kernel) (by decide +kernel) rfl) (bs_pu rfl) : bz_ok false 79 69 (bz_pu (.inl 24) 71)),
  List.forall_mem_cons.mpr ⟨(bo_newI mk_79 (by decide +kernel) rfl (aa_bw 129 (by decide +kernel) rfl) : bz_ok false 79 71 (bz_newa 100 73)),
  List.forall_mem_cons.mpr ⟨(bo_putF mk_79 (ix := 36) (by decide +kernel) rfl (fd_RX7_36 rfl) pf_7_13 : bz_ok false 79 73 (bz_putF 7 13 76)),
  List.forall_mem_cons.mpr ⟨(bz_of (A := aa_lda 0 77) (as_aload_n mk_79 (k := 0) (by decide +kernel) rfl rfl) bs_lda : bz_ok false 79 76 (bz_lda 0 77)),
  List.forall_mem_cons.mpr ⟨(bz_of (A := aa_pu (.int 24) 79) (as_bipush mk_79 (n := 24) (by decide +kernel) (by decide +kernel) rfl) (bs_pu rfl) : bz_ok false 79 77 (bz_pu (.inl 24) 79)),
  fun _ h => absurd h List.not_mem_nil⟩⟩⟩⟩⟩⟩⟩⟩
theorem bd_79_5 : ∀ q ∈ ([(79, bz_newa 100 81), (81, bz_putF 7 14 84), (84, bz_lda 0 85), (85, bz_pu (.inl 24) 87), (87, bz_newa 100 89), (89, bz_putF 7 15 92), (92, bz_lda 0 93), (93, bz_lda 1 94)] : List (Nat × bz_Op)), bz_ok false 79 q.1 q.2 :=
  List.forall_mem_cons.mpr ⟨(bo_newI mk_79 (by decide +kernel) rfl (aa_bw 129 (by decide +kernel) rfl) : bz_ok false 79 79 (bz_newa 100 81)),
  List.forall_mem_cons.mpr ⟨(bo_putF mk_79 (ix := 39) (by decide +kernel) rfl (fd_RX7_39 rfl) pf_7_14 : bz_ok false 79 81 (bz_putF 7 14 84)),
  List.forall_mem_cons.mpr ⟨(bz_of (A := aa_lda 0 85) (as_aload_n mk_79 (k := 0) (by decide +kernel) rfl rfl) bs_lda : bz_ok false 79 84 (bz_lda 0 85)),
  List.forall_mem_cons.mpr ⟨(bz_of (A := aa_pu (.int 24) 87) (as_bipush mk_79 (n := 24) (by decide +kernel) (by decide +kernel) rfl) (bs_pu rfl) : bz_ok false 79 85 (bz_pu (.inl 24) 87)),
  List.forall_mem_cons.mpr ⟨(bo_newI mk_79 (by decide +kernel) rfl (aa_bw 129 (by decide +kernel) rfl) : bz_ok false 79 87 (bz_newa 100 89)),
  List.forall_mem_cons.mpr ⟨(bo_putF mk_79 (ix := 42) (by decide +kernel) rfl (fd_RX7_42 rfl) pf_7_15 : bz_ok false 79 89 (bz_putF 7 15 92)),
  List.forall_mem_cons.mpr ⟨(bz_of (A := aa_lda 0 93) (as_aload_n mk_79 (k := 0) (by decide +kernel) rfl rfl) bs_lda : bz_ok false 79 92 (bz_lda 0 93)),
  List.forall_mem_cons.mpr ⟨(bz_of (A := aa_lda 1 94) (as_aload_n mk_79 (k := 1) (by decide +kernel) rfl rfl) bs_lda : bz_ok false 79 93 (bz_lda 1 94)),
  fun _ h => absurd h List.not_mem_nil⟩⟩⟩⟩⟩⟩⟩⟩
theorem bd_79_6 : ∀ q ∈ ([(94, bz_putF 7 0 97), (97, bz_lda 0 98), (98, bz_lda 2 99), (99, bz_putF 7 1 102), (102, bz_retv)] : List (Nat × bz_Op)), bz_ok false 79 q.1 q.2 :=
  List.forall_mem_cons.mpr ⟨(bo_putF mk_79 (ix := 45) (by decide +kernel) rfl (fd_RX7_45 rfl) pf_7_0 : bz_ok false 79 94 (bz_putF 7 0 97)),
  List.forall_mem_cons.mpr ⟨(bz_of (A := aa_lda 0 98) (as_aload_n mk_79 (k := 0) (by decide +kernel) rfl rfl) bs_lda : bz_ok false 79 97 (bz_lda 0 98)),
  List.forall_mem_cons.mpr ⟨(bz_of (A := aa_lda 2 99) (as_aload_n mk_79 (k := 2) (by decide +kernel) rfl rfl) bs_lda : bz_ok false 79 98 (bz_lda 2 99)),
  List.forall_mem_cons.mpr ⟨(bo_putF mk_79 (ix := 49) (by decide +kernel) rfl (fd_RX7_49 rfl) pf_7_1 : bz_ok false 79 99 (bz_putF 7 1 102)),
  List.forall_mem_cons.mpr ⟨(bz_of (A := aa_retv) (as_vret mk_79 (by decide +kernel) rfl) bs_retv : bz_ok false 79 102 (bz_retv)),
  fun _ h => absurd h List.not_mem_nil⟩⟩⟩⟩⟩
theorem bd_79_ok : bz_tk false 79 bd_79 :=
  List.forall_mem_cons.mpr ⟨bd_79_0,
  List.forall_mem_cons.mpr ⟨bd_79_1,
  List.forall_mem_cons.mpr ⟨bd_79_2,
  List.forall_mem_cons.mpr ⟨bd_79_3,
  List.forall_mem_cons.mpr ⟨bd_79_4,
  List.forall_mem_cons.mpr ⟨bd_79_5,
  List.forall_mem_cons.mpr ⟨bd_79_6,
  fun _ h => absurd h List.not_mem_nil⟩⟩⟩⟩⟩⟩⟩
def bd_94 : bz_T := [(15, [(0, bz_lda 0 1), (1, bz_obj 4), (4, bz_lda 0 5), (5, bz_pu (.inl 6) 7), (7, bz_pu (.inl 5) 8), (8, bz_multi 12), (12, bz_putF 8 1 15), (15, bz_retv)])]
theorem bd_94_0 : ∀ q ∈ ([(0, bz_lda 0 1), (1, bz_obj 4), (4, bz_lda 0 5), (5, bz_pu (.inl 6) 7), (7, bz_pu (.inl 5) 8), (8, bz_multi 12), (12, bz_putF 8 1 15), (15, bz_retv)] : List (Nat × bz_Op)), bz_ok false 94 q.1 q.2 :=
  List.forall_mem_cons.mpr ⟨(bz_of (A := aa_lda 0 1) (as_aload_n mk_94 (k := 0) (by decide +kernel) rfl rfl) bs_lda : bz_ok false 94 0 (bz_lda 0 1)),
  List.forall_mem_cons.mpr ⟨(bo_obj mk_94 (ix := 3) (by decide +kernel) rfl (aa_bw 294 (by decide +kernel) rfl) oi_i oi_c : bz_ok false 94 1 (bz_obj 4)),
  List.forall_mem_cons.mpr ⟨(bz_of (A := aa_lda 0 5) (as_aload_n mk_94 (k := 0) (by decide +kernel) rfl rfl) bs_lda : bz_ok false 94 4 (bz_lda 0 5)),
  List.forall_mem_cons.mpr ⟨(bz_of (A := aa_pu (.int 6) 7) (as_bipush mk_94 (n := 6) (by decide +kernel) (by decide +kernel) rfl) (bs_pu rfl) : bz_ok false 94 5 (bz_pu (.inl 6) 7)),
  List.forall_mem_cons.mpr ⟨(bz_of (A := aa_pu (.int 5) 8) (as_iconst mk_94 (n := 5) (by decide +kernel) (by decide +kernel) rfl) (bs_pu rfl) : bz_ok false 94 7 (bz_pu (.inl 5) 8)),
  List.forall_mem_cons.mpr ⟨(bo_multi mk_94 (ix := 9) (by decide +kernel) rfl (aa_bw 295 (by decide +kernel) rfl) (aa_bw 129 (by decide +kernel) rfl) : bz_ok false 94 8 (bz_multi 12)),
  List.forall_mem_cons.mpr ⟨(bo_putF mk_94 (ix := 11) (by decide +kernel) rfl (fd_RX8_11 rfl) pf_8_1 : bz_ok false 94 12 (bz_putF 8 1 15)),
  List.forall_mem_cons.mpr ⟨(bz_of (A := aa_retv) (as_vret mk_94 (by decide +kernel) rfl) bs_retv : bz_ok false 94 15 (bz_retv)),
  fun _ h => absurd h List.not_mem_nil⟩⟩⟩⟩⟩⟩⟩⟩
theorem bd_94_ok : bz_tk false 94 bd_94 :=
  List.forall_mem_cons.mpr ⟨bd_94_0,
  fun _ h => absurd h List.not_mem_nil⟩
def bd_103 : bz_T := [(13, [(0, bz_lda 0 1), (1, bz_obj 4), (4, bz_lda 0 5), (5, bz_pu (.inl 8) 7), (7, bz_newa 100 9), (9, bz_putF 9 1 12), (12, bz_lda 0 13), (13, bz_pu (.inl 8) 15)]), (29, [(15, bz_newa 100 17), (17, bz_putF 9 2 20), (20, bz_lda 0 21), (21, bz_pu (.inl 20) 23), (23, bz_newa 100 25), (25, bz_putF 9 4 28), (28, bz_lda 0 29), (29, bz_pu (.inl 20) 31)]), (45, [(31, bz_newa 100 33), (33, bz_putF 9 5 36), (36, bz_lda 0 37), (37, bz_pu (.inl 20) 39), (39, bz_newa 100 41), (41, bz_putF 9 6 44), (44, bz_lda 0 45), (45, bz_pu (.inl 20) 47)]), (61, [(47, bz_newa 100 49), (49, bz_putF 9 7 52), (52, bz_lda 0 53), (53, bz_pu (.inl 20) 55), (55, bz_newa 100 57), (57, bz_putF 9 8 60), (60, bz_lda 0 61), (61, bz_pu (.inl 20) 63)]), (68, [(63, bz_newa 100 65), (65, bz_putF 9 9 68), (68, bz_retv)])]
theorem bd_103_0 : ∀ q ∈ ([(0, bz_lda 0 1), (1, bz_obj 4), (4, bz_lda 0 5), (5, bz_pu (.inl 8) 7), (7, bz_newa 100 9), (9, bz_putF 9 1 12), (12, bz_lda 0 13), (13, bz_pu (.inl 8) 15)] : List (Nat × bz_Op)), bz_ok false 103 q.1 q.2 :=
  List.forall_mem_cons.mpr ⟨(bz_of (A := aa_lda 0 1) (as_aload_n mk_103 (k := 0) (by decide +kernel) rfl rfl) bs_lda : bz_ok false 103 0 (bz_lda 0 1)),
  List.forall_mem_cons.mpr ⟨(bo_obj mk_103 (ix := 3) (by decide +kernel) rfl (aa_bw 135 (by decide +kernel) rfl) oi_i oi_c : bz_ok false 103 1 (bz_obj 4)),
  List.forall_mem_cons.mpr ⟨(bz_of (A := aa_lda 0 5) (as_aload_n mk_103 (k := 0) (by decide +kernel) rfl rfl) bs_lda : bz_ok false 103 4 (bz_lda 0 5)),
  List.forall_mem_cons.mpr ⟨(bz_of (A := aa_pu (.int 8) 7) (as_bipush mk_103 (n := 8) (by decide +kernel) (by decide +kernel) rfl) (bs_pu rfl) : bz_ok false 103 5 (bz_pu (.inl 8) 7)),
  List.forall_mem_cons.mpr ⟨(bo_newI mk_103 (by decide +kernel) rfl (aa_bw 129 (by decide +kernel) rfl) : bz_ok false 103 7 (bz_newa 100 9)),
  List.forall_mem_cons.mpr ⟨(bo_putF mk_103 (ix := 9) (by decide +kernel) rfl (fd_RX9_9 rfl) pf_9_1 : bz_ok false 103 9 (bz_putF 9 1 12)),
  List.forall_mem_cons.mpr ⟨(bz_of (A := aa_lda 0 13) (as_aload_n mk_103 (k := 0) (by decide +kernel) rfl rfl) bs_lda : bz_ok false 103 12 (bz_lda 0 13)),
  List.forall_mem_cons.mpr ⟨(bz_of (A := aa_pu (.int 8) 15) (as_bipush mk_103 (n := 8) (by decide +kernel) (by decide +kernel) rfl) (bs_pu rfl) : bz_ok false 103 13 (bz_pu (.inl 8) 15)),
  fun _ h => absurd h List.not_mem_nil⟩⟩⟩⟩⟩⟩⟩⟩
theorem bd_103_1 : ∀ q ∈ ([(15, bz_newa 100 17), (17, bz_putF 9 2 20), (20, bz_lda 0 21), (21, bz_pu (.inl 20) 23), (23, bz_newa 100 25), (25, bz_putF 9 4 28), (28, bz_lda 0 29), (29, bz_pu (.inl 20) 31)] : List (Nat × bz_Op)), bz_ok false 103 q.1 q.2 :=
  List.forall_mem_cons.mpr ⟨(bo_newI mk_103 (by decide +kernel) rfl (aa_bw 129 (by decide +kernel) rfl) : bz_ok false 103 15 (bz_newa 100 17)),
  List.forall_mem_cons.mpr ⟨(bo_putF mk_103 (ix := 15) (by decide +kernel) rfl (fd_RX9_15 rfl) pf_9_2 : bz_ok false 103 17 (bz_putF 9 2 20)),
  List.forall_mem_cons.mpr ⟨(bz_of (A := aa_lda 0 21) (as_aload_n mk_103 (k := 0) (by decide +kernel) rfl rfl) bs_lda : bz_ok false 103 20 (bz_lda 0 21)),
  List.forall_mem_cons.mpr ⟨(bz_of (A := aa_pu (.int 20) 23) (as_bipush mk_103 (n := 20) (by decide +kernel) (by decide +kernel) rfl) (bs_pu rfl) : bz_ok false 103 21 (bz_pu (.inl 20) 23)),
  List.forall_mem_cons.mpr ⟨(bo_newI mk_103 (by decide +kernel) rfl (aa_bw 129 (by decide +kernel) rfl) : bz_ok false 103 23 (bz_newa 100 25)),
  List.forall_mem_cons.mpr ⟨(bo_putF mk_103 (ix := 18) (by decide +kernel) rfl (fd_RX9_18 rfl) pf_9_4 : bz_ok false 103 25 (bz_putF 9 4 28)),
  List.forall_mem_cons.mpr ⟨(bz_of (A := aa_lda 0 29) (as_aload_n mk_103 (k := 0) (by decide +kernel) rfl rfl) bs_lda : bz_ok false 103 28 (bz_lda 0 29)),
  List.forall_mem_cons.mpr ⟨(bz_of (A := aa_pu (.int 20) 31) (as_bipush mk_103 (n := 20) (by decide +kernel) (by decide +kernel) rfl) (bs_pu rfl) : bz_ok false 103 29 (bz_pu (.inl 20) 31)),
  fun _ h => absurd h List.not_mem_nil⟩⟩⟩⟩⟩⟩⟩⟩
theorem bd_103_2 : ∀ q ∈ ([(31, bz_newa 100 33), (33, bz_putF 9 5 36), (36, bz_lda 0 37), (37, bz_pu (.inl 20) 39), (39, bz_newa 100 41), (41, bz_putF 9 6 44), (44, bz_lda 0 45), (45, bz_pu (.inl 20) 47)] : List (Nat × bz_Op)), bz_ok false 103 q.1 q.2 :=
  List.forall_mem_cons.mpr ⟨(bo_newI mk_103 (by decide +kernel) rfl (aa_bw 129 (by decide +kernel) rfl) : bz_ok false 103 31 (bz_newa 100 33)),
  List.forall_mem_cons.mpr ⟨(bo_putF mk_103 (ix := 21) (by decide +kernel) rfl (fd_RX9_21 rfl) pf_9_5 : bz_ok false 103 33 (bz_putF 9 5 36)),
  List.forall_mem_cons.mpr ⟨(bz_of (A := aa_lda 0 37) (as_aload_n mk_103 (k := 0) (by decide +kernel) rfl rfl) bs_lda : bz_ok false 103 36 (bz_lda 0 37)),
  List.forall_mem_cons.mpr ⟨(bz_of (A := aa_pu (.int 20) 39) (as_bipush mk_103 (n := 20) (by decide +kernel) (by decide +kernel) rfl) (bs_pu rfl) : bz_ok false 103 37 (bz_pu (.inl 20) 39)),
  List.forall_mem_cons.mpr ⟨(bo_newI mk_103 (by decide +kernel) rfl (aa_bw 129 (by decide +kernel) rfl) : bz_ok false 103 39 (bz_newa 100 41)),
  List.forall_mem_cons.mpr ⟨(bo_putF mk_103 (ix := 24) (by decide +kernel) rfl (fd_RX9_24 rfl) pf_9_6 : bz_ok false 103 41 (bz_putF 9 6 44)),
  List.forall_mem_cons.mpr ⟨(bz_of (A := aa_lda 0 45) (as_aload_n mk_103 (k := 0) (by decide +kernel) rfl rfl) bs_lda : bz_ok false 103 44 (bz_lda 0 45)),
  List.forall_mem_cons.mpr ⟨(bz_of (A := aa_pu (.int 20) 47) (as_bipush mk_103 (n := 20) (by decide +kernel) (by decide +kernel) rfl) (bs_pu rfl) : bz_ok false 103 45 (bz_pu (.inl 20) 47)),
  fun _ h => absurd h List.not_mem_nil⟩⟩⟩⟩⟩⟩⟩⟩
theorem bd_103_3 : ∀ q ∈ ([(47, bz_newa 100 49), (49, bz_putF 9 7 52), (52, bz_lda 0 53), (53, bz_pu (.inl 20) 55), (55, bz_newa 100 57), (57, bz_putF 9 8 60), (60, bz_lda 0 61), (61, bz_pu (.inl 20) 63)] : List (Nat × bz_Op)), bz_ok false 103 q.1 q.2 :=
  List.forall_mem_cons.mpr ⟨(bo_newI mk_103 (by decide +kernel) rfl (aa_bw 129 (by decide +kernel) rfl) : bz_ok false 103 47 (bz_newa 100 49)),
  List.forall_mem_cons.mpr ⟨(bo_putF mk_103 (ix := 27) (by decide +kernel) rfl (fd_RX9_27 rfl) pf_9_7 : bz_ok false 103 49 (bz_putF 9 7 52)),
  List.forall_mem_cons.mpr ⟨(bz_of (A := aa_lda 0 53) (as_aload_n mk_103 (k := 0) (by decide +kernel) rfl rfl) bs_lda : bz_ok false 103 52 (bz_lda 0 53)),
  List.forall_mem_cons.mpr ⟨(bz_of (A := aa_pu (.int 20) 55) (as_bipush mk_103 (n := 20) (by decide +kernel) (by decide +kernel) rfl) (bs_pu rfl) : bz_ok false 103 53 (bz_pu (.inl 20) 55)),
  List.forall_mem_cons.mpr ⟨(bo_newI mk_103 (by decide +kernel) rfl (aa_bw 129 (by decide +kernel) rfl) : bz_ok false 103 55 (bz_newa 100 57)),
  List.forall_mem_cons.mpr ⟨(bo_putF mk_103 (ix := 30) (by decide +kernel) rfl (fd_RX9_30 rfl) pf_9_8 : bz_ok false 103 57 (bz_putF 9 8 60)),
  List.forall_mem_cons.mpr ⟨(bz_of (A := aa_lda 0 61) (as_aload_n mk_103 (k := 0) (by decide +kernel) rfl rfl) bs_lda : bz_ok false 103 60 (bz_lda 0 61)),
  List.forall_mem_cons.mpr ⟨(bz_of (A := aa_pu (.int 20) 63) (as_bipush mk_103 (n := 20) (by decide +kernel) (by decide +kernel) rfl) (bs_pu rfl) : bz_ok false 103 61 (bz_pu (.inl 20) 63)),
  fun _ h => absurd h List.not_mem_nil⟩⟩⟩⟩⟩⟩⟩⟩
theorem bd_103_4 : ∀ q ∈ ([(63, bz_newa 100 65), (65, bz_putF 9 9 68), (68, bz_retv)] : List (Nat × bz_Op)), bz_ok false 103 q.1 q.2 :=
  List.forall_mem_cons.mpr ⟨(bo_newI mk_103 (by decide +kernel) rfl (aa_bw 129 (by decide +kernel) rfl) : bz_ok false 103 63 (bz_newa 100 65)),
  List.forall_mem_cons.mpr ⟨(bo_putF mk_103 (ix := 33) (by decide +kernel) rfl (fd_RX9_33 rfl) pf_9_9 : bz_ok false 103 65 (bz_putF 9 9 68)),
  List.forall_mem_cons.mpr ⟨(bz_of (A := aa_retv) (as_vret mk_103 (by decide +kernel) rfl) bs_retv : bz_ok false 103 68 (bz_retv)),
  fun _ h => absurd h List.not_mem_nil⟩⟩⟩
theorem bd_103_ok : bz_tk false 103 bd_103 :=
  List.forall_mem_cons.mpr ⟨bd_103_0,
  List.forall_mem_cons.mpr ⟨bd_103_1,
  List.forall_mem_cons.mpr ⟨bd_103_2,
  List.forall_mem_cons.mpr ⟨bd_103_3,
  List.forall_mem_cons.mpr ⟨bd_103_4,
  fun _ h => absurd h List.not_mem_nil⟩⟩⟩⟩⟩
def bd_137 : bz_T := [(15, [(0, bz_lda 0 1), (1, bz_obj 4), (4, bz_lda 0 5), (5, bz_new 4 3 8), (8, bz_dup 9), (9, bz_init 47 0 2 12), (12, bz_putF 10 0 15), (15, bz_lda 0 16)]), (31, [(16, bz_new 9 10 19), (19, bz_dup 20), (20, bz_init 103 0 1 23), (23, bz_putF 10 1 26), (26, bz_lda 0 27), (27, bz_new 2 5 30), (30, bz_dup 31), (31, bz_lda 0 32)]), (47, [(32, bz_gR 10 1 35), (35, bz_init 17 1 2 38), (38, bz_putF 10 2 41), (41, bz_lda 0 42), (42, bz_new 7 16 45), (45, bz_dup 46), (46, bz_lda 0 47), (47, bz_gR 10 0 50)]), (65, [(50, bz_lda 0 51), (51, bz_gR 10 2 54), (54, bz_init 79 2 3 57), (57, bz_putF 10 3 60), (60, bz_lda 0 61), (61, bz_new 1 6 64), (64, bz_dup 65), (65, bz_init 9 0 1 68)]), (83, [(68, bz_putF 10 4 71), (71, bz_lda 0 72), (72, bz_new 0 4 75), (75, bz_dup 76), (76, bz_init 0 0 1 79), (79, bz_putF 10 5 82), (82, bz_lda 0 83), (83, bz_new 8 2 86)]), (101, [(86, bz_dup 87), (87, bz_init 94 0 1 90), (90, bz_putF 10 6 93), (93, bz_lda 0 94), (94, bz_new 5 3 97), (97, bz_dup 98), (98, bz_init 55 0 1 101), (101, bz_putF 10 7 104)]), (118, [(104, bz_lda 0 105), (105, bz_new 3 9 108), (108, bz_dup 109), (109, bz_init 24 0 1 112), (112, bz_putF 10 8 115), (115, bz_lda 0 116), (116, bz_pu (.inl 6) 118), (118, bz_newq 121)]), (134, [(121, bz_putF 10 9 124), (124, bz_lda 0 125), (125, bz_pu (.inl 6) 127), (127, bz_newa 100 129), (129, bz_putF 10 10 132), (132, bz_pu (.inl 0) 133), (133, bz_sti 1 134), (134, bz_ldi 1 135)]), (149, [(135, bz_pu (.inl 6) 137), (137, bz_icmp bh_lt 140 159), (140, bz_lda 0 141), (141, bz_gR 10 9 144), (144, bz_ldi 1 145), (145, bz_new 6 4 148), (148, bz_dup 149), (149, bz_init 67 0 1 152)]), (168, [(152, bz_aast 153), (153, bz_inc 1 1 156), (156, bz_go 134), (159, bz_lda 0 160), (160, bz_gR 10 8 163), (163, bz_pu (.inr (.inl 2000000)) 165), (165, bz_ccv 26 1 3 3 0 168), (168, bz_lda 0 169)]), (182, [(169, bz_gR 10 8 172), (172, bz_lda 0 173), (173, bz_gR 10 9 176), (176, bz_pu (.inl 0) 177), (177, bz_ar 102 178), (178, bz_ccv 28 1 2 3 1 181), (181, bz_pop 182), (182, bz_lda 0 183)]), (187, [(183, bz_pu (.inl 1) 184), (184, bz_pI 10 11 187), (187, bz_retv)])]
theorem bd_137_0 : ∀ q ∈ ([(0, bz_lda 0 1), (1, bz_obj 4), (4, bz_lda 0 5), (5, bz_new 4 3 8), (8, bz_dup 9), (9, bz_init 47 0 2 12), (12, bz_putF 10 0 15), (15, bz_lda 0 16)] : List (Nat × bz_Op)), bz_ok false 137 q.1 q.2 :=
  List.forall_mem_cons.mpr ⟨(bz_of (A := aa_lda 0 1) (as_aload_n mk_137 (k := 0) (by decide +kernel) rfl rfl) bs_lda : bz_ok false 137 0 (bz_lda 0 1)),
  List.forall_mem_cons.mpr ⟨(bo_obj mk_137 (ix := 1) (by decide +kernel) rfl (aa_bw 98 (by decide +kernel) rfl) oi_i oi_c : bz_ok false 137 1 (bz_obj 4)),
  List.forall_mem_cons.mpr ⟨(bz_of (A := aa_lda 0 5) (as_aload_n mk_137 (k := 0) (by decide +kernel) rfl rfl) bs_lda : bz_ok false 137 4 (bz_lda 0 5)),
  List.forall_mem_cons.mpr ⟨(bo_new mk_137 (ix := 7) (q := (RX4, TX4, 3)) (ty0 := tyX4) (by decide +kernel) rfl rfl rfl aa_inW4 tyX4_ok (by decide +kernel) (aa_bw 101 (by decide +kernel) rfl) (aa_bw 102 (by decide +kernel) rfl) (aa_bw 74 (by decide +kernel) rfl) (by decide) : bz_ok false 137 5 (bz_new 4 3 8)),
  List.forall_mem_cons.mpr ⟨(bz_of (A := aa_dup 9) (as_dup mk_137 (by decide +kernel) rfl) bs_dup : bz_ok false 137 8 (bz_dup 9)),
  List.forall_mem_cons.mpr ⟨(bo_init mk_137 (ix := 9) (M' := ac_r47) (by decide +kernel) rfl ce_47 lk_RX10_9 ci_47 rfl rfl rfl (by decide) : bz_ok false 137 9 (bz_init 47 0 2 12)),
  List.forall_mem_cons.mpr ⟨(bo_putF mk_137 (ix := 10) (by decide +kernel) rfl (fd_RX10_10 rfl) pf_10_0 : bz_ok false 137 12 (bz_putF 10 0 15)),
  List.forall_mem_cons.mpr ⟨(bz_of (A := aa_lda 0 16) (as_aload_n mk_137 (k := 0) (by decide +kernel) rfl rfl) bs_lda : bz_ok false 137 15 (bz_lda 0 16)),
  fun _ h => absurd h List.not_mem_nil⟩⟩⟩⟩⟩⟩⟩⟩
theorem bd_137_1 : ∀ q ∈ ([(16, bz_new 9 10 19), (19, bz_dup 20), (20, bz_init 103 0 1 23), (23, bz_putF 10 1 26), (26, bz_lda 0 27), (27, bz_new 2 5 30), (30, bz_dup 31), (31, bz_lda 0 32)] : List (Nat × bz_Op)), bz_ok false 137 q.1 q.2 :=
  List.forall_mem_cons.mpr ⟨(bo_new mk_137 (ix := 16) (q := (RX9, TX9, 10)) (ty0 := tyX9) (by decide +kernel) rfl rfl rfl aa_inW9 tyX9_ok (by decide +kernel) (aa_bw 130 (by decide +kernel) rfl) (aa_bw 131 (by decide +kernel) rfl) (aa_bw 77 (by decide +kernel) rfl) (by decide) : bz_ok false 137 16 (bz_new 9 10 19)),
  List.forall_mem_cons.mpr ⟨(bz_of (A := aa_dup 20) (as_dup mk_137 (by decide +kernel) rfl) bs_dup : bz_ok false 137 19 (bz_dup 20)),
  List.forall_mem_cons.mpr ⟨(bo_init mk_137 (ix := 18) (M' := ac_r103) (by decide +kernel) rfl ce_103 lk_RX10_18 ci_103 rfl rfl rfl (by decide) : bz_ok false 137 20 (bz_init 103 0 1 23)),
  List.forall_mem_cons.mpr ⟨(bo_putF mk_137 (ix := 19) (by decide +kernel) rfl (fd_RX10_19 rfl) pf_10_1 : bz_ok false 137 23 (bz_putF 10 1 26)),
  List.forall_mem_cons.mpr ⟨(bz_of (A := aa_lda 0 27) (as_aload_n mk_137 (k := 0) (by decide +kernel) rfl rfl) bs_lda : bz_ok false 137 26 (bz_lda 0 27)),
  List.forall_mem_cons.mpr ⟨(bo_new mk_137 (ix := 23) (q := (RX2, TX2, 5)) (ty0 := tyX2) (by decide +kernel) rfl rfl rfl aa_inW2 tyX2_ok (by decide +kernel) (aa_bw 167 (by decide +kernel) rfl) (aa_bw 168 (by decide +kernel) rfl) (aa_bw 78 (by decide +kernel) rfl) (by decide) : bz_ok false 137 27 (bz_new 2 5 30)),
  List.forall_mem_cons.mpr ⟨(bz_of (A := aa_dup 31) (as_dup mk_137 (by decide +kernel) rfl) bs_dup : bz_ok false 137 30 (bz_dup 31)),
  List.forall_mem_cons.mpr ⟨(bz_of (A := aa_lda 0 32) (as_aload_n mk_137 (k := 0) (by decide +kernel) rfl rfl) bs_lda : bz_ok false 137 31 (bz_lda 0 32)),
  fun _ h => absurd h List.not_mem_nil⟩⟩⟩⟩⟩⟩⟩⟩
theorem bd_137_2 : ∀ q ∈ ([(32, bz_gR 10 1 35), (35, bz_init 17 1 2 38), (38, bz_putF 10 2 41), (41, bz_lda 0 42), (42, bz_new 7 16 45), (45, bz_dup 46), (46, bz_lda 0 47), (47, bz_gR 10 0 50)] : List (Nat × bz_Op)), bz_ok false 137 q.1 q.2 :=
  List.forall_mem_cons.mpr ⟨(bz_of (A := aa_gR 10 1 35) (as_gR mk_137 (ix := 19) (by decide +kernel) (fd_RX10_19 rfl) rfl) bs_gR : bz_ok false 137 32 (bz_gR 10 1 35)),
  List.forall_mem_cons.mpr ⟨(bo_init mk_137 (ix := 25) (M' := ac_r17) (by decide +kernel) rfl ce_17 lk_RX10_25 ci_17 rfl rfl rfl (by decide) : bz_ok false 137 35 (bz_init 17 1 2 38)),
  List.forall_mem_cons.mpr ⟨(bo_putF mk_137 (ix := 28) (by decide +kernel) rfl (fd_RX10_28 rfl) pf_10_2 : bz_ok false 137 38 (bz_putF 10 2 41)),
  List.forall_mem_cons.mpr ⟨(bz_of (A := aa_lda 0 42) (as_aload_n mk_137 (k := 0) (by decide +kernel) rfl rfl) bs_lda : bz_ok false 137 41 (bz_lda 0 42)),
  List.forall_mem_cons.mpr ⟨(bo_new mk_137 (ix := 32) (q := (RX7, TX7, 16)) (ty0 := tyX7) (by decide +kernel) rfl rfl rfl aa_inW7 tyX7_ok (by decide +kernel) (aa_bw 189 (by decide +kernel) rfl) (aa_bw 190 (by decide +kernel) rfl) (aa_bw 79 (by decide +kernel) rfl) (by decide) : bz_ok false 137 42 (bz_new 7 16 45)),
  List.forall_mem_cons.mpr ⟨(bz_of (A := aa_dup 46) (as_dup mk_137 (by decide +kernel) rfl) bs_dup : bz_ok false 137 45 (bz_dup 46)),
  List.forall_mem_cons.mpr ⟨(bz_of (A := aa_lda 0 47) (as_aload_n mk_137 (k := 0) (by decide +kernel) rfl rfl) bs_lda : bz_ok false 137 46 (bz_lda 0 47)),
  List.forall_mem_cons.mpr ⟨(bz_of (A := aa_gR 10 0 50) (as_gR mk_137 (ix := 10) (by decide +kernel) (fd_RX10_10 rfl) rfl) bs_gR : bz_ok false 137 47 (bz_gR 10 0 50)),
  fun _ h => absurd h List.not_mem_nil⟩⟩⟩⟩⟩⟩⟩⟩
theorem bd_137_3 : ∀ q ∈ ([(50, bz_lda 0 51), (51, bz_gR 10 2 54), (54, bz_init 79 2 3 57), (57, bz_putF 10 3 60), (60, bz_lda 0 61), (61, bz_new 1 6 64), (64, bz_dup 65), (65, bz_init 9 0 1 68)] : List (Nat × bz_Op)), bz_ok false 137 q.1 q.2 :=
  List.forall_mem_cons.mpr ⟨(bz_of (A := aa_lda 0 51) (as_aload_n mk_137 (k := 0) (by decide +kernel) rfl rfl) bs_lda : bz_ok false 137 50 (bz_lda 0 51)),
  List.forall_mem_cons.mpr ⟨(bz_of (A := aa_gR 10 2 54) (as_gR mk_137 (ix := 28) (by decide +kernel) (fd_RX10_28 rfl) rfl) bs_gR : bz_ok false 137 51 (bz_gR 10 2 54)),
  List.forall_mem_cons.mpr ⟨(bo_init mk_137 (ix := 34) (M' := ac_r79) (by decide +kernel) rfl ce_79 lk_RX10_34 ci_79 rfl rfl rfl (by decide) : bz_ok false 137 54 (bz_init 79 2 3 57)),
  List.forall_mem_cons.mpr ⟨(bo_putF mk_137 (ix := 37) (by decide +kernel) rfl (fd_RX10_37 rfl) pf_10_3 : bz_ok false 137 57 (bz_putF 10 3 60)),
  List.forall_mem_cons.mpr ⟨(bz_of (A := aa_lda 0 61) (as_aload_n mk_137 (k := 0) (by decide +kernel) rfl rfl) bs_lda : bz_ok false 137 60 (bz_lda 0 61)),
  List.forall_mem_cons.mpr ⟨(bo_new mk_137 (ix := 41) (q := (RX1, TX1, 6)) (ty0 := tyX1) (by decide +kernel) rfl rfl rfl aa_inW1 tyX1_ok (by decide +kernel) (aa_bw 244 (by decide +kernel) rfl) (aa_bw 245 (by decide +kernel) rfl) (aa_bw 80 (by decide +kernel) rfl) (by decide) : bz_ok false 137 61 (bz_new 1 6 64)),
  List.forall_mem_cons.mpr ⟨(bz_of (A := aa_dup 65) (as_dup mk_137 (by decide +kernel) rfl) bs_dup : bz_ok false 137 64 (bz_dup 65)),
  List.forall_mem_cons.mpr ⟨(bo_init mk_137 (ix := 43) (M' := ac_r9) (by decide +kernel) rfl ce_9 lk_RX10_43 ci_9 rfl rfl rfl (by decide) : bz_ok false 137 65 (bz_init 9 0 1 68)),
  fun _ h => absurd h List.not_mem_nil⟩⟩⟩⟩⟩⟩⟩⟩
theorem bd_137_4 : ∀ q ∈ ([(68, bz_putF 10 4 71), (71, bz_lda 0 72), (72, bz_new 0 4 75), (75, bz_dup 76), (76, bz_init 0 0 1 79), (79, bz_putF 10 5 82), (82, bz_lda 0 83), (83, bz_new 8 2 86)] : List (Nat × bz_Op)), bz_ok false 137 q.1 q.2 :=
  List.forall_mem_cons.mpr ⟨(bo_putF mk_137 (ix := 44) (by decide +kernel) rfl (fd_RX10_44 rfl) pf_10_4 : bz_ok false 137 68 (bz_putF 10 4 71)),
  List.forall_mem_cons.mpr ⟨(bz_of (A := aa_lda 0 72) (as_aload_n mk_137 (k := 0) (by decide +kernel) rfl rfl) bs_lda : bz_ok false 137 71 (bz_lda 0 72)),
  List.forall_mem_cons.mpr ⟨(bo_new mk_137 (ix := 48) (q := (RX0, TX0, 4)) (ty0 := tyX0) (by decide +kernel) rfl rfl rfl aa_inW0 tyX0_ok (by decide +kernel) (aa_bw 270 (by decide +kernel) rfl) (aa_bw 271 (by decide +kernel) rfl) (aa_bw 81 (by decide +kernel) rfl) (by decide) : bz_ok false 137 72 (bz_new 0 4 75)),
  List.forall_mem_cons.mpr ⟨(bz_of (A := aa_dup 76) (as_dup mk_137 (by decide +kernel) rfl) bs_dup : bz_ok false 137 75 (bz_dup 76)),
  List.forall_mem_cons.mpr ⟨(bo_init mk_137 (ix := 50) (M' := ac_r0) (by decide +kernel) rfl ce_0 lk_RX10_50 ci_0 rfl rfl rfl (by decide) : bz_ok false 137 76 (bz_init 0 0 1 79)),
  List.forall_mem_cons.mpr ⟨(bo_putF mk_137 (ix := 51) (by decide +kernel) rfl (fd_RX10_51 rfl) pf_10_5 : bz_ok false 137 79 (bz_putF 10 5 82)),
  List.forall_mem_cons.mpr ⟨(bz_of (A := aa_lda 0 83) (as_aload_n mk_137 (k := 0) (by decide +kernel) rfl rfl) bs_lda : bz_ok false 137 82 (bz_lda 0 83)),
  List.forall_mem_cons.mpr ⟨(bo_new mk_137 (ix := 55) (q := (RX8, TX8, 2)) (ty0 := tyX8) (by decide +kernel) rfl rfl rfl aa_inW8 tyX8_ok (by decide +kernel) (aa_bw 289 (by decide +kernel) rfl) (aa_bw 290 (by decide +kernel) rfl) (aa_bw 82 (by decide +kernel) rfl) (by decide) : bz_ok false 137 83 (bz_new 8 2 86)),
  fun _ h => absurd h List.not_mem_nil⟩⟩⟩⟩⟩⟩⟩⟩
theorem bd_137_5 : ∀ q ∈ ([(86, bz_dup 87), (87, bz_init 94 0 1 90), (90, bz_putF 10 6 93), (93, bz_lda 0 94), (94, bz_new 5 3 97), (97, bz_dup 98), (98, bz_init 55 0 1 101), (101, bz_putF 10 7 104)] : List (Nat × bz_Op)), bz_ok false 137 q.1 q.2 :=
  List.forall_mem_cons.mpr ⟨(bz_of (A := aa_dup 87) (as_dup mk_137 (by decide +kernel) rfl) bs_dup : bz_ok false 137 86 (bz_dup 87)),
  List.forall_mem_cons.mpr ⟨(bo_init mk_137 (ix := 57) (M' := ac_r94) (by decide +kernel) rfl ce_94 lk_RX10_57 ci_94 rfl rfl rfl (by decide) : bz_ok false 137 87 (bz_init 94 0 1 90)),
  List.forall_mem_cons.mpr ⟨(bo_putF mk_137 (ix := 58) (by decide +kernel) rfl (fd_RX10_58 rfl) pf_10_6 : bz_ok false 137 90 (bz_putF 10 6 93)),
  List.forall_mem_cons.mpr ⟨(bz_of (A := aa_lda 0 94) (as_aload_n mk_137 (k := 0) (by decide +kernel) rfl rfl) bs_lda : bz_ok false 137 93 (bz_lda 0 94)),
  List.forall_mem_cons.mpr ⟨(bo_new mk_137 (ix := 62) (q := (RX5, TX5, 3)) (ty0 := tyX5) (by decide +kernel) rfl rfl rfl aa_inW5 tyX5_ok (by decide +kernel) (aa_bw 303 (by decide +kernel) rfl) (aa_bw 304 (by decide +kernel) rfl) (aa_bw 83 (by decide +kernel) rfl) (by decide) : bz_ok false 137 94 (bz_new 5 3 97)),
  List.forall_mem_cons.mpr ⟨(bz_of (A := aa_dup 98) (as_dup mk_137 (by decide +kernel) rfl) bs_dup : bz_ok false 137 97 (bz_dup 98)),
  List.forall_mem_cons.mpr ⟨(bo_init mk_137 (ix := 64) (M' := ac_r55) (by decide +kernel) rfl ce_55 lk_RX10_64 ci_55 rfl rfl rfl (by decide) : bz_ok false 137 98 (bz_init 55 0 1 101)),
  List.forall_mem_cons.mpr ⟨(bo_putF mk_137 (ix := 65) (by decide +kernel) rfl (fd_RX10_65 rfl) pf_10_7 : bz_ok false 137 101 (bz_putF 10 7 104)),
  fun _ h => absurd h List.not_mem_nil⟩⟩⟩⟩⟩⟩⟩⟩
theorem bd_137_6 : ∀ q ∈ ([(104, bz_lda 0 105), (105, bz_new 3 9 108), (108, bz_dup 109), (109, bz_init 24 0 1 112), (112, bz_putF 10 8 115), (115, bz_lda 0 116), (116, bz_pu (.inl 6) 118), (118, bz_newq 121)] : List (Nat × bz_Op)), bz_ok false 137 q.1 q.2 :=
  List.forall_mem_cons.mpr ⟨(bz_of (A := aa_lda 0 105) (as_aload_n mk_137 (k := 0) (by decide +kernel) rfl rfl) bs_lda : bz_ok false 137 104 (bz_lda 0 105)),
  List.forall_mem_cons.mpr ⟨(bo_new mk_137 (ix := 69) (q := (RX3, TX3, 9)) (ty0 := tyX3) (by decide +kernel) rfl rfl rfl aa_inW3 tyX3_ok (by decide +kernel) (aa_bw 321 (by decide +kernel) rfl) (aa_bw 322 (by decide +kernel) rfl) (aa_bw 84 (by decide +kernel) rfl) (by decide) : bz_ok false 137 105 (bz_new 3 9 108)),
  List.forall_mem_cons.mpr ⟨(bz_of (A := aa_dup 109) (as_dup mk_137 (by decide +kernel) rfl) bs_dup : bz_ok false 137 108 (bz_dup 109)),
  List.forall_mem_cons.mpr ⟨(bo_init mk_137 (ix := 71) (M' := ac_r24) (by decide +kernel) rfl ce_24 lk_RX10_71 ci_24 rfl rfl rfl (by decide) : bz_ok false 137 109 (bz_init 24 0 1 112)),
  List.forall_mem_cons.mpr ⟨(bo_putF mk_137 (ix := 72) (by decide +kernel) rfl (fd_RX10_72 rfl) pf_10_8 : bz_ok false 137 112 (bz_putF 10 8 115)),
  List.forall_mem_cons.mpr ⟨(bz_of (A := aa_lda 0 116) (as_aload_n mk_137 (k := 0) (by decide +kernel) rfl rfl) bs_lda : bz_ok false 137 115 (bz_lda 0 116)),
  List.forall_mem_cons.mpr ⟨(bz_of (A := aa_pu (.int 6) 118) (as_bipush mk_137 (n := 6) (by decide +kernel) (by decide +kernel) rfl) (bs_pu rfl) : bz_ok false 137 116 (bz_pu (.inl 6) 118)),
  List.forall_mem_cons.mpr ⟨(bo_newQ mk_137 (ix := 76) (by decide +kernel) rfl (aa_bw 356 (by decide +kernel) rfl) : bz_ok false 137 118 (bz_newq 121)),
  fun _ h => absurd h List.not_mem_nil⟩⟩⟩⟩⟩⟩⟩⟩
theorem bd_137_7 : ∀ q ∈ ([(121, bz_putF 10 9 124), (124, bz_lda 0 125), (125, bz_pu (.inl 6) 127), (127, bz_newa 100 129), (129, bz_putF 10 10 132), (132, bz_pu (.inl 0) 133), (133, bz_sti 1 134), (134, bz_ldi 1 135)] : List (Nat × bz_Op)), bz_ok false 137 q.1 q.2 :=
  List.forall_mem_cons.mpr ⟨(bo_putF mk_137 (ix := 78) (by decide +kernel) rfl (fd_RX10_78 rfl) pf_10_9 : bz_ok false 137 121 (bz_putF 10 9 124)),
  List.forall_mem_cons.mpr ⟨(bz_of (A := aa_lda 0 125) (as_aload_n mk_137 (k := 0) (by decide +kernel) rfl rfl) bs_lda : bz_ok false 137 124 (bz_lda 0 125)),
  List.forall_mem_cons.mpr ⟨(bz_of (A := aa_pu (.int 6) 127) (as_bipush mk_137 (n := 6) (by decide +kernel) (by decide +kernel) rfl) (bs_pu rfl) : bz_ok false 137 125 (bz_pu (.inl 6) 127)),
  List.forall_mem_cons.mpr ⟨(bo_newI mk_137 (by decide +kernel) rfl (aa_bw 129 (by decide +kernel) rfl) : bz_ok false 137 127 (bz_newa 100 129)),
  List.forall_mem_cons.mpr ⟨(bo_putF mk_137 (ix := 82) (by decide +kernel) rfl (fd_RX10_82 rfl) pf_10_10 : bz_ok false 137 129 (bz_putF 10 10 132)),
  List.forall_mem_cons.mpr ⟨(bz_of (A := aa_pu (.int 0) 133) (as_iconst mk_137 (n := 0) (by decide +kernel) (by decide +kernel) rfl) (bs_pu rfl) : bz_ok false 137 132 (bz_pu (.inl 0) 133)),
  List.forall_mem_cons.mpr ⟨(bz_of (A := aa_sti 1 134) (as_istore_n mk_137 (k := 1) (by decide +kernel) rfl (by decide) rfl) bs_sti : bz_ok false 137 133 (bz_sti 1 134)),
  List.forall_mem_cons.mpr ⟨(bz_of (A := aa_ldi 1 135) (as_iload_n mk_137 (k := 1) (by decide +kernel) rfl rfl) bs_ldi : bz_ok false 137 134 (bz_ldi 1 135)),
  fun _ h => absurd h List.not_mem_nil⟩⟩⟩⟩⟩⟩⟩⟩
theorem bd_137_8 : ∀ q ∈ ([(135, bz_pu (.inl 6) 137), (137, bz_icmp bh_lt 140 159), (140, bz_lda 0 141), (141, bz_gR 10 9 144), (144, bz_ldi 1 145), (145, bz_new 6 4 148), (148, bz_dup 149), (149, bz_init 67 0 1 152)] : List (Nat × bz_Op)), bz_ok false 137 q.1 q.2 :=
  List.forall_mem_cons.mpr ⟨(bz_of (A := aa_pu (.int 6) 137) (as_bipush mk_137 (n := 6) (by decide +kernel) (by decide +kernel) rfl) (bs_pu rfl) : bz_ok false 137 135 (bz_pu (.inl 6) 137)),
  List.forall_mem_cons.mpr ⟨(bz_of (A := aa_icmp (fun x y => x < y) 140 159) (as_icmp_ge mk_137 (off := 22) (by decide +kernel) (by decide +kernel) rfl) (bs_icmp bh_lt_ok) : bz_ok false 137 137 (bz_icmp bh_lt 140 159)),
  List.forall_mem_cons.mpr ⟨(bz_of (A := aa_lda 0 141) (as_aload_n mk_137 (k := 0) (by decide +kernel) rfl rfl) bs_lda : bz_ok false 137 140 (bz_lda 0 141)),
  List.forall_mem_cons.mpr ⟨(bz_of (A := aa_gR 10 9 144) (as_gR mk_137 (ix := 78) (by decide +kernel) (fd_RX10_78 rfl) rfl) bs_gR : bz_ok false 137 141 (bz_gR 10 9 144)),
  List.forall_mem_cons.mpr ⟨(bz_of (A := aa_ldi 1 145) (as_iload_n mk_137 (k := 1) (by decide +kernel) rfl rfl) bs_ldi : bz_ok false 137 144 (bz_ldi 1 145)),
  List.forall_mem_cons.mpr ⟨(bo_new mk_137 (ix := 76) (q := (RX6, TX6, 4)) (ty0 := tyX6) (by decide +kernel) rfl rfl rfl aa_inW6 tyX6_ok (by decide +kernel) (aa_bw 356 (by decide +kernel) rfl) (aa_bw 358 (by decide +kernel) rfl) (aa_bw 85 (by decide +kernel) rfl) (by decide) : bz_ok false 137 145 (bz_new 6 4 148)),
  List.forall_mem_cons.mpr ⟨(bz_of (A := aa_dup 149) (as_dup mk_137 (by decide +kernel) rfl) bs_dup : bz_ok false 137 148 (bz_dup 149)),
  List.forall_mem_cons.mpr ⟨(bo_init mk_137 (ix := 86) (M' := ac_r67) (by decide +kernel) rfl ce_67 lk_RX10_86 ci_67 rfl rfl rfl (by decide) : bz_ok false 137 149 (bz_init 67 0 1 152)),
  fun _ h => absurd h List.not_mem_nil⟩⟩⟩⟩⟩⟩⟩⟩
theorem bd_137_9 : ∀ q ∈ ([(152, bz_aast 153), (153, bz_inc 1 1 156), (156, bz_go 134), (159, bz_lda 0 160), (160, bz_gR 10 8 163), (163, bz_pu (.inr (.inl 2000000)) 165), (165, bz_ccv 26 1 3 3 0 168), (168, bz_lda 0 169)] : List (Nat × bz_Op)), bz_ok false 137 q.1 q.2 :=
  List.forall_mem_cons.mpr ⟨(bo_aast mk_137 (by decide +kernel) rfl : bz_ok false 137 152 (bz_aast 153)),
  List.forall_mem_cons.mpr ⟨(bz_of (A := aa_inc 1 1 156) (as_iinc mk_137 (n := 1) (by decide +kernel) (by decide +kernel) (by decide) rfl) (bs_inc (by decide +kernel)) : bz_ok false 137 153 (bz_inc 1 1 156)),
  List.forall_mem_cons.mpr ⟨(bz_of (A := aa_go 134) (as_goto mk_137 (off := (-22)) (by decide +kernel) (by decide +kernel)) bs_go : bz_ok false 137 156 (bz_go 134)),
  List.forall_mem_cons.mpr ⟨(bz_of (A := aa_lda 0 160) (as_aload_n mk_137 (k := 0) (by decide +kernel) rfl rfl) bs_lda : bz_ok false 137 159 (bz_lda 0 160)),
  List.forall_mem_cons.mpr ⟨(bz_of (A := aa_gR 10 8 163) (as_gR mk_137 (ix := 72) (by decide +kernel) (fd_RX10_72 rfl) rfl) bs_gR : bz_ok false 137 160 (bz_gR 10 8 163)),
  List.forall_mem_cons.mpr ⟨(bz_of (A := aa_pu (.ref (2000000 + 0)) 165) (as_ldcS mk_137 (ix := 87) (j := 0) (by decide +kernel) rfl rfl) (bs_pu (by decide +kernel)) : bz_ok false 137 163 (bz_pu (.inr (.inl 2000000)) 165)),
  List.forall_mem_cons.mpr ⟨(bz_of (A := aa_ccv 26 1 3 3 aa_kV 168) (as_ccv mk_137 (ix := 89) aa_kV_ok (by decide +kernel) (cx_RX10_89 rfl) rfl) (bs_ccv bz_k0) : bz_ok false 137 165 (bz_ccv 26 1 3 3 0 168)),
  List.forall_mem_cons.mpr ⟨(bz_of (A := aa_lda 0 169) (as_aload_n mk_137 (k := 0) (by decide +kernel) rfl rfl) bs_lda : bz_ok false 137 168 (bz_lda 0 169)),
  fun _ h => absurd h List.not_mem_nil⟩⟩⟩⟩⟩⟩⟩⟩
theorem bd_137_10 : ∀ q ∈ ([(169, bz_gR 10 8 172), (172, bz_lda 0 173), (173, bz_gR 10 9 176), (176, bz_pu (.inl 0) 177), (177, bz_ar 102 178), (178, bz_ccv 28 1 2 3 1 181), (181, bz_pop 182), (182, bz_lda 0 183)] : List (Nat × bz_Op)), bz_ok false 137 q.1 q.2 :=
  List.forall_mem_cons.mpr ⟨(bz_of (A := aa_gR 10 8 172) (as_gR mk_137 (ix := 72) (by decide +kernel) (fd_RX10_72 rfl) rfl) bs_gR : bz_ok false 137 169 (bz_gR 10 8 172)),
  List.forall_mem_cons.mpr ⟨(bz_of (A := aa_lda 0 173) (as_aload_n mk_137 (k := 0) (by decide +kernel) rfl rfl) bs_lda : bz_ok false 137 172 (bz_lda 0 173)),
  List.forall_mem_cons.mpr ⟨(bz_of (A := aa_gR 10 9 176) (as_gR mk_137 (ix := 78) (by decide +kernel) (fd_RX10_78 rfl) rfl) bs_gR : bz_ok false 137 173 (bz_gR 10 9 176)),
  List.forall_mem_cons.mpr ⟨(bz_of (A := aa_pu (.int 0) 177) (as_iconst mk_137 (n := 0) (by decide +kernel) (by decide +kernel) rfl) (bs_pu rfl) : bz_ok false 137 176 (bz_pu (.inl 0) 177)),
  List.forall_mem_cons.mpr ⟨(bz_of (A := aa_ar_ 102 178) (as_ar_ mk_137 (Or.inl rfl) (by decide +kernel) rfl) bs_ar : bz_ok false 137 177 (bz_ar 102 178)),
  List.forall_mem_cons.mpr ⟨(bz_of (A := aa_ccv 28 1 2 3 aa_kI 181) (as_ccv mk_137 (ix := 93) aa_kI_ok (by decide +kernel) (cx_RX10_93 rfl) rfl) (bs_ccv bz_k1) : bz_ok false 137 178 (bz_ccv 28 1 2 3 1 181)),
  List.forall_mem_cons.mpr ⟨(bz_of (A := aa_popo 182) (as_pop mk_137 (by decide +kernel) rfl) bs_pop : bz_ok false 137 181 (bz_pop 182)),
  List.forall_mem_cons.mpr ⟨(bz_of (A := aa_lda 0 183) (as_aload_n mk_137 (k := 0) (by decide +kernel) rfl rfl) bs_lda : bz_ok false 137 182 (bz_lda 0 183)),
  fun _ h => absurd h List.not_mem_nil⟩⟩⟩⟩⟩⟩⟩⟩
theorem bd_137_11 : ∀ q ∈ ([(183, bz_pu (.inl 1) 184), (184, bz_pI 10 11 187), (187, bz_retv)] : List (Nat × bz_Op)), bz_ok false 137 q.1 q.2 :=
  List.forall_mem_cons.mpr ⟨(bz_of (A := aa_pu (.int 1) 184) (as_iconst mk_137 (n := 1) (by decide +kernel) (by decide +kernel) rfl) (bs_pu rfl) : bz_ok false 137 183 (bz_pu (.inl 1) 184)),
  List.forall_mem_cons.mpr ⟨(bz_of (A := aa_pI 10 11 187) (as_pI mk_137 (ix := 97) (by decide +kernel) (fd_RX10_97 rfl) pt_10_11 rfl) bs_pI : bz_ok false 137 184 (bz_pI 10 11 187)),
  List.forall_mem_cons.mpr ⟨(bz_of (A := aa_retv) (as_vret mk_137 (by decide +kernel) rfl) bs_retv : bz_ok false 137 187 (bz_retv)),
  fun _ h => absurd h List.not_mem_nil⟩⟩⟩
theorem bd_137_ok : bz_tk false 137 bd_137 :=
  List.forall_mem_cons.mpr ⟨bd_137_0,
  List.forall_mem_cons.mpr ⟨bd_137_1,
  List.forall_mem_cons.mpr ⟨bd_137_2,
  List.forall_mem_cons.mpr ⟨bd_137_3,
  List.forall_mem_cons.mpr ⟨bd_137_4,
  List.forall_mem_cons.mpr ⟨bd_137_5,
  List.forall_mem_cons.mpr ⟨bd_137_6,
  List.forall_mem_cons.mpr ⟨bd_137_7,
  List.forall_mem_cons.mpr ⟨bd_137_8,
  List.forall_mem_cons.mpr ⟨bd_137_9,
  List.forall_mem_cons.mpr ⟨bd_137_10,
  List.forall_mem_cons.mpr ⟨bd_137_11,
  fun _ h => absurd h List.not_mem_nil⟩⟩⟩⟩⟩⟩⟩⟩⟩⟩⟩⟩
def bd_191 : bz_T := [(13, [(0, bz_lda 0 1), (1, bz_obj 4), (4, bz_lda 0 5), (5, bz_pu (.inl 64) 7), (7, bz_newa 100 9), (9, bz_putF 11 0 12), (12, bz_lda 0 13), (13, bz_pu (.inl 64) 15)]), (29, [(15, bz_newa 100 17), (17, bz_putF 11 1 20), (20, bz_lda 0 21), (21, bz_pu (.inl 8) 23), (23, bz_newa 100 25), (25, bz_putF 11 3 28), (28, bz_lda 0 29), (29, bz_pu (.inl 8) 31)]), (45, [(31, bz_newa 100 33), (33, bz_putF 11 4 36), (36, bz_lda 0 37), (37, bz_pu (.inl 20) 39), (39, bz_newa 100 41), (41, bz_putF 11 5 44), (44, bz_lda 0 45), (45, bz_pu (.inl 20) 47)]), (61, [(47, bz_newa 100 49), (49, bz_putF 11 6 52), (52, bz_lda 0 53), (53, bz_pu (.inl 20) 55), (55, bz_newa 100 57), (57, bz_putF 11 7 60), (60, bz_lda 0 61), (61, bz_pu (.inl 20) 63)]), (77, [(63, bz_newa 100 65), (65, bz_putF 11 8 68), (68, bz_lda 0 69), (69, bz_pu (.inl 20) 71), (71, bz_newa 100 73), (73, bz_putF 11 9 76), (76, bz_lda 0 77), (77, bz_pu (.inl 20) 79)]), (94, [(79, bz_newa 100 81), (81, bz_putF 11 10 84), (84, bz_lda 0 85), (85, bz_pu (.inl 160) 88), (88, bz_newa 100 90), (90, bz_putF 11 13 93), (93, bz_lda 0 94), (94, bz_pu (.inl 2000) 97)]), (112, [(97, bz_newa 100 99), (99, bz_putF 11 14 102), (102, bz_lda 0 103), (103, bz_pu (.inl 2000) 106), (106, bz_newa 100 108), (108, bz_putF 11 15 111), (111, bz_lda 0 112), (112, bz_pu (.inl 12) 114)]), (128, [(114, bz_newa 100 116), (116, bz_putF 11 16 119), (119, bz_lda 0 120), (120, bz_pu (.inl 12) 122), (122, bz_newa 100 124), (124, bz_putF 11 17 127), (127, bz_lda 0 128), (128, bz_pu (.inl 200) 131)]), (144, [(131, bz_newa 100 133), (133, bz_putF 11 18 136), (136, bz_lda 0 137), (137, bz_pu (.inl 1) 138), (138, bz_pI 11 20 141), (141, bz_lda 0 142), (142, bz_pu (.inl 6) 144), (144, bz_newa 100 146)]), (161, [(146, bz_putF 11 29 149), (149, bz_lda 0 150), (150, bz_pu (.inl 200) 153), (153, bz_newa 100 155), (155, bz_putF 11 30 158), (158, bz_lda 0 159), (159, bz_pu (.inl 30) 161), (161, bz_newa 100 163)]), (177, [(163, bz_putF 11 31 166), (166, bz_lda 0 167), (167, bz_pu (.inl 30) 169), (169, bz_newa 100 171), (171, bz_putF 11 32 174), (174, bz_lda 0 175), (175, bz_pu (.inl 30) 177), (177, bz_newa 100 179)]), (193, [(179, bz_putF 11 33 182), (182, bz_lda 0 183), (183, bz_pu (.inl 12) 185), (185, bz_newa 100 187), (187, bz_putF 11 35 190), (190, bz_lda 0 191), (191, bz_pu (.inl 40) 193), (193, bz_newa 100 195)]), (209, [(195, bz_putF 11 36 198), (198, bz_lda 0 199), (199, bz_pu (.inl 40) 201), (201, bz_newa 100 203), (203, bz_putF 11 37 206), (206, bz_lda 0 207), (207, bz_pu (.inl 40) 209), (209, bz_newa 100 211)]), (225, [(211, bz_putF 11 38 214), (214, bz_lda 0 215), (215, bz_pu (.inl 40) 217), (217, bz_newa 100 219), (219, bz_putF 11 39 222), (222, bz_lda 0 223), (223, bz_pu (.inl 40) 225), (225, bz_newa 100 227)]), (241, [(227, bz_putF 11 40 230), (230, bz_lda 0 231), (231, bz_pu (.inl 24) 233), (233, bz_newa 100 235), (235, bz_putF 11 41 238), (238, bz_lda 0 239), (239, bz_pu (.inl 24) 241), (241, bz_newa 100 243)]), (257, [(243, bz_putF 11 42 246), (246, bz_lda 0 247), (247, bz_pu (.inl 24) 249), (249, bz_newa 100 251), (251, bz_putF 11 43 254), (254, bz_lda 0 255), (255, bz_pu (.inl 24) 257), (257, bz_newa 100 259)]), (273, [(259, bz_putF 11 44 262), (262, bz_lda 0 263), (263, bz_pu (.inl 24) 265), (265, bz_newa 100 267), (267, bz_putF 11 45 270), (270, bz_lda 0 271), (271, bz_pu (.inl 40) 273), (273, bz_newa 100 275)]), (289, [(275, bz_putF 11 49 278), (278, bz_lda 0 279), (279, bz_pu (.inl 40) 281), (281, bz_newa 100 283), (283, bz_putF 11 50 286), (286, bz_lda 0 287), (287, bz_pu (.inl 40) 289), (289, bz_newa 100 291)]), (305, [(291, bz_putF 11 51 294), (294, bz_lda 0 295), (295, bz_pu (.inl 40) 297), (297, bz_newa 100 299), (299, bz_putF 11 52 302), (302, bz_lda 0 303), (303, bz_pu (.inl 12) 305), (305, bz_newa 100 307)]), (321, [(307, bz_putF 11 53 310), (310, bz_lda 0 311), (311, bz_pu (.inl 8) 313), (313, bz_newa 100 315), (315, bz_putF 11 55 318), (318, bz_lda 0 319), (319, bz_pu (.inl 8) 321), (321, bz_newa 100 323)]), (337, [(323, bz_putF 11 56 326), (326, bz_lda 0 327), (327, bz_pu (.inl 8) 329), (329, bz_newa 100 331), (331, bz_putF 11 57 334), (334, bz_lda 0 335), (335, bz_pu (.inl 30) 337), (337, bz_newa 100 339)]), (351, [(339, bz_putF 11 59 342), (342, bz_lda 0 343), (343, bz_pu (.inl 4) 344), (344, bz_newa 100 346), (346, bz_putF 11 63 349), (349, bz_lda 0 350), (350, bz_pu (.inl 4) 351), (351, bz_newa 100 353)]), (368, [(353, bz_putF 11 64 356), (356, bz_lda 0 357), (357, bz_pu (.inl 160) 360), (360, bz_newa 100 362), (362, bz_putF 11 65 365), (365, bz_lda 0 366), (366, bz_pu (.inl 40) 368), (368, bz_newa 100 370)]), (382, [(370, bz_putF 11 66 373), (373, bz_pu (.inl 0) 374), (374, bz_sti 1 375), (375, bz_ldi 1 376), (376, bz_pu (.inl 64) 378), (378, bz_icmp bh_lt 381 395), (381, bz_lda 0 382), (382, bz_gR 11 0 385)]), (397, [(385, bz_ldi 1 386), (386, bz_pu (.inl 99) 388), (388, bz_as 100 bh_id 389), (389, bz_inc 1 1 392), (392, bz_go 375), (395, bz_pu (.inl 0) 396), (396, bz_sti 1 397), (397, bz_ldi 1 398)]), (409, [(398, bz_pu (.inl 4) 399), (399, bz_icmp bh_lt 402 415), (402, bz_lda 0 403), (403, bz_gR 11 63 406), (406, bz_ldi 1 407), (407, bz_pu (.inl 4294967295) 408), (408, bz_as 100 bh_id 409), (409, bz_inc 1 1 412)]), (424, [(412, bz_go 397), (415, bz_pu (.inl 0) 416), (416, bz_sti 1 417), (417, bz_ldi 1 418), (418, bz_pu (.inl 12) 420), (420, bz_icmp bh_lt 423 436), (423, bz_lda 0 424), (424, bz_gR 11 53 427)]), (440, [(427, bz_ldi 1 428), (428, bz_pu (.inl 4294967295) 429), (429, bz_as 100 bh_id 430), (430, bz_inc 1 1 433), (433, bz_go 417), (436, bz_lda 0 437), (437, bz_ccv 212 0 1 11 0 440), (440, bz_retv)])]
theorem bd_191_0 : ∀ q ∈ ([(0, bz_lda 0 1), (1, bz_obj 4), (4, bz_lda 0 5), (5, bz_pu (.inl 64) 7), (7, bz_newa 100 9), (9, bz_putF 11 0 12), (12, bz_lda 0 13), (13, bz_pu (.inl 64) 15)] : List (Nat × bz_Op)), bz_ok false 191 q.1 q.2 :=
  List.forall_mem_cons.mpr ⟨(bz_of (A := aa_lda 0 1) (as_aload_n mk_191 (k := 0) (by decide +kernel) rfl rfl) bs_lda : bz_ok false 191 0 (bz_lda 0 1)),
  List.forall_mem_cons.mpr ⟨(bo_obj mk_191 (ix := 1) (by decide +kernel) rfl (aa_bw 1225 (by decide +kernel) rfl) oi_i oi_c : bz_ok false 191 1 (bz_obj 4)),
  List.forall_mem_cons.mpr ⟨(bz_of (A := aa_lda 0 5) (as_aload_n mk_191 (k := 0) (by decide +kernel) rfl rfl) bs_lda : bz_ok false 191 4 (bz_lda 0 5)),
  List.forall_mem_cons.mpr ⟨(bz_of (A := aa_pu (.int 64) 7) (as_bipush mk_191 (n := 64) (by decide +kernel) (by decide +kernel) rfl) (bs_pu rfl) : bz_ok false 191 5 (bz_pu (.inl 64) 7)),
  List.forall_mem_cons.mpr ⟨(bo_newI mk_191 (by decide +kernel) rfl (aa_bw 129 (by decide +kernel) rfl) : bz_ok false 191 7 (bz_newa 100 9)),
  List.forall_mem_cons.mpr ⟨(bo_putF mk_191 (ix := 7) (by decide +kernel) rfl (fd_RX11_7 rfl) pf_11_0 : bz_ok false 191 9 (bz_putF 11 0 12)),
  List.forall_mem_cons.mpr ⟨(bz_of (A := aa_lda 0 13) (as_aload_n mk_191 (k := 0) (by decide +kernel) rfl rfl) bs_lda : bz_ok false 191 12 (bz_lda 0 13)),
  List.forall_mem_cons.mpr ⟨(bz_of (A := aa_pu (.int 64) 15) (as_bipush mk_191 (n := 64) (by decide +kernel) (by decide +kernel) rfl) (bs_pu rfl) : bz_ok false 191 13 (bz_pu (.inl 64) 15)),
  fun _ h => absurd h List.not_mem_nil⟩⟩⟩⟩⟩⟩⟩⟩
theorem bd_191_1 : ∀ q ∈ ([(15, bz_newa 100 17), (17, bz_putF 11 1 20), (20, bz_lda 0 21), (21, bz_pu (.inl 8) 23), (23, bz_newa 100 25), (25, bz_putF 11 3 28), (28, bz_lda 0 29), (29, bz_pu (.inl 8) 31)] : List (Nat × bz_Op)), bz_ok false 191 q.1 q.2 :=
  List.forall_mem_cons.mpr ⟨(bo_newI mk_191 (by decide +kernel) rfl (aa_bw 129 (by decide +kernel) rfl) : bz_ok false 191 15 (bz_newa 100 17)),
  List.forall_mem_cons.mpr ⟨(bo_putF mk_191 (ix := 13) (by decide +kernel) rfl (fd_RX11_13 rfl) pf_11_1 : bz_ok false 191 17 (bz_putF 11 1 20)),
  List.forall_mem_cons.mpr ⟨(bz_of (A := aa_lda 0 21) (as_aload_n mk_191 (k := 0) (by decide +kernel) rfl rfl) bs_lda : bz_ok false 191 20 (bz_lda 0 21)),
  List.forall_mem_cons.mpr ⟨(bz_of (A := aa_pu (.int 8) 23) (as_bipush mk_191 (n := 8) (by decide +kernel) (by decide +kernel) rfl) (bs_pu rfl) : bz_ok false 191 21 (bz_pu (.inl 8) 23)),
  List.forall_mem_cons.mpr ⟨(bo_newI mk_191 (by decide +kernel) rfl (aa_bw 129 (by decide +kernel) rfl) : bz_ok false 191 23 (bz_newa 100 25)),
  List.forall_mem_cons.mpr ⟨(bo_putF mk_191 (ix := 16) (by decide +kernel) rfl (fd_RX11_16 rfl) pf_11_3 : bz_ok false 191 25 (bz_putF 11 3 28)),
  List.forall_mem_cons.mpr ⟨(bz_of (A := aa_lda 0 29) (as_aload_n mk_191 (k := 0) (by decide +kernel) rfl rfl) bs_lda : bz_ok false 191 28 (bz_lda 0 29)),
  List.forall_mem_cons.mpr ⟨(bz_of (A := aa_pu (.int 8) 31) (as_bipush mk_191 (n := 8) (by decide +kernel) (by decide +kernel) rfl) (bs_pu rfl) : bz_ok false 191 29 (bz_pu (.inl 8) 31)),
  fun _ h => absurd h List.not_mem_nil⟩⟩⟩⟩⟩⟩⟩⟩
theorem bd_191_2 : ∀ q ∈ ([(31, bz_newa 100 33), (33, bz_putF 11 4 36), (36, bz_lda 0 37), (37, bz_pu (.inl 20) 39), (39, bz_newa 100 41), (41, bz_putF 11 5 44), (44, bz_lda 0 45), (45, bz_pu (.inl 20) 47)] : List (Nat × bz_Op)), bz_ok false 191 q.1 q.2 :=
  List.forall_mem_cons.mpr ⟨(bo_newI mk_191 (by decide +kernel) rfl (aa_bw 129 (by decide +kernel) rfl) : bz_ok false 191 31 (bz_newa 100 33)),
  List.forall_mem_cons.mpr ⟨(bo_putF mk_191 (ix := 19) (by decide +kernel) rfl (fd_RX11_19 rfl) pf_11_4 : bz_ok false 191 33 (bz_putF 11 4 36)),
  List.forall_mem_cons.mpr ⟨(bz_of (A := aa_lda 0 37) (as_aload_n mk_191 (k := 0) (by decide +kernel) rfl rfl) bs_lda : bz_ok false 191 36 (bz_lda 0 37)),
  List.forall_mem_cons.mpr ⟨(bz_of (A := aa_pu (.int 20) 39) (as_bipush mk_191 (n := 20) (by decide +kernel) (by decide +kernel) rfl) (bs_pu rfl) : bz_ok false 191 37 (bz_pu (.inl 20) 39)),
  List.forall_mem_cons.mpr ⟨(bo_newI mk_191 (by decide +kernel) rfl (aa_bw 129 (by decide +kernel) rfl) : bz_ok false 191 39 (bz_newa 100 41)),
  List.forall_mem_cons.mpr ⟨(bo_putF mk_191 (ix := 22) (by decide +kernel) rfl (fd_RX11_22 rfl) pf_11_5 : bz_ok false 191 41 (bz_putF 11 5 44)),
  List.forall_mem_cons.mpr ⟨(bz_of (A := aa_lda 0 45) (as_aload_n mk_191 (k := 0) (by decide +kernel) rfl rfl) bs_lda : bz_ok false 191 44 (bz_lda 0 45)),
  List.forall_mem_cons.mpr ⟨(bz_of (A := aa_pu (.int 20) 47) (as_bipush mk_191 (n := 20) (by decide +kernel) (by decide +kernel) rfl) (bs_pu rfl) : bz_ok false 191 45 (bz_pu (.inl 20) 47)),
  fun _ h => absurd h List.not_mem_nil⟩⟩⟩⟩⟩⟩⟩⟩
theorem bd_191_3 : ∀ q ∈ ([(47, bz_newa 100 49), (49, bz_putF 11 6 52), (52, bz_lda 0 53), (53, bz_pu (.inl 20) 55), (55, bz_newa 100 57), (57, bz_putF 11 7 60), (60, bz_lda 0 61), (61, bz_pu (.inl 20) 63)] : List (Nat × bz_Op)), bz_ok false 191 q.1 q.2 :=
  List.forall_mem_cons.mpr ⟨(bo_newI mk_191 (by decide +kernel) rfl (aa_bw 129 (by decide +kernel) rfl) : bz_ok false 191 47 (bz_newa 100 49)),
  List.forall_mem_cons.mpr ⟨(bo_putF mk_191 (ix := 25) (by decide +kernel) rfl (fd_RX11_25 rfl) pf_11_6 : bz_ok false 191 49 (bz_putF 11 6 52)),
  List.forall_mem_cons.mpr ⟨(bz_of (A := aa_lda 0 53) (as_aload_n mk_191 (k := 0) (by decide +kernel) rfl rfl) bs_lda : bz_ok false 191 52 (bz_lda 0 53)),
  List.forall_mem_cons.mpr ⟨(bz_of (A := aa_pu (.int 20) 55) (as_bipush mk_191 (n := 20) (by decide +kernel) (by decide +kernel) rfl) (bs_pu rfl) : bz_ok false 191 53 (bz_pu (.inl 20) 55)),
  List.forall_mem_cons.mpr ⟨(bo_newI mk_191 (by decide +kernel) rfl (aa_bw 129 (by decide +kernel) rfl) : bz_ok false 191 55 (bz_newa 100 57)),
  List.forall_mem_cons.mpr ⟨(bo_putF mk_191 (ix := 28) (by decide +kernel) rfl (fd_RX11_28 rfl) pf_11_7 : bz_ok false 191 57 (bz_putF 11 7 60)),
  List.forall_mem_cons.mpr ⟨(bz_of (A := aa_lda 0 61) (as_aload_n mk_191 (k := 0) (by decide +kernel) rfl rfl) bs_lda : bz_ok false 191 60 (bz_lda 0 61)),
  List.forall_mem_cons.mpr ⟨(bz_of (A := aa_pu (.int 20) 63) (as_bipush mk_191 (n := 20) (by decide +kernel) (by decide +kernel) rfl) (bs_pu rfl) : bz_ok false 191 61 (bz_pu (.inl 20) 63)),
  fun _ h => absurd h List.not_mem_nil⟩⟩⟩⟩⟩⟩⟩⟩
theorem bd_191_4 : ∀ q ∈ ([(63, bz_newa 100 65), (65, bz_putF 11 8 68), (68, bz_lda 0 69), (69, bz_pu (.inl 20) 71), (71, bz_newa 100 73), (73, bz_putF 11 9 76), (76, bz_lda 0 77), (77, bz_pu (.inl 20) 79)] : List (Nat × bz_Op)), bz_ok false 191 q.1 q.2 :=
  List.forall_mem_cons.mpr ⟨(bo_newI mk_191 (by decide +kernel) rfl (aa_bw 129 (by decide +kernel) rfl) : bz_ok false 191 63 (bz_newa 100 65)),
  List.forall_mem_cons.mpr ⟨(bo_putF mk_191 (ix := 31) (by decide +kernel) rfl (fd_RX11_31 rfl) pf_11_8 : bz_ok false 191 65 (bz_putF 11 8 68)),
  List.forall_mem_cons.mpr ⟨(bz_of (A := aa_lda 0 69) (as_aload_n mk_191 (k := 0) (by decide +kernel) rfl rfl) bs_lda : bz_ok false 191 68 (bz_lda 0 69)),
  List.forall_mem_cons.mpr ⟨(bz_of (A := aa_pu (.int 20) 71) (as_bipush mk_191 (n := 20) (by decide +kernel) (by decide +kernel) rfl) (bs_pu rfl) : bz_ok false 191 69 (bz_pu (.inl 20) 71)),
  List.forall_mem_cons.mpr ⟨(bo_newI mk_191 (by decide +kernel) rfl (aa_bw 129 (by decide +kernel) rfl) : bz_ok false 191 71 (bz_newa 100 73)),
  List.forall_mem_cons.mpr ⟨(bo_putF mk_191 (ix := 34) (by decide +kernel) rfl (fd_RX11_34 rfl) pf_11_9 : bz_ok false 191 73 (bz_putF 11 9 76)),
  List.forall_mem_cons.mpr ⟨(bz_of (A := aa_lda 0 77) (as_aload_n mk_191 (k := 0) (by decide +kernel) rfl rfl) bs_lda : bz_ok false 191 76 (bz_lda 0 77)),
  List.forall_mem_cons.mpr ⟨(bz_of (A := aa_pu (.int 20) 79) (as_bipush mk_191 (n := 20) (by decide +kernel) (by decide +kernel) rfl) (bs_pu rfl) : bz_ok false 191 77 (bz_pu (.inl 20) 79)),
  fun _ h => absurd h List.not_mem_nil⟩⟩⟩⟩⟩⟩⟩⟩
theorem bd_191_5 : ∀ q ∈ ([(79, bz_newa 100 81), (81, bz_putF 11 10 84), (84, bz_lda 0 85), (85, bz_pu (.inl 160) 88), (88, bz_newa 100 90), (90, bz_putF 11 13 93), (93, bz_lda 0 94), (94, bz_pu (.inl 2000) 97)] : List (Nat × bz_Op)), bz_ok false 191 q.1 q.2 :=
  List.forall_mem_cons.mpr ⟨(bo_newI mk_191 (by decide +kernel) rfl (aa_bw 129 (by decide +kernel) rfl) : bz_ok false 191 79 (bz_newa 100 81)),
  List.forall_mem_cons.mpr ⟨(bo_putF mk_191 (ix := 37) (by decide +kernel) rfl (fd_RX11_37 rfl) pf_11_10 : bz_ok false 191 81 (bz_putF 11 10 84)),
  List.forall_mem_cons.mpr ⟨(bz_of (A := aa_lda 0 85) (as_aload_n mk_191 (k := 0) (by decide +kernel) rfl rfl) bs_lda : bz_ok false 191 84 (bz_lda 0 85)),
  List.forall_mem_cons.mpr ⟨(bz_of (A := aa_pu (.int 160) 88) (as_sipush mk_191 (n := 160) (by decide +kernel) (by decide +kernel) rfl) (bs_pu rfl) : bz_ok false 191 85 (bz_pu (.inl 160) 88)),
  List.forall_mem_cons.mpr ⟨(bo_newI mk_191 (by decide +kernel) rfl (aa_bw 129 (by decide +kernel) rfl) : bz_ok false 191 88 (bz_newa 100 90)),
  List.forall_mem_cons.mpr ⟨(bo_putF mk_191 (ix := 40) (by decide +kernel) rfl (fd_RX11_40 rfl) pf_11_13 : bz_ok false 191 90 (bz_putF 11 13 93)),
  List.forall_mem_cons.mpr ⟨(bz_of (A := aa_lda 0 94) (as_aload_n mk_191 (k := 0) (by decide +kernel) rfl rfl) bs_lda : bz_ok false 191 93 (bz_lda 0 94)),
  List.forall_mem_cons.mpr ⟨(bz_of (A := aa_pu (.int 2000) 97) (as_sipush mk_191 (n := 2000) (by decide +kernel) (by decide +kernel) rfl) (bs_pu rfl) : bz_ok false 191 94 (bz_pu (.inl 2000) 97)),
  fun _ h => absurd h List.not_mem_nil⟩⟩⟩⟩⟩⟩⟩⟩
theorem bd_191_6 : ∀ q ∈ ([(97, bz_newa 100 99), (99, bz_putF 11 14 102), (102, bz_lda 0 103), (103, bz_pu (.inl 2000) 106), (106, bz_newa 100 108), (108, bz_putF 11 15 111), (111, bz_lda 0 112), (112, bz_pu (.inl 12) 114)] : List (Nat × bz_Op)), bz_ok false 191 q.1 q.2 :=
  List.forall_mem_cons.mpr ⟨(bo_newI mk_191 (by decide +kernel) rfl (aa_bw 129 (by decide +kernel) rfl) : bz_ok false 191 97 (bz_newa 100 99)),
  List.forall_mem_cons.mpr ⟨(bo_putF mk_191 (ix := 43) (by decide +kernel) rfl (fd_RX11_43 rfl) pf_11_14 : bz_ok false 191 99 (bz_putF 11 14 102)),
  List.forall_mem_cons.mpr ⟨(bz_of (A := aa_lda 0 103) (as_aload_n mk_191 (k := 0) (by decide +kernel) rfl rfl) bs_lda : bz_ok false 191 102 (bz_lda 0 103)),
  List.forall_mem_cons.mpr ⟨(bz_of (A := aa_pu (.int 2000) 106) (as_sipush mk_191 (n := 2000) (by decide +kernel) (by decide +kernel) rfl) (bs_pu rfl) : bz_ok false 191 103 (bz_pu (.inl 2000) 106)),
  List.forall_mem_cons.mpr ⟨(bo_newI mk_191 (by decide +kernel) rfl (aa_bw 129 (by decide +kernel) rfl) : bz_ok false 191 106 (bz_newa 100 108)),
  List.forall_mem_cons.mpr ⟨(bo_putF mk_191 (ix := 46) (by decide +kernel) rfl (fd_RX11_46 rfl) pf_11_15 : bz_ok false 191 108 (bz_putF 11 15 111)),
  List.forall_mem_cons.mpr ⟨(bz_of (A := aa_lda 0 112) (as_aload_n mk_191 (k := 0) (by decide +kernel) rfl rfl) bs_lda : bz_ok false 191 111 (bz_lda 0 112)),
  List.forall_mem_cons.mpr ⟨(bz_of (A := aa_pu (.int 12) 114) (as_bipush mk_191 (n := 12) (by decide +kernel) (by decide +kernel) rfl) (bs_pu rfl) : bz_ok false 191 112 (bz_pu (.inl 12) 114)),
  fun _ h => absurd h List.not_mem_nil⟩⟩⟩⟩⟩⟩⟩⟩
theorem bd_191_7 : ∀ q ∈ ([(114, bz_newa 100 116), (116, bz_putF 11 16 119), (119, bz_lda 0 120), (120, bz_pu (.inl 12) 122), (122, bz_newa 100 124), (124, bz_putF 11 17 127), (127, bz_lda 0 128), (128, bz_pu (.inl 200) 131)] : List (Nat × bz_Op)), bz_ok false 191 q.1 q.2 :=
  List.forall_mem_cons.mpr ⟨(bo_newI mk_191 (by decide +kernel) rfl (aa_bw 129 (by decide +kernel) rfl) : bz_ok false 191 114 (bz_newa 100 116)),
  List.forall_mem_cons.mpr ⟨(bo_putF mk_191 (ix := 49) (by decide +kernel) rfl (fd_RX11_49 rfl) pf_11_16 : bz_ok false 191 116 (bz_putF 11 16 119)),
  List.forall_mem_cons.mpr ⟨(bz_of (A := aa_lda 0 120) (as_aload_n mk_191 (k := 0) (by decide +kernel) rfl rfl) bs_lda : bz_ok false 191 119 (bz_lda 0 120)),
  List.forall_mem_cons.mpr ⟨(bz_of (A := aa_pu (.int 12) 122) (as_bipush mk_191 (n := 12) (by decide +kernel) (by decide +kernel) rfl) (bs_pu rfl) : bz_ok false 191 120 (bz_pu (.inl 12) 122)),
  List.forall_mem_cons.mpr ⟨(bo_newI mk_191 (by decide +kernel) rfl (aa_bw 129 (by decide +kernel) rfl) : bz_ok false 191 122 (bz_newa 100 124)),
  List.forall_mem_cons.mpr ⟨(bo_putF mk_191 (ix := 52) (by decide +kernel) rfl (fd_RX11_52 rfl) pf_11_17 : bz_ok false 191 124 (bz_putF 11 17 127)),
  List.forall_mem_cons.mpr ⟨(bz_of (A := aa_lda 0 128) (as_aload_n mk_191 (k := 0) (by decide +kernel) rfl rfl) bs_lda : bz_ok false 191 127 (bz_lda 0 128)),
  List.forall_mem_cons.mpr ⟨(bz_of (A := aa_pu (.int 200) 131) (as_sipush mk_191 (n := 200) (by decide +kernel) (by decide +kernel) rfl) (bs_pu rfl) : bz_ok false 191 128 (bz_pu (.inl 200) 131)),
  fun _ h => absurd h List.not_mem_nil⟩⟩⟩⟩⟩⟩⟩⟩
theorem bd_191_8 : ∀ q ∈ ([(131, bz_newa 100 133), (133, bz_putF 11 18 136), (136, bz_lda 0 137), (137, bz_pu (.inl 1) 138), (138, bz_pI 11 20 141), (141, bz_lda 0 142), (142, bz_pu (.inl 6) 144), (144, bz_newa 100 146)] : List (Nat × bz_Op)), bz_ok false 191 q.1 q.2 :=
  List.forall_mem_cons.mpr ⟨(bo_newI mk_191 (by decide +kernel) rfl (aa_bw 129 (by decide +kernel) rfl) : bz_ok false 191 131 (bz_newa 100 133)),
  List.forall_mem_cons.mpr ⟨(bo_putF mk_191 (ix := 55) (by decide +kernel) rfl (fd_RX11_55 rfl) pf_11_18 : bz_ok false 191 133 (bz_putF 11 18 136)),
  List.forall_mem_cons.mpr ⟨(bz_of (A := aa_lda 0 137) (as_aload_n mk_191 (k := 0) (by decide +kernel) rfl rfl) bs_lda : bz_ok false 191 136 (bz_lda 0 137)),
  List.forall_mem_cons.mpr ⟨(bz_of (A := aa_pu (.int 1) 138) (as_iconst mk_191 (n := 1) (by decide +kernel) (by decide +kernel) rfl) (bs_pu rfl) : bz_ok false 191 137 (bz_pu (.inl 1) 138)),
  List.forall_mem_cons.mpr ⟨(bz_of (A := aa_pI 11 20 141) (as_pI mk_191 (ix := 58) (by decide +kernel) (fd_RX11_58 rfl) pt_11_20 rfl) bs_pI : bz_ok false 191 138 (bz_pI 11 20 141)),
  List.forall_mem_cons.mpr ⟨(bz_of (A := aa_lda 0 142) (as_aload_n mk_191 (k := 0) (by decide +kernel) rfl rfl) bs_lda : bz_ok false 191 141 (bz_lda 0 142)),
  List.forall_mem_cons.mpr ⟨(bz_of (A := aa_pu (.int 6) 144) (as_bipush mk_191 (n := 6) (by decide +kernel) (by decide +kernel) rfl) (bs_pu rfl) : bz_ok false 191 142 (bz_pu (.inl 6) 144)),
  List.forall_mem_cons.mpr ⟨(bo_newI mk_191 (by decide +kernel) rfl (aa_bw 129 (by decide +kernel) rfl) : bz_ok false 191 144 (bz_newa 100 146)),
  fun _ h => absurd h List.not_mem_nil⟩⟩⟩⟩⟩⟩⟩⟩
theorem bd_191_9 : ∀ q ∈ ([(146, bz_putF 11 29 149), (149, bz_lda 0 150), (150, bz_pu (.inl 200) 153), (153, bz_newa 100 155), (155, bz_putF 11 30 158), (158, bz_lda 0 159), (159, bz_pu (.inl 30) 161), (161, bz_newa 100 163)] : List (Nat × bz_Op)), bz_ok false 191 q.1 q.2 :=
  List.forall_mem_cons.mpr ⟨(bo_putF mk_191 (ix := 62) (by decide +kernel) rfl (fd_RX11_62 rfl) pf_11_29 : bz_ok false 191 146 (bz_putF 11 29 149)),
  List.forall_mem_cons.mpr ⟨(bz_of (A := aa_lda 0 150) (as_aload_n mk_191 (k := 0) (by decide +kernel) rfl rfl) bs_lda : bz_ok false 191 149 (bz_lda 0 150)),
  List.forall_mem_cons.mpr ⟨(bz_of (A := aa_pu (.int 200) 153) (as_sipush mk_191 (n := 200) (by decide +kernel) (by decide +kernel) rfl) (bs_pu rfl) : bz_ok false 191 150 (bz_pu (.inl 200) 153)),
  List.forall_mem_cons.mpr ⟨(bo_newI mk_191 (by decide +kernel) rfl (aa_bw 129 (by decide +kernel) rfl) : bz_ok false 191 153 (bz_newa 100 155)),
  List.forall_mem_cons.mpr ⟨(bo_putF mk_191 (ix := 65) (by decide +kernel) rfl (fd_RX11_65 rfl) pf_11_30 : bz_ok false 191 155 (bz_putF 11 30 158)),
  List.forall_mem_cons.mpr ⟨(bz_of (A := aa_lda 0 159) (as_aload_n mk_191 (k := 0) (by decide +kernel) rfl rfl) bs_lda : bz_ok false 191 158 (bz_lda 0 159)),
  List.forall_mem_cons.mpr ⟨(bz_of (A := aa_pu (.int 30) 161) (as_bipush mk_191 (n := 30) (by decide +kernel) (by decide +kernel) rfl) (bs_pu rfl) : bz_ok false 191 159 (bz_pu (.inl 30) 161)),
  List.forall_mem_cons.mpr ⟨(bo_newI mk_191 (by decide +kernel) rfl (aa_bw 129 (by decide +kernel) rfl) : bz_ok false 191 161 (bz_newa 100 163)),
  fun _ h => absurd h List.not_mem_nil⟩⟩⟩⟩⟩⟩⟩⟩
theorem bd_191_10 : ∀ q ∈ ([(163, bz_putF 11 31 166), (166, bz_lda 0 167), (167, bz_pu (.inl 30) 169), (169, bz_newa 100 171), (171, bz_putF 11 32 174), (174, bz_lda 0 175), (175, bz_pu (.inl 30) 177), (177, bz_newa 100 179)] : List (Nat × bz_Op)), bz_ok false 191 q.1 q.2 :=
  List.forall_mem_cons.mpr ⟨(bo_putF mk_191 (ix := 68) (by decide +kernel) rfl (fd_RX11_68 rfl) pf_11_31 : bz_ok false 191 163 (bz_putF 11 31 166)),
  List.forall_mem_cons.mpr ⟨(bz_of (A := aa_lda 0 167) (as_aload_n mk_191 (k := 0) (by decide +kernel) rfl rfl) bs_lda : bz_ok false 191 166 (bz_lda 0 167)),
  List.forall_mem_cons.mpr ⟨(bz_of (A := aa_pu (.int 30) 169) (as_bipush mk_191 (n := 30) (by decide +kernel) (by decide +kernel) rfl) (bs_pu rfl) : bz_ok false 191 167 (bz_pu (.inl 30) 169)),
  List.forall_mem_cons.mpr ⟨(bo_newI mk_191 (by decide +kernel) rfl (aa_bw 129 (by decide +kernel) rfl) : bz_ok false 191 169 (bz_newa 100 171)),
  List.forall_mem_cons.mpr ⟨(bo_putF mk_191 (ix := 71) (by decide +kernel) rfl (fd_RX11_71 rfl) pf_11_32 : bz_ok false 191 171 (bz_putF 11 32 174)),
  List.forall_mem_cons.mpr ⟨(bz_of (A := aa_lda 0 175) (as_aload_n mk_191 (k := 0) (by decide +kernel) rfl rfl) bs_lda : bz_ok false 191 174 (bz_lda 0 175)),
  List.forall_mem_cons.mpr ⟨(bz_of (A := aa_pu (.int 30) 177) (as_bipush mk_191 (n := 30) (by decide +kernel) (by decide +kernel) rfl) (bs_pu rfl) : bz_ok false 191 175 (bz_pu (.inl 30) 177)),
  List.forall_mem_cons.mpr ⟨(bo_newI mk_191 (by decide +kernel) rfl (aa_bw 129 (by decide +kernel) rfl) : bz_ok false 191 177 (bz_newa 100 179)),
  fun _ h => absurd h List.not_mem_nil⟩⟩⟩⟩⟩⟩⟩⟩
theorem bd_191_11 : ∀ q ∈ ([(179, bz_putF 11 33 182), (182, bz_lda 0 183), (183, bz_pu (.inl 12) 185), (185, bz_newa 100 187), (187, bz_putF 11 35 190), (190, bz_lda 0 191), (191, bz_pu (.inl 40) 193), (193, bz_newa 100 195)] : List (Nat × bz_Op)), bz_ok false 191 q.1 q.2 :=
  List.forall_mem_cons.mpr ⟨(bo_putF mk_191 (ix := 74) (by decide +kernel) rfl (fd_RX11_74 rfl) pf_11_33 : bz_ok false 191 179 (bz_putF 11 33 182)),
  List.forall_mem_cons.mpr ⟨(bz_of (A := aa_lda 0 183) (as_aload_n mk_191 (k := 0) (by decide +kernel) rfl rfl) bs_lda : bz_ok false 191 182 (bz_lda 0 183)),
  List.forall_mem_cons.mpr ⟨(bz_of (A := aa_pu (.int 12) 185) (as_bipush mk_191 (n := 12) (by decide +kernel) (by decide +kernel) rfl) (bs_pu rfl) : bz_ok false 191 183 (bz_pu (.inl 12) 185)),
  List.forall_mem_cons.mpr ⟨(bo_newI mk_191 (by decide +kernel) rfl (aa_bw 129 (by decide +kernel) rfl) : bz_ok false 191 185 (bz_newa 100 187)),
  List.forall_mem_cons.mpr ⟨(bo_putF mk_191 (ix := 77) (by decide +kernel) rfl (fd_RX11_77 rfl) pf_11_35 : bz_ok false 191 187 (bz_putF 11 35 190)),
  List.forall_mem_cons.mpr ⟨(bz_of (A := aa_lda 0 191) (as_aload_n mk_191 (k := 0) (by decide +kernel) rfl rfl) bs_lda : bz_ok false 191 190 (bz_lda 0 191)),
  List.forall_mem_cons.mpr ⟨(bz_of (A := aa_pu (.int 40) 193) (as_bipush mk_191 (n := 40) (by decide +kernel) (by decide +kernel) rfl) (bs_pu rfl) : bz_ok false 191 191 (bz_pu (.inl 40) 193)),
  List.forall_mem_cons.mpr ⟨(bo_newI mk_191 (by decide +kernel) rfl (aa_bw 129 (by decide +kernel) rfl) : bz_ok false 191 193 (bz_newa 100 195)),
  fun _ h => absurd h List.not_mem_nil⟩⟩⟩⟩⟩⟩⟩⟩
theorem bd_191_12 : ∀ q ∈ ([(195, bz_putF 11 36 198), (198, bz_lda 0 199), (199, bz_pu (.inl 40) 201), (201, bz_newa 100 203), (203, bz_putF 11 37 206), (206, bz_lda 0 207), (207, bz_pu (.inl 40) 209), (209, bz_newa 100 211)] : List (Nat × bz_Op)), bz_ok false 191 q.1 q.2 :=
  List.forall_mem_cons.mpr ⟨(bo_putF mk_191 (ix := 80) (by decide +kernel) rfl (fd_RX11_80 rfl) pf_11_36 : bz_ok false 191 195 (bz_putF 11 36 198)),
  List.forall_mem_cons.mpr ⟨(bz_of (A := aa_lda 0 199) (as_aload_n mk_191 (k := 0) (by decide +kernel) rfl rfl) bs_lda : bz_ok false 191 198 (bz_lda 0 199)),
  List.forall_mem_cons.mpr ⟨(bz_of (A := aa_pu (.int 40) 201) (as_bipush mk_191 (n := 40) (by decide +kernel) (by decide +kernel) rfl) (bs_pu rfl) : bz_ok false 191 199 (bz_pu (.inl 40) 201)),
  List.forall_mem_cons.mpr ⟨(bo_newI mk_191 (by decide +kernel) rfl (aa_bw 129 (by decide +kernel) rfl) : bz_ok false 191 201 (bz_newa 100 203)),
  List.forall_mem_cons.mpr ⟨(bo_putF mk_191 (ix := 83) (by decide +kernel) rfl (fd_RX11_83 rfl) pf_11_37 : bz_ok false 191 203 (bz_putF 11 37 206)),
  List.forall_mem_cons.mpr ⟨(bz_of (A := aa_lda 0 207) (as_aload_n mk_191 (k := 0) (by decide +kernel) rfl rfl) bs_lda : bz_ok false 191 206 (bz_lda 0 207)),
  List.forall_mem_cons.mpr ⟨(bz_of (A := aa_pu (.int 40) 209) (as_bipush mk_191 (n := 40) (by decide +kernel) (by decide +kernel) rfl) (bs_pu rfl) : bz_ok false 191 207 (bz_pu (.inl 40) 209)),
  List.forall_mem_cons.mpr ⟨(bo_newI mk_191 (by decide +kernel) rfl (aa_bw 129 (by decide +kernel) rfl) : bz_ok false 191 209 (bz_newa 100 211)),
  fun _ h => absurd h List.not_mem_nil⟩⟩⟩⟩⟩⟩⟩⟩
theorem bd_191_13 : ∀ q ∈ ([(211, bz_putF 11 38 214), (214, bz_lda 0 215), (215, bz_pu (.inl 40) 217), (217, bz_newa 100 219), (219, bz_putF 11 39 222), (222, bz_lda 0 223), (223, bz_pu (.inl 40) 225), (225, bz_newa 100 227)] : List (Nat × bz_Op)), bz_ok false 191 q.1 q.2 :=
  List.forall_mem_cons.mpr ⟨(bo_putF mk_191 (ix := 86) (by decide +kernel) rfl (fd_RX11_86 rfl) pf_11_38 : bz_ok false 191 211 (bz_putF 11 38 214)),
  List.forall_mem_cons.mpr ⟨(bz_of (A := aa_lda 0 215) (as_aload_n mk_191 (k := 0) (by decide +kernel) rfl rfl) bs_lda : bz_ok false 191 214 (bz_lda 0 215)),
  List.forall_mem_cons.mpr ⟨(bz_of (A := aa_pu (.int 40) 217) (as_bipush mk_191 (n := 40) (by decide +kernel) (by decide +kernel) rfl) (bs_pu rfl) : bz_ok false 191 215 (bz_pu (.inl 40) 217)),
  List.forall_mem_cons.mpr ⟨(bo_newI mk_191 (by decide +kernel) rfl (aa_bw 129 (by decide +kernel) rfl) : bz_ok false 191 217 (bz_newa 100 219)),
  List.forall_mem_cons.mpr ⟨(bo_putF mk_191 (ix := 89) (by decide +kernel) rfl (fd_RX11_89 rfl) pf_11_39 : bz_ok false 191 219 (bz_putF 11 39 222)),
  List.forall_mem_cons.mpr ⟨(bz_of (A := aa_lda 0 223) (as_aload_n mk_191 (k := 0) (by decide +kernel) rfl rfl) bs_lda : bz_ok false 191 222 (bz_lda 0 223)),
  List.forall_mem_cons.mpr ⟨(bz_of (A := aa_pu (.int 40) 225) (as_bipush mk_191 (n := 40) (by decide +kernel) (by decide +kernel) rfl) (bs_pu rfl) : bz_ok false 191 223 (bz_pu (.inl 40) 225)),
  List.forall_mem_cons.mpr ⟨(bo_newI mk_191 (by decide +kernel) rfl (aa_bw 129 (by decide +kernel) rfl) : bz_ok false 191 225 (bz_newa 100 227)),
  fun _ h => absurd h List.not_mem_nil⟩⟩⟩⟩⟩⟩⟩⟩
theorem bd_191_14 : ∀ q ∈ ([(227, bz_putF 11 40 230), (230, bz_lda 0 231), (231, bz_pu (.inl 24) 233), (233, bz_newa 100 235), (235, bz_putF 11 41 238), (238, bz_lda 0 239), (239, bz_pu (.inl 24) 241), (241, bz_newa 100 243)] : List (Nat × bz_Op)), bz_ok false 191 q.1 q.2 :=
  List.forall_mem_cons.mpr ⟨(bo_putF mk_191 (ix := 92) (by decide +kernel) rfl (fd_RX11_92 rfl) pf_11_40 : bz_ok false 191 227 (bz_putF 11 40 230)),
  List.forall_mem_cons.mpr ⟨(bz_of (A := aa_lda 0 231) (as_aload_n mk_191 (k := 0) (by decide +kernel) rfl rfl) bs_lda : bz_ok false 191 230 (bz_lda 0 231)),
  List.forall_mem_cons.mpr ⟨(bz_of (A := aa_pu (.int 24) 233) (as_bipush mk_191 (n := 24) (by decide +kernel) (by decide +kernel) rfl) (bs_pu rfl) : bz_ok false 191 231 (bz_pu (.inl 24) 233)),
  List.forall_mem_cons.mpr ⟨(bo_newI mk_191 (by decide +kernel) rfl (aa_bw 129 (by decide +kernel) rfl) : bz_ok false 191 233 (bz_newa 100 235)),
  List.forall_mem_cons.mpr ⟨(bo_putF mk_191 (ix := 95) (by decide +kernel) rfl (fd_RX11_95 rfl) pf_11_41 : bz_ok false 191 235 (bz_putF 11 41 238)),
  List.forall_mem_cons.mpr ⟨(bz_of (A := aa_lda 0 239) (as_aload_n mk_191 (k := 0) (by decide +kernel) rfl rfl) bs_lda : bz_ok false 191 238 (bz_lda 0 239)),
  List.forall_mem_cons.mpr ⟨(bz_of (A := aa_pu (.int 24) 241) (as_bipush mk_191 (n := 24) (by decide +kernel) (by decide +kernel) rfl) (bs_pu rfl) : bz_ok false 191 239 (bz_pu (.inl 24) 241)),
  List.forall_mem_cons.mpr ⟨(bo_newI mk_191 (by decide +kernel) rfl (aa_bw 129 (by decide +kernel) rfl) : bz_ok false 191 241 (bz_newa 100 243)),
  fun _ h => absurd h List.not_mem_nil⟩⟩⟩⟩⟩⟩⟩⟩
theorem bd_191_15 : ∀ q ∈ ([(243, bz_putF 11 42 246), (246, bz_lda 0 247), (247, bz_pu (.inl 24) 249), (249, bz_newa 100 251), (251, bz_putF 11 43 254), (254, bz_lda 0 255), (255, bz_pu (.inl 24) 257), (257, bz_newa 100 259)] : List (Nat × bz_Op)), bz_ok false 191 q.1 q.2 :=
  List.forall_mem_cons.mpr ⟨(bo_putF mk_191 (ix := 98) (by decide +kernel) rfl (fd_RX11_98 rfl) pf_11_42 : bz_ok false 191 243 (bz_putF 11 42 246)),
  List.forall_mem_cons.mpr ⟨(bz_of (A := aa_lda 0 247) (as_aload_n mk_191 (k := 0) (by decide +kernel) rfl rfl) bs_lda : bz_ok false 191 246 (bz_lda 0 247)),
  List.forall_mem_cons.mpr ⟨(bz_of (A := aa_pu (.int 24) 249) (as_bipush mk_191 (n := 24) (by decide +kernel) (by decide +kernel) rfl) (bs_pu rfl) : bz_ok false 191 247 (bz_pu (.inl 24) 249)),
  List.forall_mem_cons.mpr ⟨(bo_newI mk_191 (by decide +kernel) rfl (aa_bw 129 (by decide +kernel) rfl) : bz_ok false 191 249 (bz_newa 100 251)),
  List.forall_mem_cons.mpr ⟨(bo_putF mk_191 (ix := 101) (by decide +kernel) rfl (fd_RX11_101 rfl) pf_11_43 : bz_ok false 191 251 (bz_putF 11 43 254)),
  List.forall_mem_cons.mpr ⟨(bz_of (A := aa_lda 0 255) (as_aload_n mk_191 (k := 0) (by decide +kernel) rfl rfl) bs_lda : bz_ok false 191 254 (bz_lda 0 255)),
  List.forall_mem_cons.mpr ⟨(bz_of (A := aa_pu (.int 24) 257) (as_bipush mk_191 (n := 24) (by decide +kernel) (by decide +kernel) rfl) (bs_pu rfl) : bz_ok false 191 255 (bz_pu (.inl 24) 257)),
  List.forall_mem_cons.mpr ⟨(bo_newI mk_191 (by decide +kernel) rfl (aa_bw 129 (by decide +kernel) rfl) : bz_ok false 191 257 (bz_newa 100 259)),
  fun _ h => absurd h List.not_mem_nil⟩⟩⟩⟩⟩⟩⟩⟩
theorem bd_191_16 : ∀ q ∈ ([(259, bz_putF 11 44 262), (262, bz_lda 0 263), (263, bz_pu (.inl 24) 265), (265, bz_newa 100 267), (267, bz_putF 11 45 270), (270, bz_lda 0 271), (271, bz_pu (.inl 40) 273), (273, bz_newa 100 275)] : List (Nat × bz_Op)), bz_ok false 191 q.1 q.2 :=
  List.forall_mem_cons.mpr ⟨(bo_putF mk_191 (ix := 104) (by decide +kernel) rfl (fd_RX11_104 rfl) pf_11_44 : bz_ok false 191 259 (bz_putF 11 44 262)),
  List.forall_mem_cons.mpr ⟨(bz_of (A := aa_lda 0 263) (as_aload_n mk_191 (k := 0) (by decide +kernel) rfl rfl) bs_lda : bz_ok false 191 262 (bz_lda 0 263)),
  List.forall_mem_cons.mpr ⟨(bz_of (A := aa_pu (.int 24) 265) (as_bipush mk_191 (n := 24) (by decide +kernel) (by decide +kernel) rfl) (bs_pu rfl) : bz_ok false 191 263 (bz_pu (.inl 24) 265)),
  List.forall_mem_cons.mpr ⟨(bo_newI mk_191 (by decide +kernel) rfl (aa_bw 129 (by decide +kernel) rfl) : bz_ok false 191 265 (bz_newa 100 267)),
  List.forall_mem_cons.mpr ⟨(bo_putF mk_191 (ix := 107) (by decide +kernel) rfl (fd_RX11_107 rfl) pf_11_45 : bz_ok false 191 267 (bz_putF 11 45 270)),
  List.forall_mem_cons.mpr ⟨(bz_of (A := aa_lda 0 271) (as_aload_n mk_191 (k := 0) (by decide +kernel) rfl rfl) bs_lda : bz_ok false 191 270 (bz_lda 0 271)),
  List.forall_mem_cons.mpr ⟨(bz_of (A := aa_pu (.int 40) 273) (as_bipush mk_191 (n := 40) (by decide +kernel) (by decide +kernel) rfl) (bs_pu rfl) : bz_ok false 191 271 (bz_pu (.inl 40) 273)),
  List.forall_mem_cons.mpr ⟨(bo_newI mk_191 (by decide +kernel) rfl (aa_bw 129 (by decide +kernel) rfl) : bz_ok false 191 273 (bz_newa 100 275)),
  fun _ h => absurd h List.not_mem_nil⟩⟩⟩⟩⟩⟩⟩⟩
theorem bd_191_17 : ∀ q ∈ ([(275, bz_putF 11 49 278), (278, bz_lda 0 279), (279, bz_pu (.inl 40) 281), (281, bz_newa 100 283), (283, bz_putF 11 50 286), (286, bz_lda 0 287), (287, bz_pu (.inl 40) 289), (289, bz_newa 100 291)] : List (Nat × bz_Op)), bz_ok false 191 q.1 q.2 :=
  List.forall_mem_cons.mpr ⟨(bo_putF mk_191 (ix := 110) (by decide +kernel) rfl (fd_RX11_110 rfl) pf_11_49 : bz_ok false 191 275 (bz_putF 11 49 278)),
  List.forall_mem_cons.mpr ⟨(bz_of (A := aa_lda 0 279) (as_aload_n mk_191 (k := 0) (by decide +kernel) rfl rfl) bs_lda : bz_ok false 191 278 (bz_lda 0 279)),
  List.forall_mem_cons.mpr ⟨(bz_of (A := aa_pu (.int 40) 281) (as_bipush mk_191 (n := 40) (by decide +kernel) (by decide +kernel) rfl) (bs_pu rfl) : bz_ok false 191 279 (bz_pu (.inl 40) 281)),
  List.forall_mem_cons.mpr ⟨(bo_newI mk_191 (by decide +kernel) rfl (aa_bw 129 (by decide +kernel) rfl) : bz_ok false 191 281 (bz_newa 100 283)),
  List.forall_mem_cons.mpr ⟨(bo_putF mk_191 (ix := 113) (by decide +kernel) rfl (fd_RX11_113 rfl) pf_11_50 : bz_ok false 191 283 (bz_putF 11 50 286)),
  List.forall_mem_cons.mpr ⟨(bz_of (A := aa_lda 0 287) (as_aload_n mk_191 (k := 0) (by decide +kernel) rfl rfl) bs_lda : bz_ok false 191 286 (bz_lda 0 287)),
  List.forall_mem_cons.mpr ⟨(bz_of (A := aa_pu (.int 40) 289) (as_bipush mk_191 (n := 40) (by decide +kernel) (by decide +kernel) rfl) (bs_pu rfl) : bz_ok false 191 287 (bz_pu (.inl 40) 289)),
  List.forall_mem_cons.mpr ⟨(bo_newI mk_191 (by decide +kernel) rfl (aa_bw 129 (by decide +kernel) rfl) : bz_ok false 191 289 (bz_newa 100 291)),
  fun _ h => absurd h List.not_mem_nil⟩⟩⟩⟩⟩⟩⟩⟩
theorem bd_191_18 : ∀ q ∈ ([(291, bz_putF 11 51 294), (294, bz_lda 0 295), (295, bz_pu (.inl 40) 297), (297, bz_newa 100 299), (299, bz_putF 11 52 302), (302, bz_lda 0 303), (303, bz_pu (.inl 12) 305), (305, bz_newa 100 307)] : List (Nat × bz_Op)), bz_ok false 191 q.1 q.2 :=
  List.forall_mem_cons.mpr ⟨(bo_putF mk_191 (ix := 116) (by decide +kernel) rfl (fd_RX11_116 rfl) pf_11_51 : bz_ok false 191 291 (bz_putF 11 51 294)),
  List.forall_mem_cons.mpr ⟨(bz_of (A := aa_lda 0 295) (as_aload_n mk_191 (k := 0) (by decide +kernel) rfl rfl) bs_lda : bz_ok false 191 294 (bz_lda 0 295)),
  List.forall_mem_cons.mpr ⟨(bz_of (A := aa_pu (.int 40) 297) (as_bipush mk_191 (n := 40) (by decide +kernel) (by decide +kernel) rfl) (bs_pu rfl) : bz_ok false 191 295 (bz_pu (.inl 40) 297)),
  List.forall_mem_cons.mpr ⟨(bo_newI mk_191 (by decide +kernel) rfl (aa_bw 129 (by decide +kernel) rfl) : bz_ok false 191 297 (bz_newa 100 299)),
  List.forall_mem_cons.mpr ⟨(bo_putF mk_191 (ix := 119) (by decide +kernel) rfl (fd_RX11_119 rfl) pf_11_52 : bz_ok false 191 299 (bz_putF 11 52 302)),
  List.forall_mem_cons.mpr ⟨(bz_of (A := aa_lda 0 303) (as_aload_n mk_191 (k := 0) (by decide +kernel) rfl rfl) bs_lda : bz_ok false 191 302 (bz_lda 0 303)),
  List.forall_mem_cons.mpr ⟨(bz_of (A := aa_pu (.int 12) 305) (as_bipush mk_191 (n := 12) (by decide +kernel) (by decide +kernel) rfl) (bs_pu rfl) : bz_ok false 191 303 (bz_pu (.inl 12) 305)),
  List.forall_mem_cons.mpr ⟨(bo_newI mk_191 (by decide +kernel) rfl (aa_bw 129 (by decide +kernel) rfl) : bz_ok false 191 305 (bz_newa 100 307)),
  fun _ h => absurd h List.not_mem_nil⟩⟩⟩⟩⟩⟩⟩⟩
theorem bd_191_19 : ∀ q ∈ ([(307, bz_putF 11 53 310), (310, bz_lda 0 311), (311, bz_pu (.inl 8) 313), (313, bz_newa 100 315), (315, bz_putF 11 55 318), (318, bz_lda 0 319), (319, bz_pu (.inl 8) 321), (321, bz_newa 100 323)] : List (Nat × bz_Op)), bz_ok false 191 q.1 q.2 :=
  List.forall_mem_cons.mpr ⟨(bo_putF mk_191 (ix := 122) (by decide +kernel) rfl (fd_RX11_122 rfl) pf_11_53 : bz_ok false 191 307 (bz_putF 11 53 310)),
  List.forall_mem_cons.mpr ⟨(bz_of (A := aa_lda 0 311) (as_aload_n mk_191 (k := 0) (by decide +kernel) rfl rfl) bs_lda : bz_ok false 191 310 (bz_lda 0 311)),
  List.forall_mem_cons.mpr ⟨(bz_of (A := aa_pu (.int 8) 313) (as_bipush mk_191 (n := 8) (by decide +kernel) (by decide +kernel) rfl) (bs_pu rfl) : bz_ok false 191 311 (bz_pu (.inl 8) 313)),
  List.forall_mem_cons.mpr ⟨(bo_newI mk_191 (by decide +kernel) rfl (aa_bw 129 (by decide +kernel) rfl) : bz_ok false 191 313 (bz_newa 100 315)),
  List.forall_mem_cons.mpr ⟨(bo_putF mk_191 (ix := 125) (by decide +kernel) rfl (fd_RX11_125 rfl) pf_11_55 : bz_ok false 191 315 (bz_putF 11 55 318)),
  List.forall_mem_cons.mpr ⟨(bz_of (A := aa_lda 0 319) (as_aload_n mk_191 (k := 0) (by decide +kernel) rfl rfl) bs_lda : bz_ok false 191 318 (bz_lda 0 319)),
  List.forall_mem_cons.mpr ⟨(bz_of (A := aa_pu (.int 8) 321) (as_bipush mk_191 (n := 8) (by decide +kernel) (by decide +kernel) rfl) (bs_pu rfl) : bz_ok false 191 319 (bz_pu (.inl 8) 321)),
  List.forall_mem_cons.mpr ⟨(bo_newI mk_191 (by decide +kernel) rfl (aa_bw 129 (by decide +kernel) rfl) : bz_ok false 191 321 (bz_newa 100 323)),
  fun _ h => absurd h List.not_mem_nil⟩⟩⟩⟩⟩⟩⟩⟩
theorem bd_191_20 : ∀ q ∈ ([(323, bz_putF 11 56 326), (326, bz_lda 0 327), (327, bz_pu (.inl 8) 329), (329, bz_newa 100 331), (331, bz_putF 11 57 334), (334, bz_lda 0 335), (335, bz_pu (.inl 30) 337), (337, bz_newa 100 339)] : List (Nat × bz_Op)), bz_ok false 191 q.1 q.2 :=
  List.forall_mem_cons.mpr ⟨(bo_putF mk_191 (ix := 128) (by decide +kernel) rfl (fd_RX11_128 rfl) pf_11_56 : bz_ok false 191 323 (bz_putF 11 56 326)),
  List.forall_mem_cons.mpr ⟨(bz_of (A := aa_lda 0 327) (as_aload_n mk_191 (k := 0) (by decide +kernel) rfl rfl) bs_lda : bz_ok false 191 326 (bz_lda 0 327)),
  List.forall_mem_cons.mpr ⟨(bz_of (A := aa_pu (.int 8) 329) (as_bipush mk_191 (n := 8) (by decide +kernel) (by decide +kernel) rfl) (bs_pu rfl) : bz_ok false 191 327 (bz_pu (.inl 8) 329)),
  List.forall_mem_cons.mpr ⟨(bo_newI mk_191 (by decide +kernel) rfl (aa_bw 129 (by decide +kernel) rfl) : bz_ok false 191 329 (bz_newa 100 331)),
  List.forall_mem_cons.mpr ⟨(bo_putF mk_191 (ix := 131) (by decide +kernel) rfl (fd_RX11_131 rfl) pf_11_57 : bz_ok false 191 331 (bz_putF 11 57 334)),
  List.forall_mem_cons.mpr ⟨(bz_of (A := aa_lda 0 335) (as_aload_n mk_191 (k := 0) (by decide +kernel) rfl rfl) bs_lda : bz_ok false 191 334 (bz_lda 0 335)),
  List.forall_mem_cons.mpr ⟨(bz_of (A := aa_pu (.int 30) 337) (as_bipush mk_191 (n := 30) (by decide +kernel) (by decide +kernel) rfl) (bs_pu rfl) : bz_ok false 191 335 (bz_pu (.inl 30) 337)),
  List.forall_mem_cons.mpr ⟨(bo_newI mk_191 (by decide +kernel) rfl (aa_bw 129 (by decide +kernel) rfl) : bz_ok false 191 337 (bz_newa 100 339)),
  fun _ h => absurd h List.not_mem_nil⟩⟩⟩⟩⟩⟩⟩⟩
theorem bd_191_21 : ∀ q ∈ ([(339, bz_putF 11 59 342), (342, bz_lda 0 343), (343, bz_pu (.inl 4) 344), (344, bz_newa 100 346), (346, bz_putF 11 63 349), (349, bz_lda 0 350), (350, bz_pu (.inl 4) 351), (351, bz_newa 100 353)] : List (Nat × bz_Op)), bz_ok false 191 q.1 q.2 :=
  List.forall_mem_cons.mpr ⟨(bo_putF mk_191 (ix := 134) (by decide +kernel) rfl (fd_RX11_134 rfl) pf_11_59 : bz_ok false 191 339 (bz_putF 11 59 342)),
  List.forall_mem_cons.mpr ⟨(bz_of (A := aa_lda 0 343) (as_aload_n mk_191 (k := 0) (by decide +kernel) rfl rfl) bs_lda : bz_ok false 191 342 (bz_lda 0 343)),
  List.forall_mem_cons.mpr ⟨(bz_of (A := aa_pu (.int 4) 344) (as_iconst mk_191 (n := 4) (by decide +kernel) (by decide +kernel) rfl) (bs_pu rfl) : bz_ok false 191 343 (bz_pu (.inl 4) 344)),
  List.forall_mem_cons.mpr ⟨(bo_newI mk_191 (by decide +kernel) rfl (aa_bw 129 (by decide +kernel) rfl) : bz_ok false 191 344 (bz_newa 100 346)),
  List.forall_mem_cons.mpr ⟨(bo_putF mk_191 (ix := 137) (by decide +kernel) rfl (fd_RX11_137 rfl) pf_11_63 : bz_ok false 191 346 (bz_putF 11 63 349)),
  List.forall_mem_cons.mpr ⟨(bz_of (A := aa_lda 0 350) (as_aload_n mk_191 (k := 0) (by decide +kernel) rfl rfl) bs_lda : bz_ok false 191 349 (bz_lda 0 350)),
  List.forall_mem_cons.mpr ⟨(bz_of (A := aa_pu (.int 4) 351) (as_iconst mk_191 (n := 4) (by decide +kernel) (by decide +kernel) rfl) (bs_pu rfl) : bz_ok false 191 350 (bz_pu (.inl 4) 351)),
  List.forall_mem_cons.mpr ⟨(bo_newI mk_191 (by decide +kernel) rfl (aa_bw 129 (by decide +kernel) rfl) : bz_ok false 191 351 (bz_newa 100 353)),
  fun _ h => absurd h List.not_mem_nil⟩⟩⟩⟩⟩⟩⟩⟩
theorem bd_191_22 : ∀ q ∈ ([(353, bz_putF 11 64 356), (356, bz_lda 0 357), (357, bz_pu (.inl 160) 360), (360, bz_newa 100 362), (362, bz_putF 11 65 365), (365, bz_lda 0 366), (366, bz_pu (.inl 40) 368), (368, bz_newa 100 370)] : List (Nat × bz_Op)), bz_ok false 191 q.1 q.2 :=
  List.forall_mem_cons.mpr ⟨(bo_putF mk_191 (ix := 140) (by decide +kernel) rfl (fd_RX11_140 rfl) pf_11_64 : bz_ok false 191 353 (bz_putF 11 64 356)),
  List.forall_mem_cons.mpr ⟨(bz_of (A := aa_lda 0 357) (as_aload_n mk_191 (k := 0) (by decide +kernel) rfl rfl) bs_lda : bz_ok false 191 356 (bz_lda 0 357)),
  List.forall_mem_cons.mpr ⟨(bz_of (A := aa_pu (.int 160) 360) (as_sipush mk_191 (n := 160) (by decide +kernel) (by decide +kernel) rfl) (bs_pu rfl) : bz_ok false 191 357 (bz_pu (.inl 160) 360)),
  List.forall_mem_cons.mpr ⟨(bo_newI mk_191 (by decide +kernel) rfl (aa_bw 129 (by decide +kernel) rfl) : bz_ok false 191 360 (bz_newa 100 362)),
  List.forall_mem_cons.mpr ⟨(bo_putF mk_191 (ix := 143) (by decide +kernel) rfl (fd_RX11_143 rfl) pf_11_65 : bz_ok false 191 362 (bz_putF 11 65 365)),
  List.forall_mem_cons.mpr ⟨(bz_of (A := aa_lda 0 366) (as_aload_n mk_191 (k := 0) (by decide +kernel) rfl rfl) bs_lda : bz_ok false 191 365 (bz_lda 0 366)),
  List.forall_mem_cons.mpr ⟨(bz_of (A := aa_pu (.int 40) 368) (as_bipush mk_191 (n := 40) (by decide +kernel) (by decide +kernel) rfl) (bs_pu rfl) : bz_ok false 191 366 (bz_pu (.inl 40) 368)),
  List.forall_mem_cons.mpr ⟨(bo_newI mk_191 (by decide +kernel) rfl (aa_bw 129 (by decide +kernel) rfl) : bz_ok false 191 368 (bz_newa 100 370)),
  fun _ h => absurd h List.not_mem_nil⟩⟩⟩⟩⟩⟩⟩⟩
theorem bd_191_23 : ∀ q ∈ ([(370, bz_putF 11 66 373), (373, bz_pu (.inl 0) 374), (374, bz_sti 1 375), (375, bz_ldi 1 376), (376, bz_pu (.inl 64) 378), (378, bz_icmp bh_lt 381 395), (381, bz_lda 0 382), (382, bz_gR 11 0 385)] : List (Nat × bz_Op)), bz_ok false 191 q.1 q.2 :=
  List.forall_mem_cons.mpr ⟨(bo_putF mk_191 (ix := 146) (by decide +kernel) rfl (fd_RX11_146 rfl) pf_11_66 : bz_ok false 191 370 (bz_putF 11 66 373)),
  List.forall_mem_cons.mpr ⟨(bz_of (A := aa_pu (.int 0) 374) (as_iconst mk_191 (n := 0) (by decide +kernel) (by decide +kernel) rfl) (bs_pu rfl) : bz_ok false 191 373 (bz_pu (.inl 0) 374)),
  List.forall_mem_cons.mpr ⟨(bz_of (A := aa_sti 1 375) (as_istore_n mk_191 (k := 1) (by decide +kernel) rfl (by decide) rfl) bs_sti : bz_ok false 191 374 (bz_sti 1 375)),
  List.forall_mem_cons.mpr ⟨(bz_of (A := aa_ldi 1 376) (as_iload_n mk_191 (k := 1) (by decide +kernel) rfl rfl) bs_ldi : bz_ok false 191 375 (bz_ldi 1 376)),
  List.forall_mem_cons.mpr ⟨(bz_of (A := aa_pu (.int 64) 378) (as_bipush mk_191 (n := 64) (by decide +kernel) (by decide +kernel) rfl) (bs_pu rfl) : bz_ok false 191 376 (bz_pu (.inl 64) 378)),
  List.forall_mem_cons.mpr ⟨(bz_of (A := aa_icmp (fun x y => x < y) 381 395) (as_icmp_ge mk_191 (off := 17) (by decide +kernel) (by decide +kernel) rfl) (bs_icmp bh_lt_ok) : bz_ok false 191 378 (bz_icmp bh_lt 381 395)),
  List.forall_mem_cons.mpr ⟨(bz_of (A := aa_lda 0 382) (as_aload_n mk_191 (k := 0) (by decide +kernel) rfl rfl) bs_lda : bz_ok false 191 381 (bz_lda 0 382)),
  List.forall_mem_cons.mpr ⟨(bz_of (A := aa_gR 11 0 385) (as_gR mk_191 (ix := 7) (by decide +kernel) (fd_RX11_7 rfl) rfl) bs_gR : bz_ok false 191 382 (bz_gR 11 0 385)),
  fun _ h => absurd h List.not_mem_nil⟩⟩⟩⟩⟩⟩⟩⟩
theorem bd_191_24 : ∀ q ∈ ([(385, bz_ldi 1 386), (386, bz_pu (.inl 99) 388), (388, bz_as 100 bh_id 389), (389, bz_inc 1 1 392), (392, bz_go 375), (395, bz_pu (.inl 0) 396), (396, bz_sti 1 397), (397, bz_ldi 1 398)] : List (Nat × bz_Op)), bz_ok false 191 q.1 q.2 :=
  List.forall_mem_cons.mpr ⟨(bz_of (A := aa_ldi 1 386) (as_iload_n mk_191 (k := 1) (by decide +kernel) rfl rfl) bs_ldi : bz_ok false 191 385 (bz_ldi 1 386)),
  List.forall_mem_cons.mpr ⟨(bz_of (A := aa_pu (.int 99) 388) (as_bipush mk_191 (n := 99) (by decide +kernel) (by decide +kernel) rfl) (bs_pu rfl) : bz_ok false 191 386 (bz_pu (.inl 99) 388)),
  List.forall_mem_cons.mpr ⟨(bz_of (A := aa_as 100 (fun x => x) 389) (as_as mk_191 (Or.inl ⟨rfl, fun _ => rfl, by decide +kernel⟩) rfl) (bs_as bh_id_ok) : bz_ok false 191 388 (bz_as 100 bh_id 389)),
  List.forall_mem_cons.mpr ⟨(bz_of (A := aa_inc 1 1 392) (as_iinc mk_191 (n := 1) (by decide +kernel) (by decide +kernel) (by decide) rfl) (bs_inc (by decide +kernel)) : bz_ok false 191 389 (bz_inc 1 1 392)),
  List.forall_mem_cons.mpr ⟨(bz_of (A := aa_go 375) (as_goto mk_191 (off := (-17)) (by decide +kernel) (by decide +kernel)) bs_go : bz_ok false 191 392 (bz_go 375)),
  List.forall_mem_cons.mpr ⟨(bz_of (A := aa_pu (.int 0) 396) (as_iconst mk_191 (n := 0) (by decide +kernel) (by decide +kernel) rfl) (bs_pu rfl) : bz_ok false 191 395 (bz_pu (.inl 0) 396)),
  List.forall_mem_cons.mpr ⟨(bz_of (A := aa_sti 1 397) (as_istore_n mk_191 (k := 1) (by decide +kernel) rfl (by decide) rfl) bs_sti : bz_ok false 191 396 (bz_sti 1 397)),
  List.forall_mem_cons.mpr ⟨(bz_of (A := aa_ldi 1 398) (as_iload_n mk_191 (k := 1) (by decide +kernel) rfl rfl) bs_ldi : bz_ok false 191 397 (bz_ldi 1 398)),
  fun _ h => absurd h List.not_mem_nil⟩⟩⟩⟩⟩⟩⟩⟩
theorem bd_191_25 : ∀ q ∈ ([(398, bz_pu (.inl 4) 399), (399, bz_icmp bh_lt 402 415), (402, bz_lda 0 403), (403, bz_gR 11 63 406), (406, bz_ldi 1 407), (407, bz_pu (.inl 4294967295) 408), (408, bz_as 100 bh_id 409), (409, bz_inc 1 1 412)] : List (Nat × bz_Op)), bz_ok false 191 q.1 q.2 :=
  List.forall_mem_cons.mpr ⟨(bz_of (A := aa_pu (.int 4) 399) (as_iconst mk_191 (n := 4) (by decide +kernel) (by decide +kernel) rfl) (bs_pu rfl) : bz_ok false 191 398 (bz_pu (.inl 4) 399)),
  List.forall_mem_cons.mpr ⟨(bz_of (A := aa_icmp (fun x y => x < y) 402 415) (as_icmp_ge mk_191 (off := 16) (by decide +kernel) (by decide +kernel) rfl) (bs_icmp bh_lt_ok) : bz_ok false 191 399 (bz_icmp bh_lt 402 415)),
  List.forall_mem_cons.mpr ⟨(bz_of (A := aa_lda 0 403) (as_aload_n mk_191 (k := 0) (by decide +kernel) rfl rfl) bs_lda : bz_ok false 191 402 (bz_lda 0 403)),
  List.forall_mem_cons.mpr ⟨(bz_of (A := aa_gR 11 63 406) (as_gR mk_191 (ix := 137) (by decide +kernel) (fd_RX11_137 rfl) rfl) bs_gR : bz_ok false 191 403 (bz_gR 11 63 406)),
  List.forall_mem_cons.mpr ⟨(bz_of (A := aa_ldi 1 407) (as_iload_n mk_191 (k := 1) (by decide +kernel) rfl rfl) bs_ldi : bz_ok false 191 406 (bz_ldi 1 407)),
  List.forall_mem_cons.mpr ⟨(bz_of (A := aa_pu (.int (-1)) 408) (as_iconst mk_191 (n := (-1)) (by decide +kernel) (by decide +kernel) rfl) (bs_pu (by decide +kernel)) : bz_ok false 191 407 (bz_pu (.inl 4294967295) 408)),
  List.forall_mem_cons.mpr ⟨(bz_of (A := aa_as 100 (fun x => x) 409) (as_as mk_191 (Or.inl ⟨rfl, fun _ => rfl, by decide +kernel⟩) rfl) (bs_as bh_id_ok) : bz_ok false 191 408 (bz_as 100 bh_id 409)),
  List.forall_mem_cons.mpr ⟨(bz_of (A := aa_inc 1 1 412) (as_iinc mk_191 (n := 1) (by decide +kernel) (by decide +kernel) (by decide) rfl) (bs_inc (by decide +kernel)) : bz_ok false 191 409 (bz_inc 1 1 412)),
  fun _ h => absurd h List.not_mem_nil⟩⟩⟩⟩⟩⟩⟩⟩
theorem bd_191_26 : ∀ q ∈ ([(412, bz_go 397), (415, bz_pu (.inl 0) 416), (416, bz_sti 1 417), (417, bz_ldi 1 418), (418, bz_pu (.inl 12) 420), (420, bz_icmp bh_lt 423 436), (423, bz_lda 0 424), (424, bz_gR 11 53 427)] : List (Nat × bz_Op)), bz_ok false 191 q.1 q.2 :=
  List.forall_mem_cons.mpr ⟨(bz_of (A := aa_go 397) (as_goto mk_191 (off := (-15)) (by decide +kernel) (by decide +kernel)) bs_go : bz_ok false 191 412 (bz_go 397)),
  List.forall_mem_cons.mpr ⟨(bz_of (A := aa_pu (.int 0) 416) (as_iconst mk_191 (n := 0) (by decide +kernel) (by decide +kernel) rfl) (bs_pu rfl) : bz_ok false 191 415 (bz_pu (.inl 0) 416)),
  List.forall_mem_cons.mpr ⟨(bz_of (A := aa_sti 1 417) (as_istore_n mk_191 (k := 1) (by decide +kernel) rfl (by decide) rfl) bs_sti : bz_ok false 191 416 (bz_sti 1 417)),
  List.forall_mem_cons.mpr ⟨(bz_of (A := aa_ldi 1 418) (as_iload_n mk_191 (k := 1) (by decide +kernel) rfl rfl) bs_ldi : bz_ok false 191 417 (bz_ldi 1 418)),
  List.forall_mem_cons.mpr ⟨(bz_of (A := aa_pu (.int 12) 420) (as_bipush mk_191 (n := 12) (by decide +kernel) (by decide +kernel) rfl) (bs_pu rfl) : bz_ok false 191 418 (bz_pu (.inl 12) 420)),
  List.forall_mem_cons.mpr ⟨(bz_of (A := aa_icmp (fun x y => x < y) 423 436) (as_icmp_ge mk_191 (off := 16) (by decide +kernel) (by decide +kernel) rfl) (bs_icmp bh_lt_ok) : bz_ok false 191 420 (bz_icmp bh_lt 423 436)),
  List.forall_mem_cons.mpr ⟨(bz_of (A := aa_lda 0 424) (as_aload_n mk_191 (k := 0) (by decide +kernel) rfl rfl) bs_lda : bz_ok false 191 423 (bz_lda 0 424)),
  List.forall_mem_cons.mpr ⟨(bz_of (A := aa_gR 11 53 427) (as_gR mk_191 (ix := 122) (by decide +kernel) (fd_RX11_122 rfl) rfl) bs_gR : bz_ok false 191 424 (bz_gR 11 53 427)),
  fun _ h => absurd h List.not_mem_nil⟩⟩⟩⟩⟩⟩⟩⟩
theorem bd_191_27 : ∀ q ∈ ([(427, bz_ldi 1 428), (428, bz_pu (.inl 4294967295) 429), (429, bz_as 100 bh_id 430), (430, bz_inc 1 1 433), (433, bz_go 417), (436, bz_lda 0 437), (437, bz_ccv 212 0 1 11 0 440), (440, bz_retv)] : List (Nat × bz_Op)), bz_ok false 191 q.1 q.2 :=
  List.forall_mem_cons.mpr ⟨(bz_of (A := aa_ldi 1 428) (as_iload_n mk_191 (k := 1) (by decide +kernel) rfl rfl) bs_ldi : bz_ok false 191 427 (bz_ldi 1 428)),
  List.forall_mem_cons.mpr ⟨(bz_of (A := aa_pu (.int (-1)) 429) (as_iconst mk_191 (n := (-1)) (by decide +kernel) (by decide +kernel) rfl) (bs_pu (by decide +kernel)) : bz_ok false 191 428 (bz_pu (.inl 4294967295) 429)),
  List.forall_mem_cons.mpr ⟨(bz_of (A := aa_as 100 (fun x => x) 430) (as_as mk_191 (Or.inl ⟨rfl, fun _ => rfl, by decide +kernel⟩) rfl) (bs_as bh_id_ok) : bz_ok false 191 429 (bz_as 100 bh_id 430)),
  List.forall_mem_cons.mpr ⟨(bz_of (A := aa_inc 1 1 433) (as_iinc mk_191 (n := 1) (by decide +kernel) (by decide +kernel) (by decide) rfl) (bs_inc (by decide +kernel)) : bz_ok false 191 430 (bz_inc 1 1 433)),
  List.forall_mem_cons.mpr ⟨(bz_of (A := aa_go 417) (as_goto mk_191 (off := (-16)) (by decide +kernel) (by decide +kernel)) bs_go : bz_ok false 191 433 (bz_go 417)),
  List.forall_mem_cons.mpr ⟨(bz_of (A := aa_lda 0 437) (as_aload_n mk_191 (k := 0) (by decide +kernel) rfl rfl) bs_lda : bz_ok false 191 436 (bz_lda 0 437)),
  List.forall_mem_cons.mpr ⟨(bz_of (A := aa_ccv 212 0 1 11 aa_kV 440) (as_ccv mk_191 (ix := 149) aa_kV_ok (by decide +kernel) (cx_RX11_149 rfl) rfl) (bs_ccv bz_k0) : bz_ok false 191 437 (bz_ccv 212 0 1 11 0 440)),
  List.forall_mem_cons.mpr ⟨(bz_of (A := aa_retv) (as_vret mk_191 (by decide +kernel) rfl) bs_retv : bz_ok false 191 440 (bz_retv)),
  fun _ h => absurd h List.not_mem_nil⟩⟩⟩⟩⟩⟩⟩⟩
theorem bd_191_ok : bz_tk false 191 bd_191 :=
  List.forall_mem_cons.mpr ⟨bd_191_0,
  List.forall_mem_cons.mpr ⟨bd_191_1,
  List.forall_mem_cons.mpr ⟨bd_191_2,
  List.forall_mem_cons.mpr ⟨bd_191_3,
  List.forall_mem_cons.mpr ⟨bd_191_4,
  List.forall_mem_cons.mpr ⟨bd_191_5,
  List.forall_mem_cons.mpr ⟨bd_191_6,
  List.forall_mem_cons.mpr ⟨bd_191_7,
  List.forall_mem_cons.mpr ⟨bd_191_8,
  List.forall_mem_cons.mpr ⟨bd_191_9,
  List.forall_mem_cons.mpr ⟨bd_191_10,
  List.forall_mem_cons.mpr ⟨bd_191_11,
  List.forall_mem_cons.mpr ⟨bd_191_12,
  List.forall_mem_cons.mpr ⟨bd_191_13,
  List.forall_mem_cons.mpr ⟨bd_191_14,
  List.forall_mem_cons.mpr ⟨bd_191_15,
  List.forall_mem_cons.mpr ⟨bd_191_16,
  List.forall_mem_cons.mpr ⟨bd_191_17,
  List.forall_mem_cons.mpr ⟨bd_191_18,
  List.forall_mem_cons.mpr ⟨bd_191_19,
  List.forall_mem_cons.mpr ⟨bd_191_20,
  List.forall_mem_cons.mpr ⟨bd_191_21,
  List.forall_mem_cons.mpr ⟨bd_191_22,
  List.forall_mem_cons.mpr ⟨bd_191_23,
  List.forall_mem_cons.mpr ⟨bd_191_24,
  List.forall_mem_cons.mpr ⟨bd_191_25,
  List.forall_mem_cons.mpr ⟨bd_191_26,
  List.forall_mem_cons.mpr ⟨bd_191_27,
  fun _ h => absurd h List.not_mem_nil⟩⟩⟩⟩⟩⟩⟩⟩⟩⟩⟩⟩⟩⟩⟩⟩⟩⟩⟩⟩⟩⟩⟩⟩⟩⟩⟩⟩
def bd_301 : bz_T := [(15, [(0, bz_new 10 14 3), (3, bz_dup 4), (4, bz_init 137 0 2 7), (7, bz_sta 1 8), (8, bz_new 11 67 11), (11, bz_dup 12), (12, bz_init 191 0 2 15), (15, bz_sta 2 16)]), (17, [(16, bz_pu (.inl 0) 17), (17, bz_sti 3 18)])]
theorem bd_301_0 : ∀ q ∈ ([(0, bz_new 10 14 3), (3, bz_dup 4), (4, bz_init 137 0 2 7), (7, bz_sta 1 8), (8, bz_new 11 67 11), (11, bz_dup 12), (12, bz_init 191 0 2 15), (15, bz_sta 2 16)] : List (Nat × bz_Op)), bz_ok false 301 q.1 q.2 :=
  List.forall_mem_cons.mpr ⟨(bo_new mk_301 (ix := 7) (q := (RX10, TX10, 14)) (ty0 := tyX10) (by decide +kernel) rfl rfl rfl aa_inW10 tyX10_ok (by decide +kernel) (aa_bw 93 (by decide +kernel) rfl) (aa_bw 94 (by decide +kernel) rfl) (aa_bw 73 (by decide +kernel) rfl) (by decide) : bz_ok false 301 0 (bz_new 10 14 3)),
  List.forall_mem_cons.mpr ⟨(bz_of (A := aa_dup 4) (as_dup mk_301 (by decide +kernel) rfl) bs_dup : bz_ok false 301 3 (bz_dup 4)),
  List.forall_mem_cons.mpr ⟨(bo_init mk_301 (ix := 9) (M' := ac_r137) (by decide +kernel) rfl ce_137 lk_RL_9 ci_137 rfl rfl rfl (by decide) : bz_ok false 301 4 (bz_init 137 0 2 7)),
  List.forall_mem_cons.mpr ⟨(bz_of (A := aa_sta 1 8) (as_astore_n mk_301 (k := 1) (by decide +kernel) rfl (by decide) rfl) bs_sta : bz_ok false 301 7 (bz_sta 1 8)),
  List.forall_mem_cons.mpr ⟨(bo_new mk_301 (ix := 10) (q := (RX11, TX11, 67)) (ty0 := tyX11) (by decide +kernel) rfl rfl rfl aa_inW11 tyX11_ok (by decide +kernel) (aa_bw 1220 (by decide +kernel) rfl) (aa_bw 1221 (by decide +kernel) rfl) (aa_bw 90 (by decide +kernel) rfl) (by decide) : bz_ok false 301 8 (bz_new 11 67 11)),
  List.forall_mem_cons.mpr ⟨(bz_of (A := aa_dup 12) (as_dup mk_301 (by decide +kernel) rfl) bs_dup : bz_ok false 301 11 (bz_dup 12)),
  List.forall_mem_cons.mpr ⟨(bo_init mk_301 (ix := 12) (M' := ac_r191) (by decide +kernel) rfl ce_191 lk_RL_12 ci_191 rfl rfl rfl (by decide) : bz_ok false 301 12 (bz_init 191 0 2 15)),
  List.forall_mem_cons.mpr ⟨(bz_of (A := aa_sta 2 16) (as_astore_n mk_301 (k := 2) (by decide +kernel) rfl (by decide) rfl) bs_sta : bz_ok false 301 15 (bz_sta 2 16)),
  fun _ h => absurd h List.not_mem_nil⟩⟩⟩⟩⟩⟩⟩⟩
theorem bd_301_1 : ∀ q ∈ ([(16, bz_pu (.inl 0) 17), (17, bz_sti 3 18)] : List (Nat × bz_Op)), bz_ok false 301 q.1 q.2 :=
  List.forall_mem_cons.mpr ⟨(bz_of (A := aa_pu (.int 0) 17) (as_iconst mk_301 (n := 0) (by decide +kernel) (by decide +kernel) rfl) (bs_pu rfl) : bz_ok false 301 16 (bz_pu (.inl 0) 17)),
  List.forall_mem_cons.mpr ⟨(bz_of (A := aa_sti 3 18) (as_istore_n mk_301 (k := 3) (by decide +kernel) rfl (by decide) rfl) bs_sti : bz_ok false 301 17 (bz_sti 3 18)),
  fun _ h => absurd h List.not_mem_nil⟩⟩
theorem bd_301_ok : bz_tk false 301 bd_301 :=
  List.forall_mem_cons.mpr ⟨bd_301_0,
  List.forall_mem_cons.mpr ⟨bd_301_1,
  fun _ h => absurd h List.not_mem_nil⟩⟩
def bD_n : bz_D := [(0, 1, bd_0), (9, 1, bd_9), (17, 2, bd_17), (24, 1, bd_24), (47, 2, bd_47), (55, 1, bd_55), (67, 1, bd_67), (79, 3, bd_79), (94, 1, bd_94), (103, 1, bd_103), (137, 2, bd_137), (191, 2, bd_191)]
theorem bD_n_ok : bz_dk false bD_n :=
  List.forall_mem_cons.mpr ⟨⟨⟨ac_r0, mk_0, rfl⟩, bd_0_ok⟩,
  List.forall_mem_cons.mpr ⟨⟨⟨ac_r9, mk_9, rfl⟩, bd_9_ok⟩,
  List.forall_mem_cons.mpr ⟨⟨⟨ac_r17, mk_17, rfl⟩, bd_17_ok⟩,
  List.forall_mem_cons.mpr ⟨⟨⟨ac_r24, mk_24, rfl⟩, bd_24_ok⟩,
  List.forall_mem_cons.mpr ⟨⟨⟨ac_r47, mk_47, rfl⟩, bd_47_ok⟩,
  List.forall_mem_cons.mpr ⟨⟨⟨ac_r55, mk_55, rfl⟩, bd_55_ok⟩,
  List.forall_mem_cons.mpr ⟨⟨⟨ac_r67, mk_67, rfl⟩, bd_67_ok⟩,
  List.forall_mem_cons.mpr ⟨⟨⟨ac_r79, mk_79, rfl⟩, bd_79_ok⟩,
  List.forall_mem_cons.mpr ⟨⟨⟨ac_r94, mk_94, rfl⟩, bd_94_ok⟩,
  List.forall_mem_cons.mpr ⟨⟨⟨ac_r103, mk_103, rfl⟩, bd_103_ok⟩,
  List.forall_mem_cons.mpr ⟨⟨⟨ac_r137, mk_137, rfl⟩, bd_137_ok⟩,
  List.forall_mem_cons.mpr ⟨⟨⟨ac_r191, mk_191, rfl⟩, bd_191_ok⟩,
  fun _ h => absurd h List.not_mem_nil⟩⟩⟩⟩⟩⟩⟩⟩⟩⟩⟩⟩
