/-! tables of operations -/
def cd_52_0 : List (Nat × aa_Op) := [(0, aa_lda 0 1), (1, aa_ldi 1 2), (2, aa_ldi 2 3), (3, aa_ldi 4 5), (5, aa_ccv 51 3 5 4 aa_kI 8), (8, aa_sti 5 10), (10, aa_ldi 5 12), (12, aa_pu (.int 99) 14), (14, aa_icmp (fun x y => x = y) 27 17), (17, aa_ldi 5 19), (19, aa_ldi 3 20), (20, aa_icmp (fun x y => y < x) 27 23), (23, aa_pu (.int 1) 24), (24, aa_go 28), (27, aa_pu (.int 0) 28), (28, aa_retz)]
theorem cd_52_0_ok : ab_Cd 52 cd_52_0 :=
  List.forall_mem_cons.mpr ⟨as_aload_n mk_52 (k := 0) (by decide +kernel) rfl rfl,
  List.forall_mem_cons.mpr ⟨as_iload_n mk_52 (k := 1) (by decide +kernel) rfl rfl,
  List.forall_mem_cons.mpr ⟨as_iload_n mk_52 (k := 2) (by decide +kernel) rfl rfl,
  List.forall_mem_cons.mpr ⟨as_iload mk_52 (by decide +kernel) rfl,
  List.forall_mem_cons.mpr ⟨as_ccv mk_52 (ix := 36) aa_kI_ok (by decide +kernel) (cx_RX4_36 rfl) rfl,
  List.forall_mem_cons.mpr ⟨as_istore mk_52 (by decide +kernel) (by decide) rfl,
  List.forall_mem_cons.mpr ⟨as_iload mk_52 (by decide +kernel) rfl,
  List.forall_mem_cons.mpr ⟨as_bipush mk_52 (n := 99) (by decide +kernel) (by decide +kernel) rfl,
  List.forall_mem_cons.mpr ⟨as_icmp_eq mk_52 (off := 13) (by decide +kernel) (by decide +kernel) rfl,
  List.forall_mem_cons.mpr ⟨as_iload mk_52 (by decide +kernel) rfl,
  List.forall_mem_cons.mpr ⟨as_iload_n mk_52 (k := 3) (by decide +kernel) rfl rfl,
  List.forall_mem_cons.mpr ⟨as_icmp_gt mk_52 (off := 7) (by decide +kernel) (by decide +kernel) rfl,
  List.forall_mem_cons.mpr ⟨as_iconst mk_52 (n := 1) (by decide +kernel) (by decide +kernel) rfl,
  List.forall_mem_cons.mpr ⟨as_goto mk_52 (off := 4) (by decide +kernel) (by decide +kernel),
  List.forall_mem_cons.mpr ⟨as_iconst mk_52 (n := 0) (by decide +kernel) (by decide +kernel) rfl,
  List.forall_mem_cons.mpr ⟨as_zret mk_52 (by decide +kernel) rfl,
  fun _ h => absurd h List.not_mem_nil⟩⟩⟩⟩⟩⟩⟩⟩⟩⟩⟩⟩⟩⟩⟩⟩
def cd_52 : List (Nat × aa_Op) := cd_52_0
theorem cd_52_ok : ab_Cd 52 cd_52 := cd_52_0_ok
def cd_53_0 : List (Nat × aa_Op) := [(0, aa_pu (.int 0) 1), (1, aa_sti 5 3), (3, aa_ldi 5 5), (5, aa_pu (.int 8) 7), (7, aa_icmp (fun x y => x < y) 10 41), (10, aa_ldi 1 11), (11, aa_ldi 5 13), (13, aa_bin (fun x y => x >>> (y &&& 31)) 14), (14, aa_pu (.int 1) 15), (15, aa_bin (fun x y => x &&& y) 16), (16, aa_pu (.int 1) 17), (17, aa_icmp (fun x y => x = y) 20 35), (20, aa_lda 0 21), (21, aa_ldi 5 23), (23, aa_ldi 2 24), (24, aa_ldi 3 25), (25, aa_ldi 4 27), (27, aa_ccv 52 4 6 4 aa_kI 30), (30, aa_if (fun x => x = 0) 35 33), (33, aa_pu (.int 1) 34), (34, aa_retz), (35, aa_inc 5 1 38), (38, aa_go 3), (41, aa_pu (.int 0) 42), (42, aa_retz)]
theorem cd_53_0_ok : ab_Cd 53 cd_53_0 :=
  List.forall_mem_cons.mpr ⟨as_iconst mk_53 (n := 0) (by decide +kernel) (by decide +kernel) rfl,
  List.forall_mem_cons.mpr ⟨as_istore mk_53 (by decide +kernel) (by decide) rfl,
  List.forall_mem_cons.mpr ⟨as_iload mk_53 (by decide +kernel) rfl,
  List.forall_mem_cons.mpr ⟨as_bipush mk_53 (n := 8) (by decide +kernel) (by decide +kernel) rfl,
  List.forall_mem_cons.mpr ⟨as_icmp_ge mk_53 (off := 34) (by decide +kernel) (by decide +kernel) rfl,
  List.forall_mem_cons.mpr ⟨as_iload_n mk_53 (k := 1) (by decide +kernel) rfl rfl,
  List.forall_mem_cons.mpr ⟨as_iload mk_53 (by decide +kernel) rfl,
  List.forall_mem_cons.mpr ⟨as_ishr mk_53 (by decide +kernel) rfl,
  List.forall_mem_cons.mpr ⟨as_iconst mk_53 (n := 1) (by decide +kernel) (by decide +kernel) rfl,
  List.forall_mem_cons.mpr ⟨as_iand mk_53 (by decide +kernel) rfl,
  List.forall_mem_cons.mpr ⟨as_iconst mk_53 (n := 1) (by decide +kernel) (by decide +kernel) rfl,
  List.forall_mem_cons.mpr ⟨as_icmp_ne mk_53 (off := 18) (by decide +kernel) (by decide +kernel) rfl,
  List.forall_mem_cons.mpr ⟨as_aload_n mk_53 (k := 0) (by decide +kernel) rfl rfl,
  List.forall_mem_cons.mpr ⟨as_iload mk_53 (by decide +kernel) rfl,
  List.forall_mem_cons.mpr ⟨as_iload_n mk_53 (k := 2) (by decide +kernel) rfl rfl,
  List.forall_mem_cons.mpr ⟨as_iload_n mk_53 (k := 3) (by decide +kernel) rfl rfl,
  List.forall_mem_cons.mpr ⟨as_iload mk_53 (by decide +kernel) rfl,
  List.forall_mem_cons.mpr ⟨as_ccv mk_53 (ix := 40) aa_kI_ok (by decide +kernel) (cx_RX4_40 rfl) rfl,
  List.forall_mem_cons.mpr ⟨as_if_eq mk_53 (off := 5) (by decide +kernel) (by decide +kernel) rfl,
  List.forall_mem_cons.mpr ⟨as_iconst mk_53 (n := 1) (by decide +kernel) (by decide +kernel) rfl,
  List.forall_mem_cons.mpr ⟨as_zret mk_53 (by decide +kernel) rfl,
  List.forall_mem_cons.mpr ⟨as_iinc mk_53 (n := 1) (by decide +kernel) (by decide +kernel) (by decide) rfl,
  List.forall_mem_cons.mpr ⟨as_goto mk_53 (off := (-35)) (by decide +kernel) (by decide +kernel),
  List.forall_mem_cons.mpr ⟨as_iconst mk_53 (n := 0) (by decide +kernel) (by decide +kernel) rfl,
  List.forall_mem_cons.mpr ⟨as_zret mk_53 (by decide +kernel) rfl,
  fun _ h => absurd h List.not_mem_nil⟩⟩⟩⟩⟩⟩⟩⟩⟩⟩⟩⟩⟩⟩⟩⟩⟩⟩⟩⟩⟩⟩⟩⟩⟩
def cd_53 : List (Nat × aa_Op) := cd_53_0
theorem cd_53_ok : ab_Cd 53 cd_53 := cd_53_0_ok
def cd_54_0 : List (Nat × aa_Op) := [(0, aa_pu (.int 0) 1), (1, aa_sti 3 2), (2, aa_ldi 3 3), (3, aa_pu (.int 8) 5), (5, aa_icmp (fun x y => x < y) 8 76), (8, aa_pu (.int 0) 9), (9, aa_sti 4 11), (11, aa_ldi 4 13), (13, aa_pu (.int 8) 15), (15, aa_icmp (fun x y => x < y) 18 70), (18, aa_lda 1 19), (19, aa_ldi 3 20), (20, aa_ar_ 103 21), (21, aa_ldi 4 23), (23, aa_ldi 3 24), (24, aa_ldi 4 26), (26, aa_icmp (fun x y => x = y) 29 33), (29, aa_pu (.int 0) 30), (30, aa_go 63), (33, aa_lda 0 34), (34, aa_gR 4 0 37), (37, aa_ldi 3 38), (38, aa_ar_ 103 39), (39, aa_ldi 4 41), (41, aa_als 100 42), (42, aa_pu (.int 99) 44), (44, aa_icmp (fun x y => x = y) 47 52), (47, aa_pu (.int 99) 49), (49, aa_go 63), (52, aa_lda 0 53)]
theorem cd_54_0_ok : ab_Cd 54 cd_54_0 :=
  List.forall_mem_cons.mpr ⟨as_iconst mk_54 (n := 0) (by decide +kernel) (by decide +kernel) rfl,
  List.forall_mem_cons.mpr ⟨as_istore_n mk_54 (k := 3) (by decide +kernel) rfl (by decide) rfl,
  List.forall_mem_cons.mpr ⟨as_iload_n mk_54 (k := 3) (by decide +kernel) rfl rfl,
  List.forall_mem_cons.mpr ⟨as_bipush mk_54 (n := 8) (by decide +kernel) (by decide +kernel) rfl,
  List.forall_mem_cons.mpr ⟨as_icmp_ge mk_54 (off := 71) (by decide +kernel) (by decide +kernel) rfl,
  List.forall_mem_cons.mpr ⟨as_iconst mk_54 (n := 0) (by decide +kernel) (by decide +kernel) rfl,
  List.forall_mem_cons.mpr ⟨as_istore mk_54 (by decide +kernel) (by decide) rfl,
  List.forall_mem_cons.mpr ⟨as_iload mk_54 (by decide +kernel) rfl,
  List.forall_mem_cons.mpr ⟨as_bipush mk_54 (n := 8) (by decide +kernel) (by decide +kernel) rfl,
  List.forall_mem_cons.mpr ⟨as_icmp_ge mk_54 (off := 55) (by decide +kernel) (by decide +kernel) rfl,
  List.forall_mem_cons.mpr ⟨as_aload_n mk_54 (k := 1) (by decide +kernel) rfl rfl,
  List.forall_mem_cons.mpr ⟨as_iload_n mk_54 (k := 3) (by decide +kernel) rfl rfl,
  List.forall_mem_cons.mpr ⟨as_ar_ mk_54 (Or.inr rfl) (by decide +kernel) rfl,
  List.forall_mem_cons.mpr ⟨as_iload mk_54 (by decide +kernel) rfl,
  List.forall_mem_cons.mpr ⟨as_iload_n mk_54 (k := 3) (by decide +kernel) rfl rfl,
  List.forall_mem_cons.mpr ⟨as_iload mk_54 (by decide +kernel) rfl,
  List.forall_mem_cons.mpr ⟨as_icmp_ne mk_54 (off := 7) (by decide +kernel) (by decide +kernel) rfl,
  List.forall_mem_cons.mpr ⟨as_iconst mk_54 (n := 0) (by decide +kernel) (by decide +kernel) rfl,
  List.forall_mem_cons.mpr ⟨as_goto mk_54 (off := 33) (by decide +kernel) (by decide +kernel),
  List.forall_mem_cons.mpr ⟨as_aload_n mk_54 (k := 0) (by decide +kernel) rfl rfl,
  List.forall_mem_cons.mpr ⟨as_gR mk_54 (ix := 11) (by decide +kernel) (fd_RX4_11 rfl) rfl,
  List.forall_mem_cons.mpr ⟨as_iload_n mk_54 (k := 3) (by decide +kernel) rfl rfl,
  List.forall_mem_cons.mpr ⟨as_ar_ mk_54 (Or.inr rfl) (by decide +kernel) rfl,
  List.forall_mem_cons.mpr ⟨as_iload mk_54 (by decide +kernel) rfl,
  List.forall_mem_cons.mpr ⟨as_als mk_54 (Or.inl ⟨rfl, by decide +kernel⟩) rfl,
  List.forall_mem_cons.mpr ⟨as_bipush mk_54 (n := 99) (by decide +kernel) (by decide +kernel) rfl,
  List.forall_mem_cons.mpr ⟨as_icmp_ne mk_54 (off := 8) (by decide +kernel) (by decide +kernel) rfl,
  List.forall_mem_cons.mpr ⟨as_bipush mk_54 (n := 99) (by decide +kernel) (by decide +kernel) rfl,
  List.forall_mem_cons.mpr ⟨as_goto mk_54 (off := 14) (by decide +kernel) (by decide +kernel),
  List.forall_mem_cons.mpr ⟨as_aload_n mk_54 (k := 0) (by decide +kernel) rfl rfl,
  fun _ h => absurd h List.not_mem_nil⟩⟩⟩⟩⟩⟩⟩⟩⟩⟩⟩⟩⟩⟩⟩⟩⟩⟩⟩⟩⟩⟩⟩⟩⟩⟩⟩⟩⟩⟩
def cd_54_1 : List (Nat × aa_Op) := [(53, aa_gR 4 0 56), (56, aa_ldi 3 57), (57, aa_ar_ 103 58), (58, aa_ldi 4 60), (60, aa_als 100 61), (61, aa_ldi 2 62), (62, aa_bin (fun x y => x + y) 63), (63, aa_ass 100 (fun x => x) 64), (64, aa_inc 4 1 67), (67, aa_go 11), (70, aa_inc 3 1 73), (73, aa_go 2), (76, aa_pu (.int 0) 77), (77, aa_sti 3 78), (78, aa_ldi 3 79), (79, aa_pu (.int 8) 81), (81, aa_icmp (fun x y => x < y) 84 152), (84, aa_pu (.int 0) 85), (85, aa_sti 4 87), (87, aa_ldi 4 89), (89, aa_pu (.int 8) 91), (91, aa_icmp (fun x y => x < y) 94 146), (94, aa_pu (.int 0) 95), (95, aa_sti 5 97), (97, aa_ldi 5 99), (99, aa_pu (.int 8) 101), (101, aa_icmp (fun x y => x < y) 104 140), (104, aa_lda 1 105), (105, aa_ldi 4 107), (107, aa_ar_ 103 108)]
theorem cd_54_1_ok : ab_Cd 54 cd_54_1 :=
  List.forall_mem_cons.mpr ⟨as_gR mk_54 (ix := 11) (by decide +kernel) (fd_RX4_11 rfl) rfl,
  List.forall_mem_cons.mpr ⟨as_iload_n mk_54 (k := 3) (by decide +kernel) rfl rfl,
  List.forall_mem_cons.mpr ⟨as_ar_ mk_54 (Or.inr rfl) (by decide +kernel) rfl,
  List.forall_mem_cons.mpr ⟨as_iload mk_54 (by decide +kernel) rfl,
  List.forall_mem_cons.mpr ⟨as_als mk_54 (Or.inl ⟨rfl, by decide +kernel⟩) rfl,
  List.forall_mem_cons.mpr ⟨as_iload_n mk_54 (k := 2) (by decide +kernel) rfl rfl,
  List.forall_mem_cons.mpr ⟨as_iadd mk_54 (by decide +kernel) rfl,
  List.forall_mem_cons.mpr ⟨as_ass mk_54 (Or.inl ⟨rfl, fun _ => rfl, by decide +kernel⟩) rfl,
  List.forall_mem_cons.mpr ⟨as_iinc mk_54 (n := 1) (by decide +kernel) (by decide +kernel) (by decide) rfl,
  List.forall_mem_cons.mpr ⟨as_goto mk_54 (off := (-56)) (by decide +kernel) (by decide +kernel),
  List.forall_mem_cons.mpr ⟨as_iinc mk_54 (n := 1) (by decide +kernel) (by decide +kernel) (by decide) rfl,
  List.forall_mem_cons.mpr ⟨as_goto mk_54 (off := (-71)) (by decide +kernel) (by decide +kernel),
  List.forall_mem_cons.mpr ⟨as_iconst mk_54 (n := 0) (by decide +kernel) (by decide +kernel) rfl,
  List.forall_mem_cons.mpr ⟨as_istore_n mk_54 (k := 3) (by decide +kernel) rfl (by decide) rfl,
  List.forall_mem_cons.mpr ⟨as_iload_n mk_54 (k := 3) (by decide +kernel) rfl rfl,
  List.forall_mem_cons.mpr ⟨as_bipush mk_54 (n := 8) (by decide +kernel) (by decide +kernel) rfl,
  List.forall_mem_cons.mpr ⟨as_icmp_ge mk_54 (off := 71) (by decide +kernel) (by decide +kernel) rfl,
  List.forall_mem_cons.mpr ⟨as_iconst mk_54 (n := 0) (by decide +kernel) (by decide +kernel) rfl,
  List.forall_mem_cons.mpr ⟨as_istore mk_54 (by decide +kernel) (by decide) rfl,
  List.forall_mem_cons.mpr ⟨as_iload mk_54 (by decide +kernel) rfl,
  List.forall_mem_cons.mpr ⟨as_bipush mk_54 (n := 8) (by decide +kernel) (by decide +kernel) rfl,
  List.forall_mem_cons.mpr ⟨as_icmp_ge mk_54 (off := 55) (by decide +kernel) (by decide +kernel) rfl,
  List.forall_mem_cons.mpr ⟨as_iconst mk_54 (n := 0) (by decide +kernel) (by decide +kernel) rfl,
  List.forall_mem_cons.mpr ⟨as_istore mk_54 (by decide +kernel) (by decide) rfl,
  List.forall_mem_cons.mpr ⟨as_iload mk_54 (by decide +kernel) rfl,
  List.forall_mem_cons.mpr ⟨as_bipush mk_54 (n := 8) (by decide +kernel) (by decide +kernel) rfl,
  List.forall_mem_cons.mpr ⟨as_icmp_ge mk_54 (off := 39) (by decide +kernel) (by decide +kernel) rfl,
  List.forall_mem_cons.mpr ⟨as_aload_n mk_54 (k := 1) (by decide +kernel) rfl rfl,
  List.forall_mem_cons.mpr ⟨as_iload mk_54 (by decide +kernel) rfl,
  List.forall_mem_cons.mpr ⟨as_ar_ mk_54 (Or.inr rfl) (by decide +kernel) rfl,
  fun _ h => absurd h List.not_mem_nil⟩⟩⟩⟩⟩⟩⟩⟩⟩⟩⟩⟩⟩⟩⟩⟩⟩⟩⟩⟩⟩⟩⟩⟩⟩⟩⟩⟩⟩⟩
def cd_54_2 : List (Nat × aa_Op) := [(108, aa_ldi 5 110), (110, aa_lda 1 111), (111, aa_ldi 4 113), (113, aa_ar_ 103 114), (114, aa_ldi 5 116), (116, aa_als 100 117), (117, aa_lda 1 118), (118, aa_ldi 4 120), (120, aa_ar_ 103 121), (121, aa_ldi 3 122), (122, aa_als 100 123), (123, aa_lda 1 124), (124, aa_ldi 3 125), (125, aa_ar_ 103 126), (126, aa_ldi 5 128), (128, aa_als 100 129), (129, aa_bin (fun x y => x + y) 130), (130, aa_mm (fun x y => if y < x then y else x) 133), (133, aa_ass 100 (fun x => x) 134), (134, aa_inc 5 1 137), (137, aa_go 97), (140, aa_inc 4 1 143), (143, aa_go 87), (146, aa_inc 3 1 149), (149, aa_go 78), (152, aa_retv)]
theorem cd_54_2_ok : ab_Cd 54 cd_54_2 :=
  List.forall_mem_cons.mpr ⟨as_iload mk_54 (by decide +kernel) rfl,
  List.forall_mem_cons.mpr ⟨as_aload_n mk_54 (k := 1) (by decide +kernel) rfl rfl,
  List.forall_mem_cons.mpr ⟨as_iload mk_54 (by decide +kernel) rfl,
  List.forall_mem_cons.mpr ⟨as_ar_ mk_54 (Or.inr rfl) (by decide +kernel) rfl,
  List.forall_mem_cons.mpr ⟨as_iload mk_54 (by decide +kernel) rfl,
  List.forall_mem_cons.mpr ⟨as_als mk_54 (Or.inl ⟨rfl, by decide +kernel⟩) rfl,
  List.forall_mem_cons.mpr ⟨as_aload_n mk_54 (k := 1) (by decide +kernel) rfl rfl,
  List.forall_mem_cons.mpr ⟨as_iload mk_54 (by decide +kernel) rfl,
  List.forall_mem_cons.mpr ⟨as_ar_ mk_54 (Or.inr rfl) (by decide +kernel) rfl,
  List.forall_mem_cons.mpr ⟨as_iload_n mk_54 (k := 3) (by decide +kernel) rfl rfl,
  List.forall_mem_cons.mpr ⟨as_als mk_54 (Or.inl ⟨rfl, by decide +kernel⟩) rfl,
  List.forall_mem_cons.mpr ⟨as_aload_n mk_54 (k := 1) (by decide +kernel) rfl rfl,
  List.forall_mem_cons.mpr ⟨as_iload_n mk_54 (k := 3) (by decide +kernel) rfl rfl,
  List.forall_mem_cons.mpr ⟨as_ar_ mk_54 (Or.inr rfl) (by decide +kernel) rfl,
  List.forall_mem_cons.mpr ⟨as_iload mk_54 (by decide +kernel) rfl,
  List.forall_mem_cons.mpr ⟨as_als mk_54 (Or.inl ⟨rfl, by decide +kernel⟩) rfl,
  List.forall_mem_cons.mpr ⟨as_iadd mk_54 (by decide +kernel) rfl,
  List.forall_mem_cons.mpr ⟨as_mmin mk_54 (ix := 44) (by decide +kernel) mw_RX4_44 rfl,
  List.forall_mem_cons.mpr ⟨as_ass mk_54 (Or.inl ⟨rfl, fun _ => rfl, by decide +kernel⟩) rfl,
  List.forall_mem_cons.mpr ⟨as_iinc mk_54 (n := 1) (by decide +kernel) (by decide +kernel) (by decide) rfl,
  List.forall_mem_cons.mpr ⟨as_goto mk_54 (off := (-40)) (by decide +kernel) (by decide +kernel),
  List.forall_mem_cons.mpr ⟨as_iinc mk_54 (n := 1) (by decide +kernel) (by decide +kernel) (by decide) rfl,
  List.forall_mem_cons.mpr ⟨as_goto mk_54 (off := (-56)) (by decide +kernel) (by decide +kernel),
  List.forall_mem_cons.mpr ⟨as_iinc mk_54 (n := 1) (by decide +kernel) (by decide +kernel) (by decide) rfl,
  List.forall_mem_cons.mpr ⟨as_goto mk_54 (off := (-71)) (by decide +kernel) (by decide +kernel),
  List.forall_mem_cons.mpr ⟨as_vret mk_54 (by decide +kernel) rfl,
  fun _ h => absurd h List.not_mem_nil⟩⟩⟩⟩⟩⟩⟩⟩⟩⟩⟩⟩⟩⟩⟩⟩⟩⟩⟩⟩⟩⟩⟩⟩⟩⟩
def cd_54 : List (Nat × aa_Op) := cd_54_0 ++ (cd_54_1 ++ (cd_54_2))
theorem cd_54_ok : ab_Cd 54 cd_54 := List.forall_mem_append.mpr ⟨cd_54_0_ok, List.forall_mem_append.mpr ⟨cd_54_1_ok, cd_54_2_ok⟩⟩
def cd_56_0 : List (Nat × aa_Op) := [(0, aa_ldi 0 1), (1, aa_pu (.int 0) 2), (2, aa_pu (.int 3) 3), (3, aa_ccs 182 3 3 aa_kI 6), (6, aa_retz)]
theorem cd_56_0_ok : ab_Cd 56 cd_56_0 :=
  List.forall_mem_cons.mpr ⟨as_iload_n mk_56 (k := 0) (by decide +kernel) rfl rfl,
  List.forall_mem_cons.mpr ⟨as_iconst mk_56 (n := 0) (by decide +kernel) (by decide +kernel) rfl,
  List.forall_mem_cons.mpr ⟨as_iconst mk_56 (n := 3) (by decide +kernel) (by decide +kernel) rfl,
  List.forall_mem_cons.mpr ⟨as_ccs mk_56 (ix := 29) (M' := ac_r182) aa_kI_ok (by decide +kernel) ce_182 lk_RX5_29 cs_182 rfl (by decide) rfl,
  List.forall_mem_cons.mpr ⟨as_zret mk_56 (by decide +kernel) rfl,
  fun _ h => absurd h List.not_mem_nil⟩⟩⟩⟩⟩
def cd_56 : List (Nat × aa_Op) := cd_56_0
theorem cd_56_ok : ab_Cd 56 cd_56 := cd_56_0_ok
def cd_57_0 : List (Nat × aa_Op) := [(0, aa_ldi 0 1), (1, aa_pu (.int 0) 2), (2, aa_pu (.int 2) 3), (3, aa_ccs 182 3 3 aa_kI 6), (6, aa_retz)]
theorem cd_57_0_ok : ab_Cd 57 cd_57_0 :=
  List.forall_mem_cons.mpr ⟨as_iload_n mk_57 (k := 0) (by decide +kernel) rfl rfl,
  List.forall_mem_cons.mpr ⟨as_iconst mk_57 (n := 0) (by decide +kernel) (by decide +kernel) rfl,
  List.forall_mem_cons.mpr ⟨as_iconst mk_57 (n := 2) (by decide +kernel) (by decide +kernel) rfl,
  List.forall_mem_cons.mpr ⟨as_ccs mk_57 (ix := 29) (M' := ac_r182) aa_kI_ok (by decide +kernel) ce_182 lk_RX5_29 cs_182 rfl (by decide) rfl,
  List.forall_mem_cons.mpr ⟨as_zret mk_57 (by decide +kernel) rfl,
  fun _ h => absurd h List.not_mem_nil⟩⟩⟩⟩⟩
def cd_57 : List (Nat × aa_Op) := cd_57_0
theorem cd_57_ok : ab_Cd 57 cd_57 := cd_57_0_ok
def cd_58_0 : List (Nat × aa_Op) := [(0, aa_lda 0 1), (1, aa_gR 5 0 4), (4, aa_ldi 1 5), (5, aa_al 100 6), (6, aa_pu (.int (-1)) 7), (7, aa_icmp (fun x y => x = y) 10 14), (10, aa_pu (.int 1) 11), (11, aa_go 15), (14, aa_pu (.int 0) 15), (15, aa_retz)]
theorem cd_58_0_ok : ab_Cd 58 cd_58_0 :=
  List.forall_mem_cons.mpr ⟨as_aload_n mk_58 (k := 0) (by decide +kernel) rfl rfl,
  List.forall_mem_cons.mpr ⟨as_gR mk_58 (ix := 9) (by decide +kernel) (fd_RX5_9 rfl) rfl,
  List.forall_mem_cons.mpr ⟨as_iload_n mk_58 (k := 1) (by decide +kernel) rfl rfl,
  List.forall_mem_cons.mpr ⟨as_al mk_58 (Or.inl ⟨rfl, by decide +kernel⟩) rfl,
  List.forall_mem_cons.mpr ⟨as_iconst mk_58 (n := (-1)) (by decide +kernel) (by decide +kernel) rfl,
  List.forall_mem_cons.mpr ⟨as_icmp_ne mk_58 (off := 7) (by decide +kernel) (by decide +kernel) rfl,
  List.forall_mem_cons.mpr ⟨as_iconst mk_58 (n := 1) (by decide +kernel) (by decide +kernel) rfl,
  List.forall_mem_cons.mpr ⟨as_goto mk_58 (off := 4) (by decide +kernel) (by decide +kernel),
  List.forall_mem_cons.mpr ⟨as_iconst mk_58 (n := 0) (by decide +kernel) (by decide +kernel) rfl,
  List.forall_mem_cons.mpr ⟨as_zret mk_58 (by decide +kernel) rfl,
  fun _ h => absurd h List.not_mem_nil⟩⟩⟩⟩⟩⟩⟩⟩⟩⟩
def cd_58 : List (Nat × aa_Op) := cd_58_0
theorem cd_58_ok : ab_Cd 58 cd_58 := cd_58_0_ok
def cd_59_0 : List (Nat × aa_Op) := [(0, aa_lda 0 1), (1, aa_gR 5 0 4), (4, aa_ldi 1 5), (5, aa_al 100 6), (6, aa_reti)]
theorem cd_59_0_ok : ab_Cd 59 cd_59_0 :=
  List.forall_mem_cons.mpr ⟨as_aload_n mk_59 (k := 0) (by decide +kernel) rfl rfl,
  List.forall_mem_cons.mpr ⟨as_gR mk_59 (ix := 9) (by decide +kernel) (fd_RX5_9 rfl) rfl,
  List.forall_mem_cons.mpr ⟨as_iload_n mk_59 (k := 1) (by decide +kernel) rfl rfl,
  List.forall_mem_cons.mpr ⟨as_al mk_59 (Or.inl ⟨rfl, by decide +kernel⟩) rfl,
  List.forall_mem_cons.mpr ⟨as_iret mk_59 (by decide +kernel) rfl,
  fun _ h => absurd h List.not_mem_nil⟩⟩⟩⟩⟩
def cd_59 : List (Nat × aa_Op) := cd_59_0
theorem cd_59_ok : ab_Cd 59 cd_59 := cd_59_0_ok
def cd_60_0 : List (Nat × aa_Op) := [(0, aa_ldi 2 1), (1, aa_pu (.int 0) 2), (2, aa_lda 0 3), (3, aa_gR 5 1 6), (6, aa_ldi 1 7), (7, aa_al 100 8), (8, aa_pu (.int 1) 9), (9, aa_bin (fun x y => x - y) 10), (10, aa_ccs 182 3 3 aa_kI 13), (13, aa_retz)]
theorem cd_60_0_ok : ab_Cd 60 cd_60_0 :=
  List.forall_mem_cons.mpr ⟨as_iload_n mk_60 (k := 2) (by decide +kernel) rfl rfl,
  List.forall_mem_cons.mpr ⟨as_iconst mk_60 (n := 0) (by decide +kernel) (by decide +kernel) rfl,
  List.forall_mem_cons.mpr ⟨as_aload_n mk_60 (k := 0) (by decide +kernel) rfl rfl,
  List.forall_mem_cons.mpr ⟨as_gR mk_60 (ix := 15) (by decide +kernel) (fd_RX5_15 rfl) rfl,
  List.forall_mem_cons.mpr ⟨as_iload_n mk_60 (k := 1) (by decide +kernel) rfl rfl,
  List.forall_mem_cons.mpr ⟨as_al mk_60 (Or.inl ⟨rfl, by decide +kernel⟩) rfl,
  List.forall_mem_cons.mpr ⟨as_iconst mk_60 (n := 1) (by decide +kernel) (by decide +kernel) rfl,
  List.forall_mem_cons.mpr ⟨as_isub mk_60 (by decide +kernel) rfl,
  List.forall_mem_cons.mpr ⟨as_ccs mk_60 (ix := 29) (M' := ac_r182) aa_kI_ok (by decide +kernel) ce_182 lk_RX5_29 cs_182 rfl (by decide) rfl,
  List.forall_mem_cons.mpr ⟨as_zret mk_60 (by decide +kernel) rfl,
  fun _ h => absurd h List.not_mem_nil⟩⟩⟩⟩⟩⟩⟩⟩⟩⟩
def cd_60 : List (Nat × aa_Op) := cd_60_0
theorem cd_60_ok : ab_Cd 60 cd_60 := cd_60_0_ok
def cd_61_0 : List (Nat × aa_Op) := [(0, aa_ldi 3 1), (1, aa_if (fun x => x < 0) 24 4), (4, aa_ldi 2 5), (5, aa_pu (.int 0) 6), (6, aa_lda 0 7), (7, aa_gR 5 1 10), (10, aa_ldi 1 11), (11, aa_al 100 12), (12, aa_ldi 3 13), (13, aa_bin (fun x y => x - y) 14), (14, aa_ccs 182 3 3 aa_kI 17), (17, aa_if (fun x => x = 0) 24 20), (20, aa_pu (.int 1) 21), (21, aa_go 25), (24, aa_pu (.int 0) 25), (25, aa_retz)]
theorem cd_61_0_ok : ab_Cd 61 cd_61_0 :=
  List.forall_mem_cons.mpr ⟨as_iload_n mk_61 (k := 3) (by decide +kernel) rfl rfl,
  List.forall_mem_cons.mpr ⟨as_if_lt mk_61 (off := 23) (by decide +kernel) (by decide +kernel) rfl,
  List.forall_mem_cons.mpr ⟨as_iload_n mk_61 (k := 2) (by decide +kernel) rfl rfl,
  List.forall_mem_cons.mpr ⟨as_iconst mk_61 (n := 0) (by decide +kernel) (by decide +kernel) rfl,
  List.forall_mem_cons.mpr ⟨as_aload_n mk_61 (k := 0) (by decide +kernel) rfl rfl,
  List.forall_mem_cons.mpr ⟨as_gR mk_61 (ix := 15) (by decide +kernel) (fd_RX5_15 rfl) rfl,
  List.forall_mem_cons.mpr ⟨as_iload_n mk_61 (k := 1) (by decide +kernel) rfl rfl,
  List.forall_mem_cons.mpr ⟨as_al mk_61 (Or.inl ⟨rfl, by decide +kernel⟩) rfl,
  List.forall_mem_cons.mpr ⟨as_iload_n mk_61 (k := 3) (by decide +kernel) rfl rfl,
  List.forall_mem_cons.mpr ⟨as_isub mk_61 (by decide +kernel) rfl,
  List.forall_mem_cons.mpr ⟨as_ccs mk_61 (ix := 29) (M' := ac_r182) aa_kI_ok (by decide +kernel) ce_182 lk_RX5_29 cs_182 rfl (by decide) rfl,
  List.forall_mem_cons.mpr ⟨as_if_eq mk_61 (off := 7) (by decide +kernel) (by decide +kernel) rfl,
  List.forall_mem_cons.mpr ⟨as_iconst mk_61 (n := 1) (by decide +kernel) (by decide +kernel) rfl,
  List.forall_mem_cons.mpr ⟨as_goto mk_61 (off := 4) (by decide +kernel) (by decide +kernel),
  List.forall_mem_cons.mpr ⟨as_iconst mk_61 (n := 0) (by decide +kernel) (by decide +kernel) rfl,
  List.forall_mem_cons.mpr ⟨as_zret mk_61 (by decide +kernel) rfl,
  fun _ h => absurd h List.not_mem_nil⟩⟩⟩⟩⟩⟩⟩⟩⟩⟩⟩⟩⟩⟩⟩⟩
def cd_61 : List (Nat × aa_Op) := cd_61_0
theorem cd_61_ok : ab_Cd 61 cd_61 := cd_61_0_ok
def cd_62_0 : List (Nat × aa_Op) := [(0, aa_lda 0 1), (1, aa_gR 5 0 4), (4, aa_ldi 1 5), (5, aa_pu (.int (-1)) 6), (6, aa_as 100 (fun x => x) 7), (7, aa_lda 0 8), (8, aa_gR 5 1 11), (11, aa_ldi 1 12), (12, aa_pu (.int 0) 13), (13, aa_as 100 (fun x => x) 14), (14, aa_retv)]
theorem cd_62_0_ok : ab_Cd 62 cd_62_0 :=
  List.forall_mem_cons.mpr ⟨as_aload_n mk_62 (k := 0) (by decide +kernel) rfl rfl,
  List.forall_mem_cons.mpr ⟨as_gR mk_62 (ix := 9) (by decide +kernel) (fd_RX5_9 rfl) rfl,
  List.forall_mem_cons.mpr ⟨as_iload_n mk_62 (k := 1) (by decide +kernel) rfl rfl,
  List.forall_mem_cons.mpr ⟨as_iconst mk_62 (n := (-1)) (by decide +kernel) (by decide +kernel) rfl,
  List.forall_mem_cons.mpr ⟨as_as mk_62 (Or.inl ⟨rfl, fun _ => rfl, by decide +kernel⟩) rfl,
  List.forall_mem_cons.mpr ⟨as_aload_n mk_62 (k := 0) (by decide +kernel) rfl rfl,
  List.forall_mem_cons.mpr ⟨as_gR mk_62 (ix := 15) (by decide +kernel) (fd_RX5_15 rfl) rfl,
  List.forall_mem_cons.mpr ⟨as_iload_n mk_62 (k := 1) (by decide +kernel) rfl rfl,
  List.forall_mem_cons.mpr ⟨as_iconst mk_62 (n := 0) (by decide +kernel) (by decide +kernel) rfl,
  List.forall_mem_cons.mpr ⟨as_as mk_62 (Or.inl ⟨rfl, fun _ => rfl, by decide +kernel⟩) rfl,
  List.forall_mem_cons.mpr ⟨as_vret mk_62 (by decide +kernel) rfl,
  fun _ h => absurd h List.not_mem_nil⟩⟩⟩⟩⟩⟩⟩⟩⟩⟩⟩
def cd_62 : List (Nat × aa_Op) := cd_62_0
theorem cd_62_ok : ab_Cd 62 cd_62 := cd_62_0_ok
def cd_63_0 : List (Nat × aa_Op) := [(0, aa_lda 0 1), (1, aa_gR 5 0 4), (4, aa_ldi 1 5), (5, aa_ldi 2 6), (6, aa_as 100 (fun x => x) 7), (7, aa_lda 0 8), (8, aa_gR 5 1 11), (11, aa_ldi 1 12), (12, aa_ldi 3 13), (13, aa_as 100 (fun x => x) 14), (14, aa_lda 0 15), (15, aa_gR 5 2 18), (18, aa_ldi 1 19), (19, aa_ar_ 103 20), (20, aa_pu (.int 0) 21), (21, aa_ccs 299 2 4 aa_kV 24), (24, aa_retv)]
theorem cd_63_0_ok : ab_Cd 63 cd_63_0 :=
  List.forall_mem_cons.mpr ⟨as_aload_n mk_63 (k := 0) (by decide +kernel) rfl rfl,
  List.forall_mem_cons.mpr ⟨as_gR mk_63 (ix := 9) (by decide +kernel) (fd_RX5_9 rfl) rfl,
  List.forall_mem_cons.mpr ⟨as_iload_n mk_63 (k := 1) (by decide +kernel) rfl rfl,
  List.forall_mem_cons.mpr ⟨as_iload_n mk_63 (k := 2) (by decide +kernel) rfl rfl,
  List.forall_mem_cons.mpr ⟨as_as mk_63 (Or.inl ⟨rfl, fun _ => rfl, by decide +kernel⟩) rfl,
  List.forall_mem_cons.mpr ⟨as_aload_n mk_63 (k := 0) (by decide +kernel) rfl rfl,
  List.forall_mem_cons.mpr ⟨as_gR mk_63 (ix := 15) (by decide +kernel) (fd_RX5_15 rfl) rfl,
  List.forall_mem_cons.mpr ⟨as_iload_n mk_63 (k := 1) (by decide +kernel) rfl rfl,
  List.forall_mem_cons.mpr ⟨as_iload_n mk_63 (k := 3) (by decide +kernel) rfl rfl,
  List.forall_mem_cons.mpr ⟨as_as mk_63 (Or.inl ⟨rfl, fun _ => rfl, by decide +kernel⟩) rfl,
  List.forall_mem_cons.mpr ⟨as_aload_n mk_63 (k := 0) (by decide +kernel) rfl rfl,
  List.forall_mem_cons.mpr ⟨as_gR mk_63 (ix := 20) (by decide +kernel) (fd_RX5_20 rfl) rfl,
  List.forall_mem_cons.mpr ⟨as_iload_n mk_63 (k := 1) (by decide +kernel) rfl rfl,
  List.forall_mem_cons.mpr ⟨as_ar_ mk_63 (Or.inr rfl) (by decide +kernel) rfl,
  List.forall_mem_cons.mpr ⟨as_iconst mk_63 (n := 0) (by decide +kernel) (by decide +kernel) rfl,
  List.forall_mem_cons.mpr ⟨as_ccs mk_63 (ix := 23) (M' := ac_r299) aa_kV_ok (by decide +kernel) ce_299 lk_RX5_23 cs_299 rfl (by decide) rfl,
  List.forall_mem_cons.mpr ⟨as_vret mk_63 (by decide +kernel) rfl,
  fun _ h => absurd h List.not_mem_nil⟩⟩⟩⟩⟩⟩⟩⟩⟩⟩⟩⟩⟩⟩⟩⟩⟩
def cd_63 : List (Nat × aa_Op) := cd_63_0
theorem cd_63_ok : ab_Cd 63 cd_63 := cd_63_0_ok
def cd_64_0 : List (Nat × aa_Op) := [(0, aa_lda 0 1), (1, aa_gR 5 2 4), (4, aa_ldi 1 5), (5, aa_ar_ 103 6), (6, aa_ldi 2 7), (7, aa_lda 0 8), (8, aa_gR 5 0 11), (11, aa_ldi 1 12), (12, aa_al 100 13), (13, aa_if (fun x => x = 0) 16 21), (16, aa_ldi 3 17), (17, aa_un (fun x => x.toInt8.toInt32) 18), (18, aa_go 37), (21, aa_lda 0 22), (22, aa_gR 5 0 25), (25, aa_ldi 1 26), (26, aa_al 100 27), (27, aa_pu (.int 1) 28), (28, aa_icmp (fun x y => x = y) 31 36), (31, aa_ldi 3 32), (32, aa_un (fun x => x.toInt16.toInt32) 33), (33, aa_go 37), (36, aa_ldi 3 37), (37, aa_ass 100 (fun x => x) 38), (38, aa_retv)]
theorem cd_64_0_ok : ab_Cd 64 cd_64_0 :=
  List.forall_mem_cons.mpr ⟨as_aload_n mk_64 (k := 0) (by decide +kernel) rfl rfl,
  List.forall_mem_cons.mpr ⟨as_gR mk_64 (ix := 20) (by decide +kernel) (fd_RX5_20 rfl) rfl,
  List.forall_mem_cons.mpr ⟨as_iload_n mk_64 (k := 1) (by decide +kernel) rfl rfl,
  List.forall_mem_cons.mpr ⟨as_ar_ mk_64 (Or.inr rfl) (by decide +kernel) rfl,
  List.forall_mem_cons.mpr ⟨as_iload_n mk_64 (k := 2) (by decide +kernel) rfl rfl,
  List.forall_mem_cons.mpr ⟨as_aload_n mk_64 (k := 0) (by decide +kernel) rfl rfl,
  List.forall_mem_cons.mpr ⟨as_gR mk_64 (ix := 9) (by decide +kernel) (fd_RX5_9 rfl) rfl,
  List.forall_mem_cons.mpr ⟨as_iload_n mk_64 (k := 1) (by decide +kernel) rfl rfl,
  List.forall_mem_cons.mpr ⟨as_al mk_64 (Or.inl ⟨rfl, by decide +kernel⟩) rfl,
  List.forall_mem_cons.mpr ⟨as_if_ne mk_64 (off := 8) (by decide +kernel) (by decide +kernel) rfl,
  List.forall_mem_cons.mpr ⟨as_iload_n mk_64 (k := 3) (by decide +kernel) rfl rfl,
  List.forall_mem_cons.mpr ⟨as_i2b mk_64 (by decide +kernel) rfl,
  List.forall_mem_cons.mpr ⟨as_goto mk_64 (off := 19) (by decide +kernel) (by decide +kernel),
  List.forall_mem_cons.mpr ⟨as_aload_n mk_64 (k := 0) (by decide +kernel) rfl rfl,
  List.forall_mem_cons.mpr ⟨as_gR mk_64 (ix := 9) (by decide +kernel) (fd_RX5_9 rfl) rfl,
  List.forall_mem_cons.mpr ⟨as_iload_n mk_64 (k := 1) (by decide +kernel) rfl rfl,
  List.forall_mem_cons.mpr ⟨as_al mk_64 (Or.inl ⟨rfl, by decide +kernel⟩) rfl,
  List.forall_mem_cons.mpr ⟨as_iconst mk_64 (n := 1) (by decide +kernel) (by decide +kernel) rfl,
  List.forall_mem_cons.mpr ⟨as_icmp_ne mk_64 (off := 8) (by decide +kernel) (by decide +kernel) rfl,
  List.forall_mem_cons.mpr ⟨as_iload_n mk_64 (k := 3) (by decide +kernel) rfl rfl,
  List.forall_mem_cons.mpr ⟨as_i2s mk_64 (by decide +kernel) rfl,
  List.forall_mem_cons.mpr ⟨as_goto mk_64 (off := 4) (by decide +kernel) (by decide +kernel),
  List.forall_mem_cons.mpr ⟨as_iload_n mk_64 (k := 3) (by decide +kernel) rfl rfl,
  List.forall_mem_cons.mpr ⟨as_ass mk_64 (Or.inl ⟨rfl, fun _ => rfl, by decide +kernel⟩) rfl,
  List.forall_mem_cons.mpr ⟨as_vret mk_64 (by decide +kernel) rfl,
  fun _ h => absurd h List.not_mem_nil⟩⟩⟩⟩⟩⟩⟩⟩⟩⟩⟩⟩⟩⟩⟩⟩⟩⟩⟩⟩⟩⟩⟩⟩⟩
def cd_64 : List (Nat × aa_Op) := cd_64_0
theorem cd_64_ok : ab_Cd 64 cd_64 := cd_64_0_ok
def cd_65_0 : List (Nat × aa_Op) := [(0, aa_lda 0 1), (1, aa_gR 5 2 4), (4, aa_ldi 1 5), (5, aa_ar_ 103 6), (6, aa_ldi 2 7), (7, aa_als 100 8), (8, aa_reti)]
theorem cd_65_0_ok : ab_Cd 65 cd_65_0 :=
  List.forall_mem_cons.mpr ⟨as_aload_n mk_65 (k := 0) (by decide +kernel) rfl rfl,
  List.forall_mem_cons.mpr ⟨as_gR mk_65 (ix := 20) (by decide +kernel) (fd_RX5_20 rfl) rfl,
  List.forall_mem_cons.mpr ⟨as_iload_n mk_65 (k := 1) (by decide +kernel) rfl rfl,
  List.forall_mem_cons.mpr ⟨as_ar_ mk_65 (Or.inr rfl) (by decide +kernel) rfl,
  List.forall_mem_cons.mpr ⟨as_iload_n mk_65 (k := 2) (by decide +kernel) rfl rfl,
  List.forall_mem_cons.mpr ⟨as_als mk_65 (Or.inl ⟨rfl, by decide +kernel⟩) rfl,
  List.forall_mem_cons.mpr ⟨as_iret mk_65 (by decide +kernel) rfl,
  fun _ h => absurd h List.not_mem_nil⟩⟩⟩⟩⟩⟩⟩
def cd_65 : List (Nat × aa_Op) := cd_65_0
theorem cd_65_ok : ab_Cd 65 cd_65 := cd_65_0_ok
def cd_66_0 : List (Nat × aa_Op) := [(0, aa_lda 0 1), (1, aa_gR 5 2 4), (4, aa_ldi 1 5), (5, aa_ar_ 103 6), (6, aa_ldi 2 7), (7, aa_lda 0 8), (8, aa_gR 5 2 11), (11, aa_ldi 3 12), (12, aa_ar_ 103 13), (13, aa_ldi 4 15), (15, aa_ldi 5 17), (17, aa_acp 20), (20, aa_retv)]
theorem cd_66_0_ok : ab_Cd 66 cd_66_0 :=
  List.forall_mem_cons.mpr ⟨as_aload_n mk_66 (k := 0) (by decide +kernel) rfl rfl,
  List.forall_mem_cons.mpr ⟨as_gR mk_66 (ix := 20) (by decide +kernel) (fd_RX5_20 rfl) rfl,
  List.forall_mem_cons.mpr ⟨as_iload_n mk_66 (k := 1) (by decide +kernel) rfl rfl,
  List.forall_mem_cons.mpr ⟨as_ar_ mk_66 (Or.inr rfl) (by decide +kernel) rfl,
  List.forall_mem_cons.mpr ⟨as_iload_n mk_66 (k := 2) (by decide +kernel) rfl rfl,
  List.forall_mem_cons.mpr ⟨as_aload_n mk_66 (k := 0) (by decide +kernel) rfl rfl,
  List.forall_mem_cons.mpr ⟨as_gR mk_66 (ix := 20) (by decide +kernel) (fd_RX5_20 rfl) rfl,
  List.forall_mem_cons.mpr ⟨as_iload_n mk_66 (k := 3) (by decide +kernel) rfl rfl,
  List.forall_mem_cons.mpr ⟨as_ar_ mk_66 (Or.inr rfl) (by decide +kernel) rfl,
  List.forall_mem_cons.mpr ⟨as_iload mk_66 (by decide +kernel) rfl,
  List.forall_mem_cons.mpr ⟨as_iload mk_66 (by decide +kernel) rfl,
  List.forall_mem_cons.mpr ⟨as_acp mk_66 (ix := 33) (by decide +kernel) ⟨aa_bw 1199 (by decide +kernel) rfl, aa_bw 1201 (by decide +kernel) rfl, aa_bw 1200 (by decide +kernel) rfl, aa_bw 92 (by decide +kernel) rfl⟩ rfl,
  List.forall_mem_cons.mpr ⟨as_vret mk_66 (by decide +kernel) rfl,
  fun _ h => absurd h List.not_mem_nil⟩⟩⟩⟩⟩⟩⟩⟩⟩⟩⟩⟩⟩
def cd_66 : List (Nat × aa_Op) := cd_66_0
theorem cd_66_ok : ab_Cd 66 cd_66 := cd_66_0_ok
def cd_68_0 : List (Nat × aa_Op) := [(0, aa_lda 0 1), (1, aa_pu (.int 0) 2), (2, aa_pIs 6 2 5), (5, aa_lda 0 6), (6, aa_pu (.int 0) 7), (7, aa_pIs 6 3 10), (10, aa_retv)]
theorem cd_68_0_ok : ab_Cd 68 cd_68_0 :=
  List.forall_mem_cons.mpr ⟨as_aload_n mk_68 (k := 0) (by decide +kernel) rfl rfl,
  List.forall_mem_cons.mpr ⟨as_iconst mk_68 (n := 0) (by decide +kernel) (by decide +kernel) rfl,
  List.forall_mem_cons.mpr ⟨as_pIs mk_68 (ix := 18) (by decide +kernel) (fd_RX6_18 rfl) pt_6_2 rfl,
  List.forall_mem_cons.mpr ⟨as_aload_n mk_68 (k := 0) (by decide +kernel) rfl rfl,
  List.forall_mem_cons.mpr ⟨as_iconst mk_68 (n := 0) (by decide +kernel) (by decide +kernel) rfl,
  List.forall_mem_cons.mpr ⟨as_pIs mk_68 (ix := 22) (by decide +kernel) (fd_RX6_22 rfl) pt_6_3 rfl,
  List.forall_mem_cons.mpr ⟨as_vret mk_68 (by decide +kernel) rfl,
  fun _ h => absurd h List.not_mem_nil⟩⟩⟩⟩⟩⟩⟩
def cd_68 : List (Nat × aa_Op) := cd_68_0
theorem cd_68_ok : ab_Cd 68 cd_68 := cd_68_0_ok
def cd_69_0 : List (Nat × aa_Op) := [(0, aa_lda 0 1), (1, aa_lda 0 2), (2, aa_gIs 6 3 5), (5, aa_pIs 6 2 8), (8, aa_retv)]
theorem cd_69_0_ok : ab_Cd 69 cd_69_0 :=
  List.forall_mem_cons.mpr ⟨as_aload_n mk_69 (k := 0) (by decide +kernel) rfl rfl,
  List.forall_mem_cons.mpr ⟨as_aload_n mk_69 (k := 0) (by decide +kernel) rfl rfl,
  List.forall_mem_cons.mpr ⟨as_gIs mk_69 (ix := 22) (by decide +kernel) (fd_RX6_22 rfl) rfl,
  List.forall_mem_cons.mpr ⟨as_pIs mk_69 (ix := 18) (by decide +kernel) (fd_RX6_18 rfl) pt_6_2 rfl,
  List.forall_mem_cons.mpr ⟨as_vret mk_69 (by decide +kernel) rfl,
  fun _ h => absurd h List.not_mem_nil⟩⟩⟩⟩⟩
def cd_69 : List (Nat × aa_Op) := cd_69_0
theorem cd_69_ok : ab_Cd 69 cd_69 := cd_69_0_ok
def cd_70_0 : List (Nat × aa_Op) := [(0, aa_lda 0 1), (1, aa_gIs 6 3 4), (4, aa_lda 0 5), (5, aa_gRs 6 0 8), (8, aa_lens 9), (9, aa_icmp (fun x y => x < y) 12 32), (12, aa_lda 0 13), (13, aa_gRs 6 0 16), (16, aa_lda 0 17), (17, aa_gIs 6 3 20), (20, aa_ldi 1 21), (21, aa_ass 100 (fun x => x) 22), (22, aa_lda 0 23), (23, aa_dup 24), (24, aa_gIs 6 3 27), (27, aa_pu (.int 1) 28), (28, aa_bin (fun x y => x + y) 29), (29, aa_pIs 6 3 32), (32, aa_retv)]
theorem cd_70_0_ok : ab_Cd 70 cd_70_0 :=
  List.forall_mem_cons.mpr ⟨as_aload_n mk_70 (k := 0) (by decide +kernel) rfl rfl,
  List.forall_mem_cons.mpr ⟨as_gIs mk_70 (ix := 22) (by decide +kernel) (fd_RX6_22 rfl) rfl,
  List.forall_mem_cons.mpr ⟨as_aload_n mk_70 (k := 0) (by decide +kernel) rfl rfl,
  List.forall_mem_cons.mpr ⟨as_gRs mk_70 (ix := 11) (by decide +kernel) (fd_RX6_11 rfl) rfl,
  List.forall_mem_cons.mpr ⟨as_lens mk_70 (by decide +kernel) rfl,
  List.forall_mem_cons.mpr ⟨as_icmp_ge mk_70 (off := 23) (by decide +kernel) (by decide +kernel) rfl,
  List.forall_mem_cons.mpr ⟨as_aload_n mk_70 (k := 0) (by decide +kernel) rfl rfl,
  List.forall_mem_cons.mpr ⟨as_gRs mk_70 (ix := 11) (by decide +kernel) (fd_RX6_11 rfl) rfl,
  List.forall_mem_cons.mpr ⟨as_aload_n mk_70 (k := 0) (by decide +kernel) rfl rfl,
  List.forall_mem_cons.mpr ⟨as_gIs mk_70 (ix := 22) (by decide +kernel) (fd_RX6_22 rfl) rfl,
  List.forall_mem_cons.mpr ⟨as_iload_n mk_70 (k := 1) (by decide +kernel) rfl rfl,
  List.forall_mem_cons.mpr ⟨as_ass mk_70 (Or.inl ⟨rfl, fun _ => rfl, by decide +kernel⟩) rfl,
  List.forall_mem_cons.mpr ⟨as_aload_n mk_70 (k := 0) (by decide +kernel) rfl rfl,
  List.forall_mem_cons.mpr ⟨as_dup mk_70 (by decide +kernel) rfl,
  List.forall_mem_cons.mpr ⟨as_gIs mk_70 (ix := 22) (by decide +kernel) (fd_RX6_22 rfl) rfl,
  List.forall_mem_cons.mpr ⟨as_iconst mk_70 (n := 1) (by decide +kernel) (by decide +kernel) rfl,
  List.forall_mem_cons.mpr ⟨as_iadd mk_70 (by decide +kernel) rfl,
  List.forall_mem_cons.mpr ⟨as_pIs mk_70 (ix := 22) (by decide +kernel) (fd_RX6_22 rfl) pt_6_3 rfl,
  List.forall_mem_cons.mpr ⟨as_vret mk_70 (by decide +kernel) rfl,
  fun _ h => absurd h List.not_mem_nil⟩⟩⟩⟩⟩⟩⟩⟩⟩⟩⟩⟩⟩⟩⟩⟩⟩⟩⟩
def cd_70 : List (Nat × aa_Op) := cd_70_0
theorem cd_70_ok : ab_Cd 70 cd_70 := cd_70_0_ok
def cd_71_0 : List (Nat × aa_Op) := [(0, aa_lda 0 1), (1, aa_pu (.int 10000) 4), (4, aa_ldi 1 5), (5, aa_bin (fun x y => x + y) 6), (6, aa_ccu 70 1 2 6 aa_kV 9), (9, aa_retv)]
theorem cd_71_0_ok : ab_Cd 71 cd_71_0 :=
  List.forall_mem_cons.mpr ⟨as_aload_n mk_71 (k := 0) (by decide +kernel) rfl rfl,
  List.forall_mem_cons.mpr ⟨as_sipush mk_71 (n := 10000) (by decide +kernel) (by decide +kernel) rfl,
  List.forall_mem_cons.mpr ⟨as_iload_n mk_71 (k := 1) (by decide +kernel) rfl rfl,
  List.forall_mem_cons.mpr ⟨as_iadd mk_71 (by decide +kernel) rfl,
  List.forall_mem_cons.mpr ⟨as_ccu mk_71 (ix := 25) aa_kV_ok (by decide +kernel) (cx_RX6_25 rfl) rfl,
  List.forall_mem_cons.mpr ⟨as_vret mk_71 (by decide +kernel) rfl,
  fun _ h => absurd h List.not_mem_nil⟩⟩⟩⟩⟩⟩
def cd_71 : List (Nat × aa_Op) := cd_71_0
theorem cd_71_ok : ab_Cd 71 cd_71 := cd_71_0_ok
def cd_72_0 : List (Nat × aa_Op) := [(0, aa_lda 0 1), (1, aa_pu (.int 0) 2), (2, aa_lda 0 3), (3, aa_gIs 6 2 6), (6, aa_lda 1 7), (7, aa_ccu 74 3 8 6 aa_kI 10), (10, aa_reti)]
theorem cd_72_0_ok : ab_Cd 72 cd_72_0 :=
  List.forall_mem_cons.mpr ⟨as_aload_n mk_72 (k := 0) (by decide +kernel) rfl rfl,
  List.forall_mem_cons.mpr ⟨as_iconst mk_72 (n := 0) (by decide +kernel) (by decide +kernel) rfl,
  List.forall_mem_cons.mpr ⟨as_aload_n mk_72 (k := 0) (by decide +kernel) rfl rfl,
  List.forall_mem_cons.mpr ⟨as_gIs mk_72 (ix := 18) (by decide +kernel) (fd_RX6_18 rfl) rfl,
  List.forall_mem_cons.mpr ⟨as_aload_n mk_72 (k := 1) (by decide +kernel) rfl rfl,
  List.forall_mem_cons.mpr ⟨as_ccu mk_72 (ix := 29) aa_kI_ok (by decide +kernel) (cx_RX6_29 rfl) rfl,
  List.forall_mem_cons.mpr ⟨as_iret mk_72 (by decide +kernel) rfl,
  fun _ h => absurd h List.not_mem_nil⟩⟩⟩⟩⟩⟩⟩
def cd_72 : List (Nat × aa_Op) := cd_72_0
theorem cd_72_ok : ab_Cd 72 cd_72 := cd_72_0_ok
def cd_73_0 : List (Nat × aa_Op) := [(0, aa_lda 0 1), (1, aa_lda 0 2), (2, aa_gIs 6 2 5), (5, aa_lda 0 6), (6, aa_gIs 6 3 9), (9, aa_lda 1 10), (10, aa_ccu 74 3 8 6 aa_kI 13), (13, aa_reti)]
theorem cd_73_0_ok : ab_Cd 73 cd_73_0 :=
  List.forall_mem_cons.mpr ⟨as_aload_n mk_73 (k := 0) (by decide +kernel) rfl rfl,
  List.forall_mem_cons.mpr ⟨as_aload_n mk_73 (k := 0) (by decide +kernel) rfl rfl,
  List.forall_mem_cons.mpr ⟨as_gIs mk_73 (ix := 18) (by decide +kernel) (fd_RX6_18 rfl) rfl,
  List.forall_mem_cons.mpr ⟨as_aload_n mk_73 (k := 0) (by decide +kernel) rfl rfl,
  List.forall_mem_cons.mpr ⟨as_gIs mk_73 (ix := 22) (by decide +kernel) (fd_RX6_22 rfl) rfl,
  List.forall_mem_cons.mpr ⟨as_aload_n mk_73 (k := 1) (by decide +kernel) rfl rfl,
  List.forall_mem_cons.mpr ⟨as_ccu mk_73 (ix := 29) aa_kI_ok (by decide +kernel) (cx_RX6_29 rfl) rfl,
  List.forall_mem_cons.mpr ⟨as_iret mk_73 (by decide +kernel) rfl,
  fun _ h => absurd h List.not_mem_nil⟩⟩⟩⟩⟩⟩⟩⟩
def cd_73 : List (Nat × aa_Op) := cd_73_0
theorem cd_73_ok : ab_Cd 73 cd_73 := cd_73_0_ok
def cd_74_0 : List (Nat × aa_Op) := [(0, aa_pu (.int 0) 1), (1, aa_sti 4 3), (3, aa_ldi 1 4), (4, aa_sti 5 6), (6, aa_ldi 5 8), (8, aa_ldi 2 9), (9, aa_icmp (fun x y => x < y) 12 163), (12, aa_lda 0 13), (13, aa_gRs 6 0 16), (16, aa_ldi 5 18), (18, aa_als 100 19), (19, aa_sti 6 21), (21, aa_ldi 6 23), (23, aa_pu (.int 20000) 26), (26, aa_icmp (fun x y => x < y) 29 33), (29, aa_pu (.int 0) 30), (30, aa_go 46), (33, aa_ldi 6 35), (35, aa_pu (.int 20001) 38), (38, aa_icmp (fun x y => y < x) 41 45), (41, aa_pu (.int 2) 42), (42, aa_go 46), (45, aa_pu (.int 1) 46), (46, aa_sti 7 48), (48, aa_ldi 4 50), (50, aa_ldi 7 52), (52, aa_icmp (fun x y => x < y) 68 55), (55, aa_ldi 4 57), (57, aa_ldi 7 59), (59, aa_bin (fun x y => x - y) 60)]
theorem cd_74_0_ok : ab_Cd 74 cd_74_0 :=
  List.forall_mem_cons.mpr ⟨as_iconst mk_74 (n := 0) (by decide +kernel) (by decide +kernel) rfl,
  List.forall_mem_cons.mpr ⟨as_istore mk_74 (by decide +kernel) (by decide) rfl,
  List.forall_mem_cons.mpr ⟨as_iload_n mk_74 (k := 1) (by decide +kernel) rfl rfl,
  List.forall_mem_cons.mpr ⟨as_istore mk_74 (by decide +kernel) (by decide) rfl,
  List.forall_mem_cons.mpr ⟨as_iload mk_74 (by decide +kernel) rfl,
  List.forall_mem_cons.mpr ⟨as_iload_n mk_74 (k := 2) (by decide +kernel) rfl rfl,
  List.forall_mem_cons.mpr ⟨as_icmp_ge mk_74 (off := 154) (by decide +kernel) (by decide +kernel) rfl,
  List.forall_mem_cons.mpr ⟨as_aload_n mk_74 (k := 0) (by decide +kernel) rfl rfl,
  List.forall_mem_cons.mpr ⟨as_gRs mk_74 (ix := 11) (by decide +kernel) (fd_RX6_11 rfl) rfl,
  List.forall_mem_cons.mpr ⟨as_iload mk_74 (by decide +kernel) rfl,
  List.forall_mem_cons.mpr ⟨as_als mk_74 (Or.inl ⟨rfl, by decide +kernel⟩) rfl,
  List.forall_mem_cons.mpr ⟨as_istore mk_74 (by decide +kernel) (by decide) rfl,
  List.forall_mem_cons.mpr ⟨as_iload mk_74 (by decide +kernel) rfl,
  List.forall_mem_cons.mpr ⟨as_sipush mk_74 (n := 20000) (by decide +kernel) (by decide +kernel) rfl,
  List.forall_mem_cons.mpr ⟨as_icmp_ge mk_74 (off := 7) (by decide +kernel) (by decide +kernel) rfl,
  List.forall_mem_cons.mpr ⟨as_iconst mk_74 (n := 0) (by decide +kernel) (by decide +kernel) rfl,
  List.forall_mem_cons.mpr ⟨as_goto mk_74 (off := 16) (by decide +kernel) (by decide +kernel),
  List.forall_mem_cons.mpr ⟨as_iload mk_74 (by decide +kernel) rfl,
  List.forall_mem_cons.mpr ⟨as_sipush mk_74 (n := 20001) (by decide +kernel) (by decide +kernel) rfl,
  List.forall_mem_cons.mpr ⟨as_icmp_le mk_74 (off := 7) (by decide +kernel) (by decide +kernel) rfl,
  List.forall_mem_cons.mpr ⟨as_iconst mk_74 (n := 2) (by decide +kernel) (by decide +kernel) rfl,
  List.forall_mem_cons.mpr ⟨as_goto mk_74 (off := 4) (by decide +kernel) (by decide +kernel),
  List.forall_mem_cons.mpr ⟨as_iconst mk_74 (n := 1) (by decide +kernel) (by decide +kernel) rfl,
  List.forall_mem_cons.mpr ⟨as_istore mk_74 (by decide +kernel) (by decide) rfl,
  List.forall_mem_cons.mpr ⟨as_iload mk_74 (by decide +kernel) rfl,
  List.forall_mem_cons.mpr ⟨as_iload mk_74 (by decide +kernel) rfl,
  List.forall_mem_cons.mpr ⟨as_icmp_lt mk_74 (off := 16) (by decide +kernel) (by decide +kernel) rfl,
  List.forall_mem_cons.mpr ⟨as_iload mk_74 (by decide +kernel) rfl,
  List.forall_mem_cons.mpr ⟨as_iload mk_74 (by decide +kernel) rfl,
  List.forall_mem_cons.mpr ⟨as_isub mk_74 (by decide +kernel) rfl,
  fun _ h => absurd h List.not_mem_nil⟩⟩⟩⟩⟩⟩⟩⟩⟩⟩⟩⟩⟩⟩⟩⟩⟩⟩⟩⟩⟩⟩⟩⟩⟩⟩⟩⟩⟩⟩
def cd_74_1 : List (Nat × aa_Op) := [(60, aa_lda 0 61), (61, aa_gRs 6 1 64), (64, aa_lens 65), (65, aa_icmp (fun x y => x < y) 70 68), (68, aa_pu (.int 0) 69), (69, aa_reti), (70, aa_ldi 4 72), (72, aa_ldi 7 74), (74, aa_bin (fun x y => x - y) 75), (75, aa_sti 4 77), (77, aa_ldi 7 79), (79, aa_if (fun x => x = 0) 82 98), (82, aa_lda 0 83), (83, aa_gRs 6 1 86), (86, aa_ldi 4 88), (88, aa_ldi 6 90), (90, aa_lda 3 91), (91, aa_ccs 75 2 3 aa_kI 94), (94, aa_ass 100 (fun x => x) 95), (95, aa_go 154), (98, aa_ldi 7 100), (100, aa_pu (.int 1) 101), (101, aa_icmp (fun x y => x = y) 104 126), (104, aa_lda 0 105), (105, aa_gRs 6 1 108), (108, aa_ldi 4 110), (110, aa_ldi 6 112), (112, aa_lda 0 113), (113, aa_gRs 6 1 116), (116, aa_ldi 4 118)]
theorem cd_74_1_ok : ab_Cd 74 cd_74_1 :=
  List.forall_mem_cons.mpr ⟨as_aload_n mk_74 (k := 0) (by decide +kernel) rfl rfl,
  List.forall_mem_cons.mpr ⟨as_gRs mk_74 (ix := 15) (by decide +kernel) (fd_RX6_15 rfl) rfl,
  List.forall_mem_cons.mpr ⟨as_lens mk_74 (by decide +kernel) rfl,
  List.forall_mem_cons.mpr ⟨as_icmp_lt mk_74 (off := 5) (by decide +kernel) (by decide +kernel) rfl,
  List.forall_mem_cons.mpr ⟨as_iconst mk_74 (n := 0) (by decide +kernel) (by decide +kernel) rfl,
  List.forall_mem_cons.mpr ⟨as_iret mk_74 (by decide +kernel) rfl,
  List.forall_mem_cons.mpr ⟨as_iload mk_74 (by decide +kernel) rfl,
  List.forall_mem_cons.mpr ⟨as_iload mk_74 (by decide +kernel) rfl,
  List.forall_mem_cons.mpr ⟨as_isub mk_74 (by decide +kernel) rfl,
  List.forall_mem_cons.mpr ⟨as_istore mk_74 (by decide +kernel) (by decide) rfl,
  List.forall_mem_cons.mpr ⟨as_iload mk_74 (by decide +kernel) rfl,
  List.forall_mem_cons.mpr ⟨as_if_ne mk_74 (off := 19) (by decide +kernel) (by decide +kernel) rfl,
  List.forall_mem_cons.mpr ⟨as_aload_n mk_74 (k := 0) (by decide +kernel) rfl rfl,
  List.forall_mem_cons.mpr ⟨as_gRs mk_74 (ix := 15) (by decide +kernel) (fd_RX6_15 rfl) rfl,
  List.forall_mem_cons.mpr ⟨as_iload mk_74 (by decide +kernel) rfl,
  List.forall_mem_cons.mpr ⟨as_iload mk_74 (by decide +kernel) rfl,
  List.forall_mem_cons.mpr ⟨as_aload_n mk_74 (k := 3) (by decide +kernel) rfl rfl,
  List.forall_mem_cons.mpr ⟨as_ccs mk_74 (ix := 33) (M' := ac_r75) aa_kI_ok (by decide +kernel) ce_75 lk_RX6_33 cs_75 rfl (by decide) rfl,
  List.forall_mem_cons.mpr ⟨as_ass mk_74 (Or.inl ⟨rfl, fun _ => rfl, by decide +kernel⟩) rfl,
  List.forall_mem_cons.mpr ⟨as_goto mk_74 (off := 59) (by decide +kernel) (by decide +kernel),
  List.forall_mem_cons.mpr ⟨as_iload mk_74 (by decide +kernel) rfl,
  List.forall_mem_cons.mpr ⟨as_iconst mk_74 (n := 1) (by decide +kernel) (by decide +kernel) rfl,
  List.forall_mem_cons.mpr ⟨as_icmp_ne mk_74 (off := 25) (by decide +kernel) (by decide +kernel) rfl,
  List.forall_mem_cons.mpr ⟨as_aload_n mk_74 (k := 0) (by decide +kernel) rfl rfl,
  List.forall_mem_cons.mpr ⟨as_gRs mk_74 (ix := 15) (by decide +kernel) (fd_RX6_15 rfl) rfl,
  List.forall_mem_cons.mpr ⟨as_iload mk_74 (by decide +kernel) rfl,
  List.forall_mem_cons.mpr ⟨as_iload mk_74 (by decide +kernel) rfl,
  List.forall_mem_cons.mpr ⟨as_aload_n mk_74 (k := 0) (by decide +kernel) rfl rfl,
  List.forall_mem_cons.mpr ⟨as_gRs mk_74 (ix := 15) (by decide +kernel) (fd_RX6_15 rfl) rfl,
  List.forall_mem_cons.mpr ⟨as_iload mk_74 (by decide +kernel) rfl,
  fun _ h => absurd h List.not_mem_nil⟩⟩⟩⟩⟩⟩⟩⟩⟩⟩⟩⟩⟩⟩⟩⟩⟩⟩⟩⟩⟩⟩⟩⟩⟩⟩⟩⟩⟩⟩
def cd_74_2 : List (Nat × aa_Op) := [(118, aa_als 100 119), (119, aa_ccs 76 2 2 aa_kI 122), (122, aa_ass 100 (fun x => x) 123), (123, aa_go 154), (126, aa_lda 0 127), (127, aa_gRs 6 1 130), (130, aa_ldi 4 132), (132, aa_ldi 6 134), (134, aa_lda 0 135), (135, aa_gRs 6 1 138), (138, aa_ldi 4 140), (140, aa_als 100 141), (141, aa_lda 0 142), (142, aa_gRs 6 1 145), (145, aa_ldi 4 147), (147, aa_pu (.int 1) 148), (148, aa_bin (fun x y => x + y) 149), (149, aa_als 100 150), (150, aa_ccs 77 3 3 aa_kI 153), (153, aa_ass 100 (fun x => x) 154), (154, aa_inc 4 1 157), (157, aa_inc 5 1 160), (160, aa_go 6), (163, aa_lda 0 164), (164, aa_gRs 6 1 167), (167, aa_pu (.int 0) 168), (168, aa_als 100 169), (169, aa_reti)]
theorem cd_74_2_ok : ab_Cd 74 cd_74_2 :=
  List.forall_mem_cons.mpr ⟨as_als mk_74 (Or.inl ⟨rfl, by decide +kernel⟩) rfl,
  List.forall_mem_cons.mpr ⟨as_ccs mk_74 (ix := 37) (M' := ac_r76) aa_kI_ok (by decide +kernel) ce_76 lk_RX6_37 cs_76 rfl (by decide) rfl,
  List.forall_mem_cons.mpr ⟨as_ass mk_74 (Or.inl ⟨rfl, fun _ => rfl, by decide +kernel⟩) rfl,
  List.forall_mem_cons.mpr ⟨as_goto mk_74 (off := 31) (by decide +kernel) (by decide +kernel),
  List.forall_mem_cons.mpr ⟨as_aload_n mk_74 (k := 0) (by decide +kernel) rfl rfl,
  List.forall_mem_cons.mpr ⟨as_gRs mk_74 (ix := 15) (by decide +kernel) (fd_RX6_15 rfl) rfl,
  List.forall_mem_cons.mpr ⟨as_iload mk_74 (by decide +kernel) rfl,
  List.forall_mem_cons.mpr ⟨as_iload mk_74 (by decide +kernel) rfl,
  List.forall_mem_cons.mpr ⟨as_aload_n mk_74 (k := 0) (by decide +kernel) rfl rfl,
  List.forall_mem_cons.mpr ⟨as_gRs mk_74 (ix := 15) (by decide +kernel) (fd_RX6_15 rfl) rfl,
  List.forall_mem_cons.mpr ⟨as_iload mk_74 (by decide +kernel) rfl,
  List.forall_mem_cons.mpr ⟨as_als mk_74 (Or.inl ⟨rfl, by decide +kernel⟩) rfl,
  List.forall_mem_cons.mpr ⟨as_aload_n mk_74 (k := 0) (by decide +kernel) rfl rfl,
  List.forall_mem_cons.mpr ⟨as_gRs mk_74 (ix := 15) (by decide +kernel) (fd_RX6_15 rfl) rfl,
  List.forall_mem_cons.mpr ⟨as_iload mk_74 (by decide +kernel) rfl,
  List.forall_mem_cons.mpr ⟨as_iconst mk_74 (n := 1) (by decide +kernel) (by decide +kernel) rfl,
  List.forall_mem_cons.mpr ⟨as_iadd mk_74 (by decide +kernel) rfl,
  List.forall_mem_cons.mpr ⟨as_als mk_74 (Or.inl ⟨rfl, by decide +kernel⟩) rfl,
  List.forall_mem_cons.mpr ⟨as_ccs mk_74 (ix := 41) (M' := ac_r77) aa_kI_ok (by decide +kernel) ce_77 lk_RX6_41 cs_77 rfl (by decide) rfl,
  List.forall_mem_cons.mpr ⟨as_ass mk_74 (Or.inl ⟨rfl, fun _ => rfl, by decide +kernel⟩) rfl,
  List.forall_mem_cons.mpr ⟨as_iinc mk_74 (n := 1) (by decide +kernel) (by decide +kernel) (by decide) rfl,
  List.forall_mem_cons.mpr ⟨as_iinc mk_74 (n := 1) (by decide +kernel) (by decide +kernel) (by decide) rfl,
  List.forall_mem_cons.mpr ⟨as_goto mk_74 (off := (-154)) (by decide +kernel) (by decide +kernel),
  List.forall_mem_cons.mpr ⟨as_aload_n mk_74 (k := 0) (by decide +kernel) rfl rfl,
  List.forall_mem_cons.mpr ⟨as_gRs mk_74 (ix := 15) (by decide +kernel) (fd_RX6_15 rfl) rfl,
  List.forall_mem_cons.mpr ⟨as_iconst mk_74 (n := 0) (by decide +kernel) (by decide +kernel) rfl,
  List.forall_mem_cons.mpr ⟨as_als mk_74 (Or.inl ⟨rfl, by decide +kernel⟩) rfl,
  List.forall_mem_cons.mpr ⟨as_iret mk_74 (by decide +kernel) rfl,
  fun _ h => absurd h List.not_mem_nil⟩⟩⟩⟩⟩⟩⟩⟩⟩⟩⟩⟩⟩⟩⟩⟩⟩⟩⟩⟩⟩⟩⟩⟩⟩⟩⟩⟩
def cd_74 : List (Nat × aa_Op) := cd_74_0 ++ (cd_74_1 ++ (cd_74_2))
theorem cd_74_ok : ab_Cd 74 cd_74 := List.forall_mem_append.mpr ⟨cd_74_0_ok, List.forall_mem_append.mpr ⟨cd_74_1_ok, cd_74_2_ok⟩⟩
def cd_75_0 : List (Nat × aa_Op) := [(0, aa_ldi 0 1), (1, aa_pu (.int 10000) 4), (4, aa_bin (fun x y => x - y) 5), (5, aa_sti 2 6), (6, aa_ldi 2 7), (7, aa_pu (.int 0) 8), (8, aa_lda 1 9), (9, aa_len 10), (10, aa_pu (.int 1) 11), (11, aa_bin (fun x y => x - y) 12), (12, aa_ccs 182 3 3 aa_kI 15), (15, aa_if (fun x => x = 0) 24 18), (18, aa_lda 1 19), (19, aa_ldi 2 20), (20, aa_al 100 21), (21, aa_go 25), (24, aa_ldi 0 25), (25, aa_reti)]
theorem cd_75_0_ok : ab_Cd 75 cd_75_0 :=
  List.forall_mem_cons.mpr ⟨as_iload_n mk_75 (k := 0) (by decide +kernel) rfl rfl,
  List.forall_mem_cons.mpr ⟨as_sipush mk_75 (n := 10000) (by decide +kernel) (by decide +kernel) rfl,
  List.forall_mem_cons.mpr ⟨as_isub mk_75 (by decide +kernel) rfl,
  List.forall_mem_cons.mpr ⟨as_istore_n mk_75 (k := 2) (by decide +kernel) rfl (by decide) rfl,
  List.forall_mem_cons.mpr ⟨as_iload_n mk_75 (k := 2) (by decide +kernel) rfl rfl,
  List.forall_mem_cons.mpr ⟨as_iconst mk_75 (n := 0) (by decide +kernel) (by decide +kernel) rfl,
  List.forall_mem_cons.mpr ⟨as_aload_n mk_75 (k := 1) (by decide +kernel) rfl rfl,
  List.forall_mem_cons.mpr ⟨as_len mk_75 (by decide +kernel) rfl,
  List.forall_mem_cons.mpr ⟨as_iconst mk_75 (n := 1) (by decide +kernel) (by decide +kernel) rfl,
  List.forall_mem_cons.mpr ⟨as_isub mk_75 (by decide +kernel) rfl,
  List.forall_mem_cons.mpr ⟨as_ccs mk_75 (ix := 45) (M' := ac_r182) aa_kI_ok (by decide +kernel) ce_182 lk_RX6_45 cs_182 rfl (by decide) rfl,
  List.forall_mem_cons.mpr ⟨as_if_eq mk_75 (off := 9) (by decide +kernel) (by decide +kernel) rfl,
  List.forall_mem_cons.mpr ⟨as_aload_n mk_75 (k := 1) (by decide +kernel) rfl rfl,
  List.forall_mem_cons.mpr ⟨as_iload_n mk_75 (k := 2) (by decide +kernel) rfl rfl,
  List.forall_mem_cons.mpr ⟨as_al mk_75 (Or.inl ⟨rfl, by decide +kernel⟩) rfl,
  List.forall_mem_cons.mpr ⟨as_goto mk_75 (off := 4) (by decide +kernel) (by decide +kernel),
  List.forall_mem_cons.mpr ⟨as_iload_n mk_75 (k := 0) (by decide +kernel) rfl rfl,
  List.forall_mem_cons.mpr ⟨as_iret mk_75 (by decide +kernel) rfl,
  fun _ h => absurd h List.not_mem_nil⟩⟩⟩⟩⟩⟩⟩⟩⟩⟩⟩⟩⟩⟩⟩⟩⟩⟩
def cd_75 : List (Nat × aa_Op) := cd_75_0
theorem cd_75_ok : ab_Cd 75 cd_75 := cd_75_0_ok
def cd_76_0 : List (Nat × aa_Op) := [(0, aa_ldi 0 1), (1, aa_pu (.int 20000) 4), (4, aa_icmp (fun x y => x = y) 7 22), (7, aa_ldi 1 8), (8, aa_if (fun x => x = 0) 11 15), (11, aa_pu (.int 1) 12), (12, aa_go 16), (15, aa_pu (.int 0) 16), (16, aa_ccs 78 1 1 aa_kI 19), (19, aa_go 24), (22, aa_ldi 1 23), (23, aa_un (fun x => -x) 24), (24, aa_reti)]
theorem cd_76_0_ok : ab_Cd 76 cd_76_0 :=
  List.forall_mem_cons.mpr ⟨as_iload_n mk_76 (k := 0) (by decide +kernel) rfl rfl,
  List.forall_mem_cons.mpr ⟨as_sipush mk_76 (n := 20000) (by decide +kernel) (by decide +kernel) rfl,
  List.forall_mem_cons.mpr ⟨as_icmp_ne mk_76 (off := 18) (by decide +kernel) (by decide +kernel) rfl,
  List.forall_mem_cons.mpr ⟨as_iload_n mk_76 (k := 1) (by decide +kernel) rfl rfl,
  List.forall_mem_cons.mpr ⟨as_if_ne mk_76 (off := 7) (by decide +kernel) (by decide +kernel) rfl,
  List.forall_mem_cons.mpr ⟨as_iconst mk_76 (n := 1) (by decide +kernel) (by decide +kernel) rfl,
  List.forall_mem_cons.mpr ⟨as_goto mk_76 (off := 4) (by decide +kernel) (by decide +kernel),
  List.forall_mem_cons.mpr ⟨as_iconst mk_76 (n := 0) (by decide +kernel) (by decide +kernel) rfl,
  List.forall_mem_cons.mpr ⟨as_ccs mk_76 (ix := 49) (M' := ac_r78) aa_kI_ok (by decide +kernel) ce_78 lk_RX6_49 cs_78 rfl (by decide) rfl,
  List.forall_mem_cons.mpr ⟨as_goto mk_76 (off := 5) (by decide +kernel) (by decide +kernel),
  List.forall_mem_cons.mpr ⟨as_iload_n mk_76 (k := 1) (by decide +kernel) rfl rfl,
  List.forall_mem_cons.mpr ⟨as_ineg mk_76 (by decide +kernel) rfl,
  List.forall_mem_cons.mpr ⟨as_iret mk_76 (by decide +kernel) rfl,
  fun _ h => absurd h List.not_mem_nil⟩⟩⟩⟩⟩⟩⟩⟩⟩⟩⟩⟩⟩
def cd_76 : List (Nat × aa_Op) := cd_76_0
theorem cd_76_ok : ab_Cd 76 cd_76 := cd_76_0_ok
def cd_77_0 : List (Nat × aa_Op) := [(0, aa_ldi 0 1), (1, aa_sw 110 [(20002, 40), (20003, 57), (20004, 74), (20005, 88), (20006, 102), (20007, 106)]), (40, aa_ldi 1 41), (41, aa_if (fun x => x = 0) 44 48), (44, aa_ldi 2 45), (45, aa_if (fun x => x = 0) 52 48), (48, aa_pu (.int 1) 49), (49, aa_go 53), (52, aa_pu (.int 0) 53), (53, aa_ccs 78 1 1 aa_kI 56), (56, aa_reti), (57, aa_ldi 1 58), (58, aa_if (fun x => x = 0) 69 61), (61, aa_ldi 2 62), (62, aa_if (fun x => x = 0) 69 65), (65, aa_pu (.int 1) 66), (66, aa_go 70), (69, aa_pu (.int 0) 70), (70, aa_ccs 78 1 1 aa_kI 73), (73, aa_reti), (74, aa_ldi 1 75), (75, aa_ldi 2 76), (76, aa_icmp (fun x y => x < y) 79 83), (79, aa_pu (.int 1) 80), (80, aa_go 84), (83, aa_pu (.int 0) 84), (84, aa_ccs 78 1 1 aa_kI 87), (87, aa_reti), (88, aa_ldi 1 89), (89, aa_ldi 2 90)]
theorem cd_77_0_ok : ab_Cd 77 cd_77_0 :=
  List.forall_mem_cons.mpr ⟨as_iload_n mk_77 (k := 0) (by decide +kernel) rfl rfl,
  List.forall_mem_cons.mpr ⟨sw_77_1,
  List.forall_mem_cons.mpr ⟨as_iload_n mk_77 (k := 1) (by decide +kernel) rfl rfl,
  List.forall_mem_cons.mpr ⟨as_if_ne mk_77 (off := 7) (by decide +kernel) (by decide +kernel) rfl,
  List.forall_mem_cons.mpr ⟨as_iload_n mk_77 (k := 2) (by decide +kernel) rfl rfl,
  List.forall_mem_cons.mpr ⟨as_if_eq mk_77 (off := 7) (by decide +kernel) (by decide +kernel) rfl,
  List.forall_mem_cons.mpr ⟨as_iconst mk_77 (n := 1) (by decide +kernel) (by decide +kernel) rfl,
  List.forall_mem_cons.mpr ⟨as_goto mk_77 (off := 4) (by decide +kernel) (by decide +kernel),
  List.forall_mem_cons.mpr ⟨as_iconst mk_77 (n := 0) (by decide +kernel) (by decide +kernel) rfl,
  List.forall_mem_cons.mpr ⟨as_ccs mk_77 (ix := 49) (M' := ac_r78) aa_kI_ok (by decide +kernel) ce_78 lk_RX6_49 cs_78 rfl (by decide) rfl,
  List.forall_mem_cons.mpr ⟨as_iret mk_77 (by decide +kernel) rfl,
  List.forall_mem_cons.mpr ⟨as_iload_n mk_77 (k := 1) (by decide +kernel) rfl rfl,
  List.forall_mem_cons.mpr ⟨as_if_eq mk_77 (off := 11) (by decide +kernel) (by decide +kernel) rfl,
  List.forall_mem_cons.mpr ⟨as_iload_n mk_77 (k := 2) (by decide +kernel) rfl rfl,
  List.forall_mem_cons.mpr ⟨as_if_eq mk_77 (off := 7) (by decide +kernel) (by decide +kernel) rfl,
  List.forall_mem_cons.mpr ⟨as_iconst mk_77 (n := 1) (by decide +kernel) (by decide +kernel) rfl,
  List.forall_mem_cons.mpr ⟨as_goto mk_77 (off := 4) (by decide +kernel) (by decide +kernel),
  List.forall_mem_cons.mpr ⟨as_iconst mk_77 (n := 0) (by decide +kernel) (by decide +kernel) rfl,
  List.forall_mem_cons.mpr ⟨as_ccs mk_77 (ix := 49) (M' := ac_r78) aa_kI_ok (by decide +kernel) ce_78 lk_RX6_49 cs_78 rfl (by decide) rfl,
  List.forall_mem_cons.mpr ⟨as_iret mk_77 (by decide +kernel) rfl,
  List.forall_mem_cons.mpr ⟨as_iload_n mk_77 (k := 1) (by decide +kernel) rfl rfl,
  List.forall_mem_cons.mpr ⟨as_iload_n mk_77 (k := 2) (by decide +kernel) rfl rfl,
  List.forall_mem_cons.mpr ⟨as_icmp_ge mk_77 (off := 7) (by decide +kernel) (by decide +kernel) rfl,
  List.forall_mem_cons.mpr ⟨as_iconst mk_77 (n := 1) (by decide +kernel) (by decide +kernel) rfl,
  List.forall_mem_cons.mpr ⟨as_goto mk_77 (off := 4) (by decide +kernel) (by decide +kernel),
  List.forall_mem_cons.mpr ⟨as_iconst mk_77 (n := 0) (by decide +kernel) (by decide +kernel) rfl,
  List.forall_mem_cons.mpr ⟨as_ccs mk_77 (ix := 49) (M' := ac_r78) aa_kI_ok (by decide +kernel) ce_78 lk_RX6_49 cs_78 rfl (by decide) rfl,
  List.forall_mem_cons.mpr ⟨as_iret mk_77 (by decide +kernel) rfl,
  List.forall_mem_cons.mpr ⟨as_iload_n mk_77 (k := 1) (by decide +kernel) rfl rfl,
  List.forall_mem_cons.mpr ⟨as_iload_n mk_77 (k := 2) (by decide +kernel) rfl rfl,
  fun _ h => absurd h List.not_mem_nil⟩⟩⟩⟩⟩⟩⟩⟩⟩⟩⟩⟩⟩⟩⟩⟩⟩⟩⟩⟩⟩⟩⟩⟩⟩⟩⟩⟩⟩⟩
def cd_77_1 : List (Nat × aa_Op) := [(90, aa_icmp (fun x y => x = y) 93 97), (93, aa_pu (.int 1) 94), (94, aa_go 98), (97, aa_pu (.int 0) 98), (98, aa_ccs 78 1 1 aa_kI 101), (101, aa_reti), (102, aa_ldi 1 103), (103, aa_ldi 2 104), (104, aa_bin (fun x y => x + y) 105), (105, aa_reti), (106, aa_ldi 1 107), (107, aa_ldi 2 108), (108, aa_bin (fun x y => x - y) 109), (109, aa_reti), (110, aa_ldi 1 111), (111, aa_ldi 2 112), (112, aa_bin (fun x y => x * y) 113), (113, aa_reti)]
theorem cd_77_1_ok : ab_Cd 77 cd_77_1 :=
  List.forall_mem_cons.mpr ⟨as_icmp_ne mk_77 (off := 7) (by decide +kernel) (by decide +kernel) rfl,
  List.forall_mem_cons.mpr ⟨as_iconst mk_77 (n := 1) (by decide +kernel) (by decide +kernel) rfl,
  List.forall_mem_cons.mpr ⟨as_goto mk_77 (off := 4) (by decide +kernel) (by decide +kernel),
  List.forall_mem_cons.mpr ⟨as_iconst mk_77 (n := 0) (by decide +kernel) (by decide +kernel) rfl,
  List.forall_mem_cons.mpr ⟨as_ccs mk_77 (ix := 49) (M' := ac_r78) aa_kI_ok (by decide +kernel) ce_78 lk_RX6_49 cs_78 rfl (by decide) rfl,
  List.forall_mem_cons.mpr ⟨as_iret mk_77 (by decide +kernel) rfl,
  List.forall_mem_cons.mpr ⟨as_iload_n mk_77 (k := 1) (by decide +kernel) rfl rfl,
  List.forall_mem_cons.mpr ⟨as_iload_n mk_77 (k := 2) (by decide +kernel) rfl rfl,
  List.forall_mem_cons.mpr ⟨as_iadd mk_77 (by decide +kernel) rfl,
  List.forall_mem_cons.mpr ⟨as_iret mk_77 (by decide +kernel) rfl,
  List.forall_mem_cons.mpr ⟨as_iload_n mk_77 (k := 1) (by decide +kernel) rfl rfl,
  List.forall_mem_cons.mpr ⟨as_iload_n mk_77 (k := 2) (by decide +kernel) rfl rfl,
  List.forall_mem_cons.mpr ⟨as_isub mk_77 (by decide +kernel) rfl,
  List.forall_mem_cons.mpr ⟨as_iret mk_77 (by decide +kernel) rfl,
  List.forall_mem_cons.mpr ⟨as_iload_n mk_77 (k := 1) (by decide +kernel) rfl rfl,
  List.forall_mem_cons.mpr ⟨as_iload_n mk_77 (k := 2) (by decide +kernel) rfl rfl,
  List.forall_mem_cons.mpr ⟨as_imul mk_77 (by decide +kernel) rfl,
  List.forall_mem_cons.mpr ⟨as_iret mk_77 (by decide +kernel) rfl,
  fun _ h => absurd h List.not_mem_nil⟩⟩⟩⟩⟩⟩⟩⟩⟩⟩⟩⟩⟩⟩⟩⟩⟩⟩
def cd_77 : List (Nat × aa_Op) := cd_77_0 ++ (cd_77_1)
theorem cd_77_ok : ab_Cd 77 cd_77 := List.forall_mem_append.mpr ⟨cd_77_0_ok, cd_77_1_ok⟩
def cd_78_0 : List (Nat × aa_Op) := [(0, aa_ldi 0 1), (1, aa_if (fun x => x = 0) 8 4), (4, aa_pu (.int 1) 5), (5, aa_go 9), (8, aa_pu (.int 0) 9), (9, aa_reti)]
theorem cd_78_0_ok : ab_Cd 78 cd_78_0 :=
  List.forall_mem_cons.mpr ⟨as_iload_n mk_78 (k := 0) (by decide +kernel) rfl rfl,
  List.forall_mem_cons.mpr ⟨as_if_eq mk_78 (off := 7) (by decide +kernel) (by decide +kernel) rfl,
  List.forall_mem_cons.mpr ⟨as_iconst mk_78 (n := 1) (by decide +kernel) (by decide +kernel) rfl,
  List.forall_mem_cons.mpr ⟨as_goto mk_78 (off := 4) (by decide +kernel) (by decide +kernel),
  List.forall_mem_cons.mpr ⟨as_iconst mk_78 (n := 0) (by decide +kernel) (by decide +kernel) rfl,
  List.forall_mem_cons.mpr ⟨as_iret mk_78 (by decide +kernel) rfl,
  fun _ h => absurd h List.not_mem_nil⟩⟩⟩⟩⟩⟩
def cd_78 : List (Nat × aa_Op) := cd_78_0
theorem cd_78_ok : ab_Cd 78 cd_78 := cd_78_0_ok
def cd_80_0 : List (Nat × aa_Op) := [(0, aa_ldi 1 1), (1, aa_pu (.int 0) 2), (2, aa_lda 0 3), (3, aa_gI 7 2 6), (6, aa_pu (.int 1) 7), (7, aa_bin (fun x y => x - y) 8), (8, aa_ccs 182 3 3 aa_kI 11), (11, aa_retz)]
theorem cd_80_0_ok : ab_Cd 80 cd_80_0 :=
  List.forall_mem_cons.mpr ⟨as_iload_n mk_80 (k := 1) (by decide +kernel) rfl rfl,
  List.forall_mem_cons.mpr ⟨as_iconst mk_80 (n := 0) (by decide +kernel) (by decide +kernel) rfl,
  List.forall_mem_cons.mpr ⟨as_aload_n mk_80 (k := 0) (by decide +kernel) rfl rfl,
  List.forall_mem_cons.mpr ⟨as_gI mk_80 (ix := 53) (by decide +kernel) (fd_RX7_53 rfl) rfl,
  List.forall_mem_cons.mpr ⟨as_iconst mk_80 (n := 1) (by decide +kernel) (by decide +kernel) rfl,
  List.forall_mem_cons.mpr ⟨as_isub mk_80 (by decide +kernel) rfl,
  List.forall_mem_cons.mpr ⟨as_ccs mk_80 (ix := 57) (M' := ac_r182) aa_kI_ok (by decide +kernel) ce_182 lk_RX7_57 cs_182 rfl (by decide) rfl,
  List.forall_mem_cons.mpr ⟨as_zret mk_80 (by decide +kernel) rfl,
  fun _ h => absurd h List.not_mem_nil⟩⟩⟩⟩⟩⟩⟩⟩
def cd_80 : List (Nat × aa_Op) := cd_80_0
theorem cd_80_ok : ab_Cd 80 cd_80 := cd_80_0_ok
def cd_81_0 : List (Nat × aa_Op) := [(0, aa_lda 0 1), (1, aa_gI 7 2 4), (4, aa_reti)]
theorem cd_81_0_ok : ab_Cd 81 cd_81_0 :=
  List.forall_mem_cons.mpr ⟨as_aload_n mk_81 (k := 0) (by decide +kernel) rfl rfl,
  List.forall_mem_cons.mpr ⟨as_gI mk_81 (ix := 53) (by decide +kernel) (fd_RX7_53 rfl) rfl,
  List.forall_mem_cons.mpr ⟨as_iret mk_81 (by decide +kernel) rfl,
  fun _ h => absurd h List.not_mem_nil⟩⟩⟩
def cd_81 : List (Nat × aa_Op) := cd_81_0
theorem cd_81_ok : ab_Cd 81 cd_81 := cd_81_0_ok
def cd_82_0 : List (Nat × aa_Op) := [(0, aa_lda 0 1), (1, aa_gI 7 4 4), (4, aa_reti)]
theorem cd_82_0_ok : ab_Cd 82 cd_82_0 :=
  List.forall_mem_cons.mpr ⟨as_aload_n mk_82 (k := 0) (by decide +kernel) rfl rfl,
  List.forall_mem_cons.mpr ⟨as_gI mk_82 (ix := 61) (by decide +kernel) (fd_RX7_61 rfl) rfl,
  List.forall_mem_cons.mpr ⟨as_iret mk_82 (by decide +kernel) rfl,
  fun _ h => absurd h List.not_mem_nil⟩⟩⟩
def cd_82 : List (Nat × aa_Op) := cd_82_0
theorem cd_82_ok : ab_Cd 82 cd_82 := cd_82_0_ok
def cd_83_0 : List (Nat × aa_Op) := [(0, aa_lda 0 1), (1, aa_gI 7 10 4), (4, aa_reti)]
theorem cd_83_0_ok : ab_Cd 83 cd_83_0 :=
  List.forall_mem_cons.mpr ⟨as_aload_n mk_83 (k := 0) (by decide +kernel) rfl rfl,
  List.forall_mem_cons.mpr ⟨as_gI mk_83 (ix := 64) (by decide +kernel) (fd_RX7_64 rfl) rfl,
  List.forall_mem_cons.mpr ⟨as_iret mk_83 (by decide +kernel) rfl,
  fun _ h => absurd h List.not_mem_nil⟩⟩⟩
def cd_83 : List (Nat × aa_Op) := cd_83_0
theorem cd_83_ok : ab_Cd 83 cd_83 := cd_83_0_ok
def cd_84_0 : List (Nat × aa_Op) := [(0, aa_lda 0 1), (1, aa_gI 7 2 4), (4, aa_pu (.int 12) 6), (6, aa_icmp (fun x y => x < y) 12 9), (9, aa_pu (.int (-4)) 11), (11, aa_reti), (12, aa_lda 0 13), (13, aa_gR 7 3 16), (16, aa_lda 0 17), (17, aa_gI 7 2 20), (20, aa_ldi 1 21), (21, aa_as 100 (fun x => x) 22), (22, aa_lda 0 23), (23, aa_dup 24), (24, aa_gI 7 2 27), (27, aa_pu (.int 1) 28), (28, aa_bin (fun x y => x + y) 29), (29, aa_pI 7 2 32), (32, aa_lda 0 33), (33, aa_gI 7 2 36), (36, aa_pu (.int 1) 37), (37, aa_bin (fun x y => x - y) 38), (38, aa_reti)]
theorem cd_84_0_ok : ab_Cd 84 cd_84_0 :=
  List.forall_mem_cons.mpr ⟨as_aload_n mk_84 (k := 0) (by decide +kernel) rfl rfl,
  List.forall_mem_cons.mpr ⟨as_gI mk_84 (ix := 53) (by decide +kernel) (fd_RX7_53 rfl) rfl,
  List.forall_mem_cons.mpr ⟨as_bipush mk_84 (n := 12) (by decide +kernel) (by decide +kernel) rfl,
  List.forall_mem_cons.mpr ⟨as_icmp_lt mk_84 (off := 6) (by decide +kernel) (by decide +kernel) rfl,
  List.forall_mem_cons.mpr ⟨as_bipush mk_84 (n := (-4)) (by decide +kernel) (by decide +kernel) rfl,
  List.forall_mem_cons.mpr ⟨as_iret mk_84 (by decide +kernel) rfl,
  List.forall_mem_cons.mpr ⟨as_aload_n mk_84 (k := 0) (by decide +kernel) rfl rfl,
  List.forall_mem_cons.mpr ⟨as_gR mk_84 (ix := 9) (by decide +kernel) (fd_RX7_9 rfl) rfl,
  List.forall_mem_cons.mpr ⟨as_aload_n mk_84 (k := 0) (by decide +kernel) rfl rfl,
  List.forall_mem_cons.mpr ⟨as_gI mk_84 (ix := 53) (by decide +kernel) (fd_RX7_53 rfl) rfl,
  List.forall_mem_cons.mpr ⟨as_iload_n mk_84 (k := 1) (by decide +kernel) rfl rfl,
  List.forall_mem_cons.mpr ⟨as_as mk_84 (Or.inl ⟨rfl, fun _ => rfl, by decide +kernel⟩) rfl,
  List.forall_mem_cons.mpr ⟨as_aload_n mk_84 (k := 0) (by decide +kernel) rfl rfl,
  List.forall_mem_cons.mpr ⟨as_dup mk_84 (by decide +kernel) rfl,
  List.forall_mem_cons.mpr ⟨as_gI mk_84 (ix := 53) (by decide +kernel) (fd_RX7_53 rfl) rfl,
  List.forall_mem_cons.mpr ⟨as_iconst mk_84 (n := 1) (by decide +kernel) (by decide +kernel) rfl,
  List.forall_mem_cons.mpr ⟨as_iadd mk_84 (by decide +kernel) rfl,
  List.forall_mem_cons.mpr ⟨as_pI mk_84 (ix := 53) (by decide +kernel) (fd_RX7_53 rfl) pt_7_2 rfl,
  List.forall_mem_cons.mpr ⟨as_aload_n mk_84 (k := 0) (by decide +kernel) rfl rfl,
  List.forall_mem_cons.mpr ⟨as_gI mk_84 (ix := 53) (by decide +kernel) (fd_RX7_53 rfl) rfl,
  List.forall_mem_cons.mpr ⟨as_iconst mk_84 (n := 1) (by decide +kernel) (by decide +kernel) rfl,
  List.forall_mem_cons.mpr ⟨as_isub mk_84 (by decide +kernel) rfl,
  List.forall_mem_cons.mpr ⟨as_iret mk_84 (by decide +kernel) rfl,
  fun _ h => absurd h List.not_mem_nil⟩⟩⟩⟩⟩⟩⟩⟩⟩⟩⟩⟩⟩⟩⟩⟩⟩⟩⟩⟩⟩⟩⟩
def cd_84 : List (Nat × aa_Op) := cd_84_0
theorem cd_84_ok : ab_Cd 84 cd_84 := cd_84_0_ok
def cd_85_0 : List (Nat × aa_Op) := [(0, aa_lda 0 1), (1, aa_gI 7 4 4), (4, aa_pu (.int 40) 6), (6, aa_icmp (fun x y => x < y) 12 9), (9, aa_pu (.int (-4)) 11), (11, aa_reti), (12, aa_lda 0 13), (13, aa_gR 7 5 16), (16, aa_lda 0 17), (17, aa_gI 7 4 20), (20, aa_ldi 1 21), (21, aa_as 100 (fun x => x) 22), (22, aa_lda 0 23), (23, aa_gR 7 6 26), (26, aa_lda 0 27), (27, aa_gI 7 4 30), (30, aa_ldi 2 31), (31, aa_as 100 (fun x => x) 32), (32, aa_lda 0 33), (33, aa_gR 7 7 36), (36, aa_lda 0 37), (37, aa_gI 7 4 40), (40, aa_ldi 3 41), (41, aa_as 100 (fun x => x) 42), (42, aa_lda 0 43), (43, aa_gR 7 8 46), (46, aa_lda 0 47), (47, aa_gI 7 4 50), (50, aa_ldi 4 52), (52, aa_as 100 (fun x => x) 53)]
theorem cd_85_0_ok : ab_Cd 85 cd_85_0 :=
  List.forall_mem_cons.mpr ⟨as_aload_n mk_85 (k := 0) (by decide +kernel) rfl rfl,
  List.forall_mem_cons.mpr ⟨as_gI mk_85 (ix := 61) (by decide +kernel) (fd_RX7_61 rfl) rfl,
  List.forall_mem_cons.mpr ⟨as_bipush mk_85 (n := 40) (by decide +kernel) (by decide +kernel) rfl,
  List.forall_mem_cons.mpr ⟨as_icmp_lt mk_85 (off := 6) (by decide +kernel) (by decide +kernel) rfl,
  List.forall_mem_cons.mpr ⟨as_bipush mk_85 (n := (-4)) (by decide +kernel) (by decide +kernel) rfl,
  List.forall_mem_cons.mpr ⟨as_iret mk_85 (by decide +kernel) rfl,
  List.forall_mem_cons.mpr ⟨as_aload_n mk_85 (k := 0) (by decide +kernel) rfl rfl,
  List.forall_mem_cons.mpr ⟨as_gR mk_85 (ix := 15) (by decide +kernel) (fd_RX7_15 rfl) rfl,
  List.forall_mem_cons.mpr ⟨as_aload_n mk_85 (k := 0) (by decide +kernel) rfl rfl,
  List.forall_mem_cons.mpr ⟨as_gI mk_85 (ix := 61) (by decide +kernel) (fd_RX7_61 rfl) rfl,
  List.forall_mem_cons.mpr ⟨as_iload_n mk_85 (k := 1) (by decide +kernel) rfl rfl,
  List.forall_mem_cons.mpr ⟨as_as mk_85 (Or.inl ⟨rfl, fun _ => rfl, by decide +kernel⟩) rfl,
  List.forall_mem_cons.mpr ⟨as_aload_n mk_85 (k := 0) (by decide +kernel) rfl rfl,
  List.forall_mem_cons.mpr ⟨as_gR mk_85 (ix := 18) (by decide +kernel) (fd_RX7_18 rfl) rfl,
  List.forall_mem_cons.mpr ⟨as_aload_n mk_85 (k := 0) (by decide +kernel) rfl rfl,
  List.forall_mem_cons.mpr ⟨as_gI mk_85 (ix := 61) (by decide +kernel) (fd_RX7_61 rfl) rfl,
  List.forall_mem_cons.mpr ⟨as_iload_n mk_85 (k := 2) (by decide +kernel) rfl rfl,
  List.forall_mem_cons.mpr ⟨as_as mk_85 (Or.inl ⟨rfl, fun _ => rfl, by decide +kernel⟩) rfl,
  List.forall_mem_cons.mpr ⟨as_aload_n mk_85 (k := 0) (by decide +kernel) rfl rfl,
  List.forall_mem_cons.mpr ⟨as_gR mk_85 (ix := 21) (by decide +kernel) (fd_RX7_21 rfl) rfl,
  List.forall_mem_cons.mpr ⟨as_aload_n mk_85 (k := 0) (by decide +kernel) rfl rfl,
  List.forall_mem_cons.mpr ⟨as_gI mk_85 (ix := 61) (by decide +kernel) (fd_RX7_61 rfl) rfl,
  List.forall_mem_cons.mpr ⟨as_iload_n mk_85 (k := 3) (by decide +kernel) rfl rfl,
  List.forall_mem_cons.mpr ⟨as_as mk_85 (Or.inl ⟨rfl, fun _ => rfl, by decide +kernel⟩) rfl,
  List.forall_mem_cons.mpr ⟨as_aload_n mk_85 (k := 0) (by decide +kernel) rfl rfl,
  List.forall_mem_cons.mpr ⟨as_gR mk_85 (ix := 24) (by decide +kernel) (fd_RX7_24 rfl) rfl,
  List.forall_mem_cons.mpr ⟨as_aload_n mk_85 (k := 0) (by decide +kernel) rfl rfl,
  List.forall_mem_cons.mpr ⟨as_gI mk_85 (ix := 61) (by decide +kernel) (fd_RX7_61 rfl) rfl,
  List.forall_mem_cons.mpr ⟨as_iload mk_85 (by decide +kernel) rfl,
  List.forall_mem_cons.mpr ⟨as_as mk_85 (Or.inl ⟨rfl, fun _ => rfl, by decide +kernel⟩) rfl,
  fun _ h => absurd h List.not_mem_nil⟩⟩⟩⟩⟩⟩⟩⟩⟩⟩⟩⟩⟩⟩⟩⟩⟩⟩⟩⟩⟩⟩⟩⟩⟩⟩⟩⟩⟩⟩
def cd_85_1 : List (Nat × aa_Op) := [(53, aa_lda 0 54), (54, aa_gR 7 9 57), (57, aa_lda 0 58), (58, aa_gI 7 4 61), (61, aa_ldi 5 63), (63, aa_as 100 (fun x => x) 64), (64, aa_lda 0 65), (65, aa_dup 66), (66, aa_gI 7 4 69), (69, aa_pu (.int 1) 70), (70, aa_bin (fun x y => x + y) 71), (71, aa_pI 7 4 74), (74, aa_lda 0 75), (75, aa_gI 7 4 78), (78, aa_reti)]
theorem cd_85_1_ok : ab_Cd 85 cd_85_1 :=
  List.forall_mem_cons.mpr ⟨as_aload_n mk_85 (k := 0) (by decide +kernel) rfl rfl,
  List.forall_mem_cons.mpr ⟨as_gR mk_85 (ix := 27) (by decide +kernel) (fd_RX7_27 rfl) rfl,
  List.forall_mem_cons.mpr ⟨as_aload_n mk_85 (k := 0) (by decide +kernel) rfl rfl,
  List.forall_mem_cons.mpr ⟨as_gI mk_85 (ix := 61) (by decide +kernel) (fd_RX7_61 rfl) rfl,
  List.forall_mem_cons.mpr ⟨as_iload mk_85 (by decide +kernel) rfl,
  List.forall_mem_cons.mpr ⟨as_as mk_85 (Or.inl ⟨rfl, fun _ => rfl, by decide +kernel⟩) rfl,
  List.forall_mem_cons.mpr ⟨as_aload_n mk_85 (k := 0) (by decide +kernel) rfl rfl,
  List.forall_mem_cons.mpr ⟨as_dup mk_85 (by decide +kernel) rfl,
  List.forall_mem_cons.mpr ⟨as_gI mk_85 (ix := 61) (by decide +kernel) (fd_RX7_61 rfl) rfl,
  List.forall_mem_cons.mpr ⟨as_iconst mk_85 (n := 1) (by decide +kernel) (by decide +kernel) rfl,
  List.forall_mem_cons.mpr ⟨as_iadd mk_85 (by decide +kernel) rfl,
  List.forall_mem_cons.mpr ⟨as_pI mk_85 (ix := 61) (by decide +kernel) (fd_RX7_61 rfl) pt_7_4 rfl,
  List.forall_mem_cons.mpr ⟨as_aload_n mk_85 (k := 0) (by decide +kernel) rfl rfl,
  List.forall_mem_cons.mpr ⟨as_gI mk_85 (ix := 61) (by decide +kernel) (fd_RX7_61 rfl) rfl,
  List.forall_mem_cons.mpr ⟨as_iret mk_85 (by decide +kernel) rfl,
  fun _ h => absurd h List.not_mem_nil⟩⟩⟩⟩⟩⟩⟩⟩⟩⟩⟩⟩⟩⟩⟩
def cd_85 : List (Nat × aa_Op) := cd_85_0 ++ (cd_85_1)
theorem cd_85_ok : ab_Cd 85 cd_85 := List.forall_mem_append.mpr ⟨cd_85_0_ok, cd_85_1_ok⟩
def cd_86_0 : List (Nat × aa_Op) := [(0, aa_lda 0 1), (1, aa_gI 7 10 4), (4, aa_pu (.int 24) 6), (6, aa_icmp (fun x y => x < y) 12 9), (9, aa_pu (.int (-4)) 11), (11, aa_reti), (12, aa_lda 0 13), (13, aa_gR 7 11 16), (16, aa_lda 0 17), (17, aa_gI 7 10 20), (20, aa_ldi 1 21), (21, aa_as 100 (fun x => x) 22), (22, aa_lda 0 23), (23, aa_gR 7 12 26), (26, aa_lda 0 27), (27, aa_gI 7 10 30), (30, aa_ldi 2 31), (31, aa_as 100 (fun x => x) 32), (32, aa_lda 0 33), (33, aa_gR 7 13 36), (36, aa_lda 0 37), (37, aa_gI 7 10 40), (40, aa_ldi 3 41), (41, aa_as 100 (fun x => x) 42), (42, aa_lda 0 43), (43, aa_gR 7 14 46), (46, aa_lda 0 47), (47, aa_gI 7 10 50), (50, aa_ldi 4 52), (52, aa_as 100 (fun x => x) 53)]
theorem cd_86_0_ok : ab_Cd 86 cd_86_0 :=
  List.forall_mem_cons.mpr ⟨as_aload_n mk_86 (k := 0) (by decide +kernel) rfl rfl,
  List.forall_mem_cons.mpr ⟨as_gI mk_86 (ix := 64) (by decide +kernel) (fd_RX7_64 rfl) rfl,
  List.forall_mem_cons.mpr ⟨as_bipush mk_86 (n := 24) (by decide +kernel) (by decide +kernel) rfl,
  List.forall_mem_cons.mpr ⟨as_icmp_lt mk_86 (off := 6) (by decide +kernel) (by decide +kernel) rfl,
  List.forall_mem_cons.mpr ⟨as_bipush mk_86 (n := (-4)) (by decide +kernel) (by decide +kernel) rfl,
  List.forall_mem_cons.mpr ⟨as_iret mk_86 (by decide +kernel) rfl,
  List.forall_mem_cons.mpr ⟨as_aload_n mk_86 (k := 0) (by decide +kernel) rfl rfl,
  List.forall_mem_cons.mpr ⟨as_gR mk_86 (ix := 30) (by decide +kernel) (fd_RX7_30 rfl) rfl,
  List.forall_mem_cons.mpr ⟨as_aload_n mk_86 (k := 0) (by decide +kernel) rfl rfl,
  List.forall_mem_cons.mpr ⟨as_gI mk_86 (ix := 64) (by decide +kernel) (fd_RX7_64 rfl) rfl,
  List.forall_mem_cons.mpr ⟨as_iload_n mk_86 (k := 1) (by decide +kernel) rfl rfl,
  List.forall_mem_cons.mpr ⟨as_as mk_86 (Or.inl ⟨rfl, fun _ => rfl, by decide +kernel⟩) rfl,
  List.forall_mem_cons.mpr ⟨as_aload_n mk_86 (k := 0) (by decide +kernel) rfl rfl,
  List.forall_mem_cons.mpr ⟨as_gR mk_86 (ix := 33) (by decide +kernel) (fd_RX7_33 rfl) rfl,
  List.forall_mem_cons.mpr ⟨as_aload_n mk_86 (k := 0) (by decide +kernel) rfl rfl,
  List.forall_mem_cons.mpr ⟨as_gI mk_86 (ix := 64) (by decide +kernel) (fd_RX7_64 rfl) rfl,
  List.forall_mem_cons.mpr ⟨as_iload_n mk_86 (k := 2) (by decide +kernel) rfl rfl,
  List.forall_mem_cons.mpr ⟨as_as mk_86 (Or.inl ⟨rfl, fun _ => rfl, by decide +kernel⟩) rfl,
  List.forall_mem_cons.mpr ⟨as_aload_n mk_86 (k := 0) (by decide +kernel) rfl rfl,
  List.forall_mem_cons.mpr ⟨as_gR mk_86 (ix := 36) (by decide +kernel) (fd_RX7_36 rfl) rfl,
  List.forall_mem_cons.mpr ⟨as_aload_n mk_86 (k := 0) (by decide +kernel) rfl rfl,
  List.forall_mem_cons.mpr ⟨as_gI mk_86 (ix := 64) (by decide +kernel) (fd_RX7_64 rfl) rfl,
  List.forall_mem_cons.mpr ⟨as_iload_n mk_86 (k := 3) (by decide +kernel) rfl rfl,
  List.forall_mem_cons.mpr ⟨as_as mk_86 (Or.inl ⟨rfl, fun _ => rfl, by decide +kernel⟩) rfl,
  List.forall_mem_cons.mpr ⟨as_aload_n mk_86 (k := 0) (by decide +kernel) rfl rfl,
  List.forall_mem_cons.mpr ⟨as_gR mk_86 (ix := 39) (by decide +kernel) (fd_RX7_39 rfl) rfl,
  List.forall_mem_cons.mpr ⟨as_aload_n mk_86 (k := 0) (by decide +kernel) rfl rfl,
  List.forall_mem_cons.mpr ⟨as_gI mk_86 (ix := 64) (by decide +kernel) (fd_RX7_64 rfl) rfl,
  List.forall_mem_cons.mpr ⟨as_iload mk_86 (by decide +kernel) rfl,
  List.forall_mem_cons.mpr ⟨as_as mk_86 (Or.inl ⟨rfl, fun _ => rfl, by decide +kernel⟩) rfl,
  fun _ h => absurd h List.not_mem_nil⟩⟩⟩⟩⟩⟩⟩⟩⟩⟩⟩⟩⟩⟩⟩⟩⟩⟩⟩⟩⟩⟩⟩⟩⟩⟩⟩⟩⟩⟩
def cd_86_1 : List (Nat × aa_Op) := [(53, aa_lda 0 54), (54, aa_gR 7 15 57), (57, aa_lda 0 58), (58, aa_gI 7 10 61), (61, aa_ldi 5 63), (63, aa_as 100 (fun x => x) 64), (64, aa_lda 0 65), (65, aa_dup 66), (66, aa_gI 7 10 69), (69, aa_pu (.int 1) 70), (70, aa_bin (fun x y => x + y) 71), (71, aa_pI 7 10 74), (74, aa_lda 0 75), (75, aa_gI 7 10 78), (78, aa_pu (.int 1) 79), (79, aa_bin (fun x y => x - y) 80), (80, aa_reti)]
theorem cd_86_1_ok : ab_Cd 86 cd_86_1 :=
  List.forall_mem_cons.mpr ⟨as_aload_n mk_86 (k := 0) (by decide +kernel) rfl rfl,
  List.forall_mem_cons.mpr ⟨as_gR mk_86 (ix := 42) (by decide +kernel) (fd_RX7_42 rfl) rfl,
  List.forall_mem_cons.mpr ⟨as_aload_n mk_86 (k := 0) (by decide +kernel) rfl rfl,
  List.forall_mem_cons.mpr ⟨as_gI mk_86 (ix := 64) (by decide +kernel) (fd_RX7_64 rfl) rfl,
  List.forall_mem_cons.mpr ⟨as_iload mk_86 (by decide +kernel) rfl,
  List.forall_mem_cons.mpr ⟨as_as mk_86 (Or.inl ⟨rfl, fun _ => rfl, by decide +kernel⟩) rfl,
  List.forall_mem_cons.mpr ⟨as_aload_n mk_86 (k := 0) (by decide +kernel) rfl rfl,
  List.forall_mem_cons.mpr ⟨as_dup mk_86 (by decide +kernel) rfl,
  List.forall_mem_cons.mpr ⟨as_gI mk_86 (ix := 64) (by decide +kernel) (fd_RX7_64 rfl) rfl,
  List.forall_mem_cons.mpr ⟨as_iconst mk_86 (n := 1) (by decide +kernel) (by decide +kernel) rfl,
  List.forall_mem_cons.mpr ⟨as_iadd mk_86 (by decide +kernel) rfl,
  List.forall_mem_cons.mpr ⟨as_pI mk_86 (ix := 64) (by decide +kernel) (fd_RX7_64 rfl) pt_7_10 rfl,
  List.forall_mem_cons.mpr ⟨as_aload_n mk_86 (k := 0) (by decide +kernel) rfl rfl,
  List.forall_mem_cons.mpr ⟨as_gI mk_86 (ix := 64) (by decide +kernel) (fd_RX7_64 rfl) rfl,
  List.forall_mem_cons.mpr ⟨as_iconst mk_86 (n := 1) (by decide +kernel) (by decide +kernel) rfl,
  List.forall_mem_cons.mpr ⟨as_isub mk_86 (by decide +kernel) rfl,
  List.forall_mem_cons.mpr ⟨as_iret mk_86 (by decide +kernel) rfl,
  fun _ h => absurd h List.not_mem_nil⟩⟩⟩⟩⟩⟩⟩⟩⟩⟩⟩⟩⟩⟩⟩⟩⟩
def cd_86 : List (Nat × aa_Op) := cd_86_0 ++ (cd_86_1)
theorem cd_86_ok : ab_Cd 86 cd_86 := List.forall_mem_append.mpr ⟨cd_86_0_ok, cd_86_1_ok⟩
def cd_87_0 : List (Nat × aa_Op) := [(0, aa_lda 0 1), (1, aa_gR 7 0 4), (4, aa_lda 0 5), (5, aa_gR 7 3 8), (8, aa_ldi 1 9), (9, aa_al 100 10), (10, aa_ldi 2 11), (11, aa_ldi 4 13), (13, aa_ldi 3 14), (14, aa_ccv 52 4 6 4 aa_kI 17), (17, aa_if (fun x => x = 0) 20 22), (20, aa_pu (.int 0) 21), (21, aa_retz), (22, aa_pu (.int 0) 23), (23, aa_sti 6 25), (25, aa_ldi 6 27), (27, aa_lda 0 28), (28, aa_gI 7 4 31), (31, aa_icmp (fun x y => x < y) 34 124), (34, aa_lda 0 35), (35, aa_gR 7 5 38), (38, aa_ldi 6 40), (40, aa_al 100 41), (41, aa_ldi 1 42), (42, aa_icmp (fun x y => x = y) 45 72), (45, aa_lda 0 46), (46, aa_gR 7 7 49), (49, aa_ldi 6 51), (51, aa_al 100 52), (52, aa_ldi 3 53)]
theorem cd_87_0_ok : ab_Cd 87 cd_87_0 :=
  List.forall_mem_cons.mpr ⟨as_aload_n mk_87 (k := 0) (by decide +kernel) rfl rfl,
  List.forall_mem_cons.mpr ⟨as_gR mk_87 (ix := 45) (by decide +kernel) (fd_RX7_45 rfl) rfl,
  List.forall_mem_cons.mpr ⟨as_aload_n mk_87 (k := 0) (by decide +kernel) rfl rfl,
  List.forall_mem_cons.mpr ⟨as_gR mk_87 (ix := 9) (by decide +kernel) (fd_RX7_9 rfl) rfl,
  List.forall_mem_cons.mpr ⟨as_iload_n mk_87 (k := 1) (by decide +kernel) rfl rfl,
  List.forall_mem_cons.mpr ⟨as_al mk_87 (Or.inl ⟨rfl, by decide +kernel⟩) rfl,
  List.forall_mem_cons.mpr ⟨as_iload_n mk_87 (k := 2) (by decide +kernel) rfl rfl,
  List.forall_mem_cons.mpr ⟨as_iload mk_87 (by decide +kernel) rfl,
  List.forall_mem_cons.mpr ⟨as_iload_n mk_87 (k := 3) (by decide +kernel) rfl rfl,
  List.forall_mem_cons.mpr ⟨as_ccv mk_87 (ix := 67) aa_kI_ok (by decide +kernel) (cx_RX7_67 rfl) rfl,
  List.forall_mem_cons.mpr ⟨as_if_ne mk_87 (off := 5) (by decide +kernel) (by decide +kernel) rfl,
  List.forall_mem_cons.mpr ⟨as_iconst mk_87 (n := 0) (by decide +kernel) (by decide +kernel) rfl,
  List.forall_mem_cons.mpr ⟨as_zret mk_87 (by decide +kernel) rfl,
  List.forall_mem_cons.mpr ⟨as_iconst mk_87 (n := 0) (by decide +kernel) (by decide +kernel) rfl,
  List.forall_mem_cons.mpr ⟨as_istore mk_87 (by decide +kernel) (by decide) rfl,
  List.forall_mem_cons.mpr ⟨as_iload mk_87 (by decide +kernel) rfl,
  List.forall_mem_cons.mpr ⟨as_aload_n mk_87 (k := 0) (by decide +kernel) rfl rfl,
  List.forall_mem_cons.mpr ⟨as_gI mk_87 (ix := 61) (by decide +kernel) (fd_RX7_61 rfl) rfl,
  List.forall_mem_cons.mpr ⟨as_icmp_ge mk_87 (off := 93) (by decide +kernel) (by decide +kernel) rfl,
  List.forall_mem_cons.mpr ⟨as_aload_n mk_87 (k := 0) (by decide +kernel) rfl rfl,
  List.forall_mem_cons.mpr ⟨as_gR mk_87 (ix := 15) (by decide +kernel) (fd_RX7_15 rfl) rfl,
  List.forall_mem_cons.mpr ⟨as_iload mk_87 (by decide +kernel) rfl,
  List.forall_mem_cons.mpr ⟨as_al mk_87 (Or.inl ⟨rfl, by decide +kernel⟩) rfl,
  List.forall_mem_cons.mpr ⟨as_iload_n mk_87 (k := 1) (by decide +kernel) rfl rfl,
  List.forall_mem_cons.mpr ⟨as_icmp_ne mk_87 (off := 30) (by decide +kernel) (by decide +kernel) rfl,
  List.forall_mem_cons.mpr ⟨as_aload_n mk_87 (k := 0) (by decide +kernel) rfl rfl,
  List.forall_mem_cons.mpr ⟨as_gR mk_87 (ix := 21) (by decide +kernel) (fd_RX7_21 rfl) rfl,
  List.forall_mem_cons.mpr ⟨as_iload mk_87 (by decide +kernel) rfl,
  List.forall_mem_cons.mpr ⟨as_al mk_87 (Or.inl ⟨rfl, by decide +kernel⟩) rfl,
  List.forall_mem_cons.mpr ⟨as_iload_n mk_87 (k := 3) (by decide +kernel) rfl rfl,
  fun _ h => absurd h List.not_mem_nil⟩⟩⟩⟩⟩⟩⟩⟩⟩⟩⟩⟩⟩⟩⟩⟩⟩⟩⟩⟩⟩⟩⟩⟩⟩⟩⟩⟩⟩⟩
def cd_87_1 : List (Nat × aa_Op) := [(53, aa_icmp (fun x y => x = y) 56 72), (56, aa_lda 0 57), (57, aa_gR 7 9 60), (60, aa_ldi 6 62), (62, aa_al 100 63), (63, aa_ldi 5 65), (65, aa_icmp (fun x y => y < x) 72 68), (68, aa_pu (.int 1) 69), (69, aa_go 73), (72, aa_pu (.int 0) 73), (73, aa_sti 7 75), (75, aa_ldi 4 77), (77, aa_lda 0 78), (78, aa_gR 7 8 81), (81, aa_ldi 6 83), (83, aa_al 100 84), (84, aa_bin (fun x y => x - y) 85), (85, aa_ma (fun x => if 0 ≤ x then x else 0 - x) 88), (88, aa_sti 8 90), (90, aa_ldi 7 92), (92, aa_if (fun x => x = 0) 118 95), (95, aa_lda 0 96), (96, aa_gR 7 0 99), (99, aa_lda 0 100), (100, aa_gR 7 6 103), (103, aa_ldi 6 105), (105, aa_al 100 106), (106, aa_ldi 2 107), (107, aa_ldi 8 109), (109, aa_ldi 3 110)]
theorem cd_87_1_ok : ab_Cd 87 cd_87_1 :=
  List.forall_mem_cons.mpr ⟨as_icmp_ne mk_87 (off := 19) (by decide +kernel) (by decide +kernel) rfl,
  List.forall_mem_cons.mpr ⟨as_aload_n mk_87 (k := 0) (by decide +kernel) rfl rfl,
  List.forall_mem_cons.mpr ⟨as_gR mk_87 (ix := 27) (by decide +kernel) (fd_RX7_27 rfl) rfl,
  List.forall_mem_cons.mpr ⟨as_iload mk_87 (by decide +kernel) rfl,
  List.forall_mem_cons.mpr ⟨as_al mk_87 (Or.inl ⟨rfl, by decide +kernel⟩) rfl,
  List.forall_mem_cons.mpr ⟨as_iload mk_87 (by decide +kernel) rfl,
  List.forall_mem_cons.mpr ⟨as_icmp_gt mk_87 (off := 7) (by decide +kernel) (by decide +kernel) rfl,
  List.forall_mem_cons.mpr ⟨as_iconst mk_87 (n := 1) (by decide +kernel) (by decide +kernel) rfl,
  List.forall_mem_cons.mpr ⟨as_goto mk_87 (off := 4) (by decide +kernel) (by decide +kernel),
  List.forall_mem_cons.mpr ⟨as_iconst mk_87 (n := 0) (by decide +kernel) (by decide +kernel) rfl,
  List.forall_mem_cons.mpr ⟨as_istore mk_87 (by decide +kernel) (by decide) rfl,
  List.forall_mem_cons.mpr ⟨as_iload mk_87 (by decide +kernel) rfl,
  List.forall_mem_cons.mpr ⟨as_aload_n mk_87 (k := 0) (by decide +kernel) rfl rfl,
  List.forall_mem_cons.mpr ⟨as_gR mk_87 (ix := 24) (by decide +kernel) (fd_RX7_24 rfl) rfl,
  List.forall_mem_cons.mpr ⟨as_iload mk_87 (by decide +kernel) rfl,
  List.forall_mem_cons.mpr ⟨as_al mk_87 (Or.inl ⟨rfl, by decide +kernel⟩) rfl,
  List.forall_mem_cons.mpr ⟨as_isub mk_87 (by decide +kernel) rfl,
  List.forall_mem_cons.mpr ⟨as_mabs mk_87 (ix := 73) (by decide +kernel) mw_RX7_73 rfl,
  List.forall_mem_cons.mpr ⟨as_istore mk_87 (by decide +kernel) (by decide) rfl,
  List.forall_mem_cons.mpr ⟨as_iload mk_87 (by decide +kernel) rfl,
  List.forall_mem_cons.mpr ⟨as_if_eq mk_87 (off := 26) (by decide +kernel) (by decide +kernel) rfl,
  List.forall_mem_cons.mpr ⟨as_aload_n mk_87 (k := 0) (by decide +kernel) rfl rfl,
  List.forall_mem_cons.mpr ⟨as_gR mk_87 (ix := 45) (by decide +kernel) (fd_RX7_45 rfl) rfl,
  List.forall_mem_cons.mpr ⟨as_aload_n mk_87 (k := 0) (by decide +kernel) rfl rfl,
  List.forall_mem_cons.mpr ⟨as_gR mk_87 (ix := 18) (by decide +kernel) (fd_RX7_18 rfl) rfl,
  List.forall_mem_cons.mpr ⟨as_iload mk_87 (by decide +kernel) rfl,
  List.forall_mem_cons.mpr ⟨as_al mk_87 (Or.inl ⟨rfl, by decide +kernel⟩) rfl,
  List.forall_mem_cons.mpr ⟨as_iload_n mk_87 (k := 2) (by decide +kernel) rfl rfl,
  List.forall_mem_cons.mpr ⟨as_iload mk_87 (by decide +kernel) rfl,
  List.forall_mem_cons.mpr ⟨as_iload_n mk_87 (k := 3) (by decide +kernel) rfl rfl,
  fun _ h => absurd h List.not_mem_nil⟩⟩⟩⟩⟩⟩⟩⟩⟩⟩⟩⟩⟩⟩⟩⟩⟩⟩⟩⟩⟩⟩⟩⟩⟩⟩⟩⟩⟩⟩
def cd_87_2 : List (Nat × aa_Op) := [(110, aa_ccv 52 4 6 4 aa_kI 113), (113, aa_if (fun x => x = 0) 116 118), (116, aa_pu (.int 0) 117), (117, aa_retz), (118, aa_inc 6 1 121), (121, aa_go 25), (124, aa_pu (.int 1) 125), (125, aa_retz)]
theorem cd_87_2_ok : ab_Cd 87 cd_87_2 :=
  List.forall_mem_cons.mpr ⟨as_ccv mk_87 (ix := 67) aa_kI_ok (by decide +kernel) (cx_RX7_67 rfl) rfl,
  List.forall_mem_cons.mpr ⟨as_if_ne mk_87 (off := 5) (by decide +kernel) (by decide +kernel) rfl,
  List.forall_mem_cons.mpr ⟨as_iconst mk_87 (n := 0) (by decide +kernel) (by decide +kernel) rfl,
  List.forall_mem_cons.mpr ⟨as_zret mk_87 (by decide +kernel) rfl,
  List.forall_mem_cons.mpr ⟨as_iinc mk_87 (n := 1) (by decide +kernel) (by decide +kernel) (by decide) rfl,
  List.forall_mem_cons.mpr ⟨as_goto mk_87 (off := (-96)) (by decide +kernel) (by decide +kernel),
  List.forall_mem_cons.mpr ⟨as_iconst mk_87 (n := 1) (by decide +kernel) (by decide +kernel) rfl,
  List.forall_mem_cons.mpr ⟨as_zret mk_87 (by decide +kernel) rfl,
  fun _ h => absurd h List.not_mem_nil⟩⟩⟩⟩⟩⟩⟩⟩
def cd_87 : List (Nat × aa_Op) := cd_87_0 ++ (cd_87_1 ++ (cd_87_2))
theorem cd_87_ok : ab_Cd 87 cd_87 := List.forall_mem_append.mpr ⟨cd_87_0_ok, List.forall_mem_append.mpr ⟨cd_87_1_ok, cd_87_2_ok⟩⟩
def cd_88_0 : List (Nat × aa_Op) := [(0, aa_lda 0 1), (1, aa_ldi 1 2), (2, aa_lda 0 3), (3, aa_gR 7 1 6), (6, aa_ldi 2 7), (7, aa_ccv 21 1 2 2 aa_kI 10), (10, aa_lda 0 11), (11, aa_gR 7 1 14), (14, aa_ldi 2 15), (15, aa_ccv 22 1 2 2 aa_kI 18), (18, aa_lda 0 19), (19, aa_gR 7 1 22), (22, aa_ldi 2 23), (23, aa_ccv 23 1 2 2 aa_kI 26), (26, aa_ldi 3 27), (27, aa_ccv 87 5 9 7 aa_kI 30), (30, aa_retz)]
theorem cd_88_0_ok : ab_Cd 88 cd_88_0 :=
  List.forall_mem_cons.mpr ⟨as_aload_n mk_88 (k := 0) (by decide +kernel) rfl rfl,
  List.forall_mem_cons.mpr ⟨as_iload_n mk_88 (k := 1) (by decide +kernel) rfl rfl,
  List.forall_mem_cons.mpr ⟨as_aload_n mk_88 (k := 0) (by decide +kernel) rfl rfl,
  List.forall_mem_cons.mpr ⟨as_gR mk_88 (ix := 49) (by decide +kernel) (fd_RX7_49 rfl) rfl,
  List.forall_mem_cons.mpr ⟨as_iload_n mk_88 (k := 2) (by decide +kernel) rfl rfl,
  List.forall_mem_cons.mpr ⟨as_ccv mk_88 (ix := 79) aa_kI_ok (by decide +kernel) (cx_RX7_79 rfl) rfl,
  List.forall_mem_cons.mpr ⟨as_aload_n mk_88 (k := 0) (by decide +kernel) rfl rfl,
  List.forall_mem_cons.mpr ⟨as_gR mk_88 (ix := 49) (by decide +kernel) (fd_RX7_49 rfl) rfl,
  List.forall_mem_cons.mpr ⟨as_iload_n mk_88 (k := 2) (by decide +kernel) rfl rfl,
  List.forall_mem_cons.mpr ⟨as_ccv mk_88 (ix := 84) aa_kI_ok (by decide +kernel) (cx_RX7_84 rfl) rfl,
  List.forall_mem_cons.mpr ⟨as_aload_n mk_88 (k := 0) (by decide +kernel) rfl rfl,
  List.forall_mem_cons.mpr ⟨as_gR mk_88 (ix := 49) (by decide +kernel) (fd_RX7_49 rfl) rfl,
  List.forall_mem_cons.mpr ⟨as_iload_n mk_88 (k := 2) (by decide +kernel) rfl rfl,
  List.forall_mem_cons.mpr ⟨as_ccv mk_88 (ix := 87) aa_kI_ok (by decide +kernel) (cx_RX7_87 rfl) rfl,
  List.forall_mem_cons.mpr ⟨as_iload_n mk_88 (k := 3) (by decide +kernel) rfl rfl,
  List.forall_mem_cons.mpr ⟨as_ccv mk_88 (ix := 90) aa_kI_ok (by decide +kernel) (cx_RX7_90 rfl) rfl,
  List.forall_mem_cons.mpr ⟨as_zret mk_88 (by decide +kernel) rfl,
  fun _ h => absurd h List.not_mem_nil⟩⟩⟩⟩⟩⟩⟩⟩⟩⟩⟩⟩⟩⟩⟩⟩⟩
def cd_88 : List (Nat × aa_Op) := cd_88_0
theorem cd_88_ok : ab_Cd 88 cd_88 := cd_88_0_ok
def cd_89_0 : List (Nat × aa_Op) := [(0, aa_pu (.int 0) 1), (1, aa_sti 3 2), (2, aa_pu (.int 0) 3), (3, aa_sti 4 5), (5, aa_ldi 4 7), (7, aa_lda 0 8), (8, aa_gI 7 2 11), (11, aa_icmp (fun x y => x < y) 14 38), (14, aa_lda 0 15), (15, aa_ldi 4 17), (17, aa_ldi 1 18), (18, aa_ldi 2 19), (19, aa_ccv 88 3 4 7 aa_kI 22), (22, aa_if (fun x => x = 0) 32 25), (25, aa_ldi 3 26), (26, aa_pu (.int 1) 27), (27, aa_ldi 4 29), (29, aa_bin (fun x y => x <<< (y &&& 31)) 30), (30, aa_bin (fun x y => x ||| y) 31), (31, aa_sti 3 32), (32, aa_inc 4 1 35), (35, aa_go 5), (38, aa_ldi 3 39), (39, aa_reti)]
theorem cd_89_0_ok : ab_Cd 89 cd_89_0 :=
  List.forall_mem_cons.mpr ⟨as_iconst mk_89 (n := 0) (by decide +kernel) (by decide +kernel) rfl,
  List.forall_mem_cons.mpr ⟨as_istore_n mk_89 (k := 3) (by decide +kernel) rfl (by decide) rfl,
  List.forall_mem_cons.mpr ⟨as_iconst mk_89 (n := 0) (by decide +kernel) (by decide +kernel) rfl,
  List.forall_mem_cons.mpr ⟨as_istore mk_89 (by decide +kernel) (by decide) rfl,
  List.forall_mem_cons.mpr ⟨as_iload mk_89 (by decide +kernel) rfl,
  List.forall_mem_cons.mpr ⟨as_aload_n mk_89 (k := 0) (by decide +kernel) rfl rfl,
  List.forall_mem_cons.mpr ⟨as_gI mk_89 (ix := 53) (by decide +kernel) (fd_RX7_53 rfl) rfl,
  List.forall_mem_cons.mpr ⟨as_icmp_ge mk_89 (off := 27) (by decide +kernel) (by decide +kernel) rfl,
  List.forall_mem_cons.mpr ⟨as_aload_n mk_89 (k := 0) (by decide +kernel) rfl rfl,
  List.forall_mem_cons.mpr ⟨as_iload mk_89 (by decide +kernel) rfl,
  List.forall_mem_cons.mpr ⟨as_iload_n mk_89 (k := 1) (by decide +kernel) rfl rfl,
  List.forall_mem_cons.mpr ⟨as_iload_n mk_89 (k := 2) (by decide +kernel) rfl rfl,
  List.forall_mem_cons.mpr ⟨as_ccv mk_89 (ix := 94) aa_kI_ok (by decide +kernel) (cx_RX7_94 rfl) rfl,
  List.forall_mem_cons.mpr ⟨as_if_eq mk_89 (off := 10) (by decide +kernel) (by decide +kernel) rfl,
  List.forall_mem_cons.mpr ⟨as_iload_n mk_89 (k := 3) (by decide +kernel) rfl rfl,
  List.forall_mem_cons.mpr ⟨as_iconst mk_89 (n := 1) (by decide +kernel) (by decide +kernel) rfl,
  List.forall_mem_cons.mpr ⟨as_iload mk_89 (by decide +kernel) rfl,
  List.forall_mem_cons.mpr ⟨as_ishl mk_89 (by decide +kernel) rfl,
  List.forall_mem_cons.mpr ⟨as_ior mk_89 (by decide +kernel) rfl,
  List.forall_mem_cons.mpr ⟨as_istore_n mk_89 (k := 3) (by decide +kernel) rfl (by decide) rfl,
  List.forall_mem_cons.mpr ⟨as_iinc mk_89 (n := 1) (by decide +kernel) (by decide +kernel) (by decide) rfl,
  List.forall_mem_cons.mpr ⟨as_goto mk_89 (off := (-30)) (by decide +kernel) (by decide +kernel),
  List.forall_mem_cons.mpr ⟨as_iload_n mk_89 (k := 3) (by decide +kernel) rfl rfl,
  List.forall_mem_cons.mpr ⟨as_iret mk_89 (by decide +kernel) rfl,
  fun _ h => absurd h List.not_mem_nil⟩⟩⟩⟩⟩⟩⟩⟩⟩⟩⟩⟩⟩⟩⟩⟩⟩⟩⟩⟩⟩⟩⟩⟩
def cd_89 : List (Nat × aa_Op) := cd_89_0
theorem cd_89_ok : ab_Cd 89 cd_89 := cd_89_0_ok
def cd_90_0 : List (Nat × aa_Op) := [(0, aa_pu (.int 0) 1), (1, aa_sti 2 2), (2, aa_pu (.int 0) 3), (3, aa_sti 3 4), (4, aa_ldi 3 5), (5, aa_lda 0 6), (6, aa_gI 7 10 9), (9, aa_icmp (fun x y => x < y) 12 54), (12, aa_lda 0 13), (13, aa_gR 7 15 16), (16, aa_ldi 3 17), (17, aa_al 100 18), (18, aa_ldi 1 19), (19, aa_icmp (fun x y => y < x) 48 22), (22, aa_lda 0 23), (23, aa_lda 0 24), (24, aa_gR 7 12 27), (27, aa_ldi 3 28), (28, aa_al 100 29), (29, aa_lda 0 30), (30, aa_gR 7 13 33), (33, aa_ldi 3 34), (34, aa_al 100 35), (35, aa_ldi 1 36), (36, aa_ccv 88 3 4 7 aa_kI 39), (39, aa_if (fun x => x = 0) 42 48), (42, aa_ldi 2 43), (43, aa_pu (.int 1) 44), (44, aa_ldi 3 45), (45, aa_bin (fun x y => x <<< (y &&& 31)) 46)]
theorem cd_90_0_ok : ab_Cd 90 cd_90_0 :=
  List.forall_mem_cons.mpr ⟨as_iconst mk_90 (n := 0) (by decide +kernel) (by decide +kernel) rfl,
  List.forall_mem_cons.mpr ⟨as_istore_n mk_90 (k := 2) (by decide +kernel) rfl (by decide) rfl,
  List.forall_mem_cons.mpr ⟨as_iconst mk_90 (n := 0) (by decide +kernel) (by decide +kernel) rfl,
  List.forall_mem_cons.mpr ⟨as_istore_n mk_90 (k := 3) (by decide +kernel) rfl (by decide) rfl,
  List.forall_mem_cons.mpr ⟨as_iload_n mk_90 (k := 3) (by decide +kernel) rfl rfl,
  List.forall_mem_cons.mpr ⟨as_aload_n mk_90 (k := 0) (by decide +kernel) rfl rfl,
  List.forall_mem_cons.mpr ⟨as_gI mk_90 (ix := 64) (by decide +kernel) (fd_RX7_64 rfl) rfl,
  List.forall_mem_cons.mpr ⟨as_icmp_ge mk_90 (off := 45) (by decide +kernel) (by decide +kernel) rfl,
  List.forall_mem_cons.mpr ⟨as_aload_n mk_90 (k := 0) (by decide +kernel) rfl rfl,
  List.forall_mem_cons.mpr ⟨as_gR mk_90 (ix := 42) (by decide +kernel) (fd_RX7_42 rfl) rfl,
  List.forall_mem_cons.mpr ⟨as_iload_n mk_90 (k := 3) (by decide +kernel) rfl rfl,
  List.forall_mem_cons.mpr ⟨as_al mk_90 (Or.inl ⟨rfl, by decide +kernel⟩) rfl,
  List.forall_mem_cons.mpr ⟨as_iload_n mk_90 (k := 1) (by decide +kernel) rfl rfl,
  List.forall_mem_cons.mpr ⟨as_icmp_gt mk_90 (off := 29) (by decide +kernel) (by decide +kernel) rfl,
  List.forall_mem_cons.mpr ⟨as_aload_n mk_90 (k := 0) (by decide +kernel) rfl rfl,
  List.forall_mem_cons.mpr ⟨as_aload_n mk_90 (k := 0) (by decide +kernel) rfl rfl,
  List.forall_mem_cons.mpr ⟨as_gR mk_90 (ix := 33) (by decide +kernel) (fd_RX7_33 rfl) rfl,
  List.forall_mem_cons.mpr ⟨as_iload_n mk_90 (k := 3) (by decide +kernel) rfl rfl,
  List.forall_mem_cons.mpr ⟨as_al mk_90 (Or.inl ⟨rfl, by decide +kernel⟩) rfl,
  List.forall_mem_cons.mpr ⟨as_aload_n mk_90 (k := 0) (by decide +kernel) rfl rfl,
  List.forall_mem_cons.mpr ⟨as_gR mk_90 (ix := 36) (by decide +kernel) (fd_RX7_36 rfl) rfl,
  List.forall_mem_cons.mpr ⟨as_iload_n mk_90 (k := 3) (by decide +kernel) rfl rfl,
  List.forall_mem_cons.mpr ⟨as_al mk_90 (Or.inl ⟨rfl, by decide +kernel⟩) rfl,
  List.forall_mem_cons.mpr ⟨as_iload_n mk_90 (k := 1) (by decide +kernel) rfl rfl,
  List.forall_mem_cons.mpr ⟨as_ccv mk_90 (ix := 94) aa_kI_ok (by decide +kernel) (cx_RX7_94 rfl) rfl,
  List.forall_mem_cons.mpr ⟨as_if_ne mk_90 (off := 9) (by decide +kernel) (by decide +kernel) rfl,
  List.forall_mem_cons.mpr ⟨as_iload_n mk_90 (k := 2) (by decide +kernel) rfl rfl,
  List.forall_mem_cons.mpr ⟨as_iconst mk_90 (n := 1) (by decide +kernel) (by decide +kernel) rfl,
  List.forall_mem_cons.mpr ⟨as_iload_n mk_90 (k := 3) (by decide +kernel) rfl rfl,
  List.forall_mem_cons.mpr ⟨as_ishl mk_90 (by decide +kernel) rfl,
  fun _ h => absurd h List.not_mem_nil⟩⟩⟩⟩⟩⟩⟩⟩⟩⟩⟩⟩⟩⟩⟩⟩⟩⟩⟩⟩⟩⟩⟩⟩⟩⟩⟩⟩⟩⟩
def cd_90_1 : List (Nat × aa_Op) := [(46, aa_bin (fun x y => x ||| y) 47), (47, aa_sti 2 48), (48, aa_inc 3 1 51), (51, aa_go 4), (54, aa_ldi 2 55), (55, aa_reti)]
theorem cd_90_1_ok : ab_Cd 90 cd_90_1 :=
  List.forall_mem_cons.mpr ⟨as_ior mk_90 (by decide +kernel) rfl,
  List.forall_mem_cons.mpr ⟨as_istore_n mk_90 (k := 2) (by decide +kernel) rfl (by decide) rfl,
  List.forall_mem_cons.mpr ⟨as_iinc mk_90 (n := 1) (by decide +kernel) (by decide +kernel) (by decide) rfl,
  List.forall_mem_cons.mpr ⟨as_goto mk_90 (off := (-47)) (by decide +kernel) (by decide +kernel),
  List.forall_mem_cons.mpr ⟨as_iload_n mk_90 (k := 2) (by decide +kernel) rfl rfl,
  List.forall_mem_cons.mpr ⟨as_iret mk_90 (by decide +kernel) rfl,
  fun _ h => absurd h List.not_mem_nil⟩⟩⟩⟩⟩⟩
def cd_90 : List (Nat × aa_Op) := cd_90_0 ++ (cd_90_1)
theorem cd_90_ok : ab_Cd 90 cd_90 := List.forall_mem_append.mpr ⟨cd_90_0_ok, cd_90_1_ok⟩
def cd_91_0 : List (Nat × aa_Op) := [(0, aa_pu (.int 0) 1), (1, aa_sti 3 2), (2, aa_pu (.int 0) 3), (3, aa_sti 4 5), (5, aa_ldi 4 7), (7, aa_lda 0 8), (8, aa_gI 7 10 11), (11, aa_icmp (fun x y => x < y) 14 49), (14, aa_lda 0 15), (15, aa_gR 7 15 18), (18, aa_ldi 4 20), (20, aa_al 100 21), (21, aa_ldi 2 22), (22, aa_icmp (fun x y => y < x) 43 25), (25, aa_lda 0 26), (26, aa_gR 7 11 29), (29, aa_ldi 4 31), (31, aa_al 100 32), (32, aa_ldi 1 33), (33, aa_icmp (fun x y => x = y) 36 43), (36, aa_ldi 3 37), (37, aa_pu (.int 1) 38), (38, aa_ldi 4 40), (40, aa_bin (fun x y => x <<< (y &&& 31)) 41), (41, aa_bin (fun x y => x ||| y) 42), (42, aa_sti 3 43), (43, aa_inc 4 1 46), (46, aa_go 5), (49, aa_ldi 3 50), (50, aa_reti)]
theorem cd_91_0_ok : ab_Cd 91 cd_91_0 :=
  List.forall_mem_cons.mpr ⟨as_iconst mk_91 (n := 0) (by decide +kernel) (by decide +kernel) rfl,
  List.forall_mem_cons.mpr ⟨as_istore_n mk_91 (k := 3) (by decide +kernel) rfl (by decide) rfl,
  List.forall_mem_cons.mpr ⟨as_iconst mk_91 (n := 0) (by decide +kernel) (by decide +kernel) rfl,
  List.forall_mem_cons.mpr ⟨as_istore mk_91 (by decide +kernel) (by decide) rfl,
  List.forall_mem_cons.mpr ⟨as_iload mk_91 (by decide +kernel) rfl,
  List.forall_mem_cons.mpr ⟨as_aload_n mk_91 (k := 0) (by decide +kernel) rfl rfl,
  List.forall_mem_cons.mpr ⟨as_gI mk_91 (ix := 64) (by decide +kernel) (fd_RX7_64 rfl) rfl,
  List.forall_mem_cons.mpr ⟨as_icmp_ge mk_91 (off := 38) (by decide +kernel) (by decide +kernel) rfl,
  List.forall_mem_cons.mpr ⟨as_aload_n mk_91 (k := 0) (by decide +kernel) rfl rfl,
  List.forall_mem_cons.mpr ⟨as_gR mk_91 (ix := 42) (by decide +kernel) (fd_RX7_42 rfl) rfl,
  List.forall_mem_cons.mpr ⟨as_iload mk_91 (by decide +kernel) rfl,
  List.forall_mem_cons.mpr ⟨as_al mk_91 (Or.inl ⟨rfl, by decide +kernel⟩) rfl,
  List.forall_mem_cons.mpr ⟨as_iload_n mk_91 (k := 2) (by decide +kernel) rfl rfl,
  List.forall_mem_cons.mpr ⟨as_icmp_gt mk_91 (off := 21) (by decide +kernel) (by decide +kernel) rfl,
  List.forall_mem_cons.mpr ⟨as_aload_n mk_91 (k := 0) (by decide +kernel) rfl rfl,
  List.forall_mem_cons.mpr ⟨as_gR mk_91 (ix := 30) (by decide +kernel) (fd_RX7_30 rfl) rfl,
  List.forall_mem_cons.mpr ⟨as_iload mk_91 (by decide +kernel) rfl,
  List.forall_mem_cons.mpr ⟨as_al mk_91 (Or.inl ⟨rfl, by decide +kernel⟩) rfl,
  List.forall_mem_cons.mpr ⟨as_iload_n mk_91 (k := 1) (by decide +kernel) rfl rfl,
  List.forall_mem_cons.mpr ⟨as_icmp_ne mk_91 (off := 10) (by decide +kernel) (by decide +kernel) rfl,
  List.forall_mem_cons.mpr ⟨as_iload_n mk_91 (k := 3) (by decide +kernel) rfl rfl,
  List.forall_mem_cons.mpr ⟨as_iconst mk_91 (n := 1) (by decide +kernel) (by decide +kernel) rfl,
  List.forall_mem_cons.mpr ⟨as_iload mk_91 (by decide +kernel) rfl,
  List.forall_mem_cons.mpr ⟨as_ishl mk_91 (by decide +kernel) rfl,
  List.forall_mem_cons.mpr ⟨as_ior mk_91 (by decide +kernel) rfl,
  List.forall_mem_cons.mpr ⟨as_istore_n mk_91 (k := 3) (by decide +kernel) rfl (by decide) rfl,
  List.forall_mem_cons.mpr ⟨as_iinc mk_91 (n := 1) (by decide +kernel) (by decide +kernel) (by decide) rfl,
  List.forall_mem_cons.mpr ⟨as_goto mk_91 (off := (-41)) (by decide +kernel) (by decide +kernel),
  List.forall_mem_cons.mpr ⟨as_iload_n mk_91 (k := 3) (by decide +kernel) rfl rfl,
  List.forall_mem_cons.mpr ⟨as_iret mk_91 (by decide +kernel) rfl,
  fun _ h => absurd h List.not_mem_nil⟩⟩⟩⟩⟩⟩⟩⟩⟩⟩⟩⟩⟩⟩⟩⟩⟩⟩⟩⟩⟩⟩⟩⟩⟩⟩⟩⟩⟩⟩
def cd_91 : List (Nat × aa_Op) := cd_91_0
theorem cd_91_ok : ab_Cd 91 cd_91 := cd_91_0_ok
def cd_92_0 : List (Nat × aa_Op) := [(0, aa_pu (.int 0) 1), (1, aa_sti 3 2), (2, aa_pu (.int 0) 3), (3, aa_sti 4 5), (5, aa_ldi 4 7), (7, aa_lda 0 8), (8, aa_gI 7 10 11), (11, aa_icmp (fun x y => x < y) 14 49), (14, aa_lda 0 15), (15, aa_gR 7 15 18), (18, aa_ldi 4 20), (20, aa_al 100 21), (21, aa_ldi 2 22), (22, aa_icmp (fun x y => y < x) 43 25), (25, aa_lda 0 26), (26, aa_gR 7 12 29), (29, aa_ldi 4 31), (31, aa_al 100 32), (32, aa_ldi 1 33), (33, aa_icmp (fun x y => x = y) 36 43), (36, aa_ldi 3 37), (37, aa_pu (.int 1) 38), (38, aa_ldi 4 40), (40, aa_bin (fun x y => x <<< (y &&& 31)) 41), (41, aa_bin (fun x y => x ||| y) 42), (42, aa_sti 3 43), (43, aa_inc 4 1 46), (46, aa_go 5), (49, aa_ldi 3 50), (50, aa_reti)]
theorem cd_92_0_ok : ab_Cd 92 cd_92_0 :=
  List.forall_mem_cons.mpr ⟨as_iconst mk_92 (n := 0) (by decide +kernel) (by decide +kernel) rfl,
  List.forall_mem_cons.mpr ⟨as_istore_n mk_92 (k := 3) (by decide +kernel) rfl (by decide) rfl,
  List.forall_mem_cons.mpr ⟨as_iconst mk_92 (n := 0) (by decide +kernel) (by decide +kernel) rfl,
  List.forall_mem_cons.mpr ⟨as_istore mk_92 (by decide +kernel) (by decide) rfl,
  List.forall_mem_cons.mpr ⟨as_iload mk_92 (by decide +kernel) rfl,
  List.forall_mem_cons.mpr ⟨as_aload_n mk_92 (k := 0) (by decide +kernel) rfl rfl,
  List.forall_mem_cons.mpr ⟨as_gI mk_92 (ix := 64) (by decide +kernel) (fd_RX7_64 rfl) rfl,
  List.forall_mem_cons.mpr ⟨as_icmp_ge mk_92 (off := 38) (by decide +kernel) (by decide +kernel) rfl,
  List.forall_mem_cons.mpr ⟨as_aload_n mk_92 (k := 0) (by decide +kernel) rfl rfl,
  List.forall_mem_cons.mpr ⟨as_gR mk_92 (ix := 42) (by decide +kernel) (fd_RX7_42 rfl) rfl,
  List.forall_mem_cons.mpr ⟨as_iload mk_92 (by decide +kernel) rfl,
  List.forall_mem_cons.mpr ⟨as_al mk_92 (Or.inl ⟨rfl, by decide +kernel⟩) rfl,
  List.forall_mem_cons.mpr ⟨as_iload_n mk_92 (k := 2) (by decide +kernel) rfl rfl,
  List.forall_mem_cons.mpr ⟨as_icmp_gt mk_92 (off := 21) (by decide +kernel) (by decide +kernel) rfl,
  List.forall_mem_cons.mpr ⟨as_aload_n mk_92 (k := 0) (by decide +kernel) rfl rfl,
  List.forall_mem_cons.mpr ⟨as_gR mk_92 (ix := 33) (by decide +kernel) (fd_RX7_33 rfl) rfl,
  List.forall_mem_cons.mpr ⟨as_iload mk_92 (by decide +kernel) rfl,
  List.forall_mem_cons.mpr ⟨as_al mk_92 (Or.inl ⟨rfl, by decide +kernel⟩) rfl,
  List.forall_mem_cons.mpr ⟨as_iload_n mk_92 (k := 1) (by decide +kernel) rfl rfl,
  List.forall_mem_cons.mpr ⟨as_icmp_ne mk_92 (off := 10) (by decide +kernel) (by decide +kernel) rfl,
  List.forall_mem_cons.mpr ⟨as_iload_n mk_92 (k := 3) (by decide +kernel) rfl rfl,
  List.forall_mem_cons.mpr ⟨as_iconst mk_92 (n := 1) (by decide +kernel) (by decide +kernel) rfl,
  List.forall_mem_cons.mpr ⟨as_iload mk_92 (by decide +kernel) rfl,
  List.forall_mem_cons.mpr ⟨as_ishl mk_92 (by decide +kernel) rfl,
  List.forall_mem_cons.mpr ⟨as_ior mk_92 (by decide +kernel) rfl,
  List.forall_mem_cons.mpr ⟨as_istore_n mk_92 (k := 3) (by decide +kernel) rfl (by decide) rfl,
  List.forall_mem_cons.mpr ⟨as_iinc mk_92 (n := 1) (by decide +kernel) (by decide +kernel) (by decide) rfl,
  List.forall_mem_cons.mpr ⟨as_goto mk_92 (off := (-41)) (by decide +kernel) (by decide +kernel),
  List.forall_mem_cons.mpr ⟨as_iload_n mk_92 (k := 3) (by decide +kernel) rfl rfl,
  List.forall_mem_cons.mpr ⟨as_iret mk_92 (by decide +kernel) rfl,
  fun _ h => absurd h List.not_mem_nil⟩⟩⟩⟩⟩⟩⟩⟩⟩⟩⟩⟩⟩⟩⟩⟩⟩⟩⟩⟩⟩⟩⟩⟩⟩⟩⟩⟩⟩⟩
def cd_92 : List (Nat × aa_Op) := cd_92_0
theorem cd_92_ok : ab_Cd 92 cd_92 := cd_92_0_ok
def cd_93_0 : List (Nat × aa_Op) := [(0, aa_pu (.int 0) 1), (1, aa_sti 2 2), (2, aa_pu (.int 0) 3), (3, aa_sti 3 4), (4, aa_ldi 3 5), (5, aa_lda 0 6), (6, aa_gI 7 10 9), (9, aa_icmp (fun x y => x < y) 12 36), (12, aa_ldi 1 13), (13, aa_ldi 3 14), (14, aa_bin (fun x y => x >>> (y &&& 31)) 15), (15, aa_pu (.int 1) 16), (16, aa_bin (fun x y => x &&& y) 17), (17, aa_pu (.int 1) 18), (18, aa_icmp (fun x y => x = y) 21 30), (21, aa_ldi 2 22), (22, aa_lda 0 23), (23, aa_gR 7 14 26), (26, aa_ldi 3 27), (27, aa_al 100 28), (28, aa_bin (fun x y => x + y) 29), (29, aa_sti 2 30), (30, aa_inc 3 1 33), (33, aa_go 4), (36, aa_ldi 2 37), (37, aa_reti)]
theorem cd_93_0_ok : ab_Cd 93 cd_93_0 :=
  List.forall_mem_cons.mpr ⟨as_iconst mk_93 (n := 0) (by decide +kernel) (by decide +kernel) rfl,
  List.forall_mem_cons.mpr ⟨as_istore_n mk_93 (k := 2) (by decide +kernel) rfl (by decide) rfl,
  List.forall_mem_cons.mpr ⟨as_iconst mk_93 (n := 0) (by decide +kernel) (by decide +kernel) rfl,
  List.forall_mem_cons.mpr ⟨as_istore_n mk_93 (k := 3) (by decide +kernel) rfl (by decide) rfl,
  List.forall_mem_cons.mpr ⟨as_iload_n mk_93 (k := 3) (by decide +kernel) rfl rfl,
  List.forall_mem_cons.mpr ⟨as_aload_n mk_93 (k := 0) (by decide +kernel) rfl rfl,
  List.forall_mem_cons.mpr ⟨as_gI mk_93 (ix := 64) (by decide +kernel) (fd_RX7_64 rfl) rfl,
  List.forall_mem_cons.mpr ⟨as_icmp_ge mk_93 (off := 27) (by decide +kernel) (by decide +kernel) rfl,
  List.forall_mem_cons.mpr ⟨as_iload_n mk_93 (k := 1) (by decide +kernel) rfl rfl,
  List.forall_mem_cons.mpr ⟨as_iload_n mk_93 (k := 3) (by decide +kernel) rfl rfl,
  List.forall_mem_cons.mpr ⟨as_ishr mk_93 (by decide +kernel) rfl,
  List.forall_mem_cons.mpr ⟨as_iconst mk_93 (n := 1) (by decide +kernel) (by decide +kernel) rfl,
  List.forall_mem_cons.mpr ⟨as_iand mk_93 (by decide +kernel) rfl,
  List.forall_mem_cons.mpr ⟨as_iconst mk_93 (n := 1) (by decide +kernel) (by decide +kernel) rfl,
  List.forall_mem_cons.mpr ⟨as_icmp_ne mk_93 (off := 12) (by decide +kernel) (by decide +kernel) rfl,
  List.forall_mem_cons.mpr ⟨as_iload_n mk_93 (k := 2) (by decide +kernel) rfl rfl,
  List.forall_mem_cons.mpr ⟨as_aload_n mk_93 (k := 0) (by decide +kernel) rfl rfl,
  List.forall_mem_cons.mpr ⟨as_gR mk_93 (ix := 39) (by decide +kernel) (fd_RX7_39 rfl) rfl,
  List.forall_mem_cons.mpr ⟨as_iload_n mk_93 (k := 3) (by decide +kernel) rfl rfl,
  List.forall_mem_cons.mpr ⟨as_al mk_93 (Or.inl ⟨rfl, by decide +kernel⟩) rfl,
  List.forall_mem_cons.mpr ⟨as_iadd mk_93 (by decide +kernel) rfl,
  List.forall_mem_cons.mpr ⟨as_istore_n mk_93 (k := 2) (by decide +kernel) rfl (by decide) rfl,
  List.forall_mem_cons.mpr ⟨as_iinc mk_93 (n := 1) (by decide +kernel) (by decide +kernel) (by decide) rfl,
  List.forall_mem_cons.mpr ⟨as_goto mk_93 (off := (-29)) (by decide +kernel) (by decide +kernel),
  List.forall_mem_cons.mpr ⟨as_iload_n mk_93 (k := 2) (by decide +kernel) rfl rfl,
  List.forall_mem_cons.mpr ⟨as_iret mk_93 (by decide +kernel) rfl,
  fun _ h => absurd h List.not_mem_nil⟩⟩⟩⟩⟩⟩⟩⟩⟩⟩⟩⟩⟩⟩⟩⟩⟩⟩⟩⟩⟩⟩⟩⟩⟩⟩
def cd_93 : List (Nat × aa_Op) := cd_93_0
theorem cd_93_ok : ab_Cd 93 cd_93 := cd_93_0_ok
def cd_95_0 : List (Nat × aa_Op) := [(0, aa_ldl 0 1), (1, aa_pu (.long 0) 2), (2, aa_lcmp 3), (3, aa_if (fun x => x < 0) 18 6), (6, aa_ldl 0 7), (7, aa_pu (.long 10000000000) 10), (10, aa_lcmp 11), (11, aa_if (fun x => x < 0) 14 18), (14, aa_pu (.int 1) 15), (15, aa_go 19), (18, aa_pu (.int 0) 19), (19, aa_retz)]
theorem cd_95_0_ok : ab_Cd 95 cd_95_0 :=
  List.forall_mem_cons.mpr ⟨as_lload_n mk_95 (k := 0) (by decide +kernel) rfl rfl,
  List.forall_mem_cons.mpr ⟨as_lconst mk_95 (n := 0) (by decide +kernel) (by decide +kernel) rfl,
  List.forall_mem_cons.mpr ⟨as_lcmp mk_95 (by decide +kernel) rfl,
  List.forall_mem_cons.mpr ⟨as_if_lt mk_95 (off := 15) (by decide +kernel) (by decide +kernel) rfl,
  List.forall_mem_cons.mpr ⟨as_lload_n mk_95 (k := 0) (by decide +kernel) rfl rfl,
  List.forall_mem_cons.mpr ⟨as_ldc2 mk_95 (ix := 16) (by decide +kernel) (aa_bw 1077 (by decide +kernel) rfl) rfl,
  List.forall_mem_cons.mpr ⟨as_lcmp mk_95 (by decide +kernel) rfl,
  List.forall_mem_cons.mpr ⟨as_if_ge mk_95 (off := 7) (by decide +kernel) (by decide +kernel) rfl,
  List.forall_mem_cons.mpr ⟨as_iconst mk_95 (n := 1) (by decide +kernel) (by decide +kernel) rfl,
  List.forall_mem_cons.mpr ⟨as_goto mk_95 (off := 4) (by decide +kernel) (by decide +kernel),
  List.forall_mem_cons.mpr ⟨as_iconst mk_95 (n := 0) (by decide +kernel) (by decide +kernel) rfl,
  List.forall_mem_cons.mpr ⟨as_zret mk_95 (by decide +kernel) rfl,
  fun _ h => absurd h List.not_mem_nil⟩⟩⟩⟩⟩⟩⟩⟩⟩⟩⟩⟩
def cd_95 : List (Nat × aa_Op) := cd_95_0
theorem cd_95_ok : ab_Cd 95 cd_95 := cd_95_0_ok
def cd_96_0 : List (Nat × aa_Op) := [(0, aa_lda 0 1), (1, aa_gI 8 0 4), (4, aa_reti)]
theorem cd_96_0_ok : ab_Cd 96 cd_96_0 :=
  List.forall_mem_cons.mpr ⟨as_aload_n mk_96 (k := 0) (by decide +kernel) rfl rfl,
  List.forall_mem_cons.mpr ⟨as_gI mk_96 (ix := 18) (by decide +kernel) (fd_RX8_18 rfl) rfl,
  List.forall_mem_cons.mpr ⟨as_iret mk_96 (by decide +kernel) rfl,
  fun _ h => absurd h List.not_mem_nil⟩⟩⟩
def cd_96 : List (Nat × aa_Op) := cd_96_0
theorem cd_96_ok : ab_Cd 96 cd_96 := cd_96_0_ok
def cd_97_0 : List (Nat × aa_Op) := [(0, aa_lda 0 1), (1, aa_gI 8 0 4), (4, aa_pu (.int 6) 6), (6, aa_icmp (fun x y => x < y) 12 9), (9, aa_pu (.int (-4)) 11), (11, aa_reti), (12, aa_ldl 1 13), (13, aa_sto2 3 14), (14, aa_pu (.int 0) 15), (15, aa_sti 5 17), (17, aa_ldi 5 19), (19, aa_pu (.int 5) 20), (20, aa_icmp (fun x y => x < y) 23 53), (23, aa_lda 0 24), (24, aa_gR 8 1 27), (27, aa_lda 0 28), (28, aa_gI 8 0 31), (31, aa_ar_ 103 32), (32, aa_ldi 5 34), (34, aa_ldl 3 35), (35, aa_pu (.long 100) 38), (38, aa_ldv (fun x y => x - x / y * y) 39), (39, aa_l2i 40), (40, aa_ass 100 (fun x => x) 41), (41, aa_ldl 3 42), (42, aa_pu (.long 100) 45), (45, aa_ldv (fun x y => x / y) 46), (46, aa_sto2 3 47), (47, aa_inc 5 1 50), (50, aa_go 17)]
theorem cd_97_0_ok : ab_Cd 97 cd_97_0 :=
  List.forall_mem_cons.mpr ⟨as_aload_n mk_97 (k := 0) (by decide +kernel) rfl rfl,
  List.forall_mem_cons.mpr ⟨as_gI mk_97 (ix := 18) (by decide +kernel) (fd_RX8_18 rfl) rfl,
  List.forall_mem_cons.mpr ⟨as_bipush mk_97 (n := 6) (by decide +kernel) (by decide +kernel) rfl,
  List.forall_mem_cons.mpr ⟨as_icmp_lt mk_97 (off := 6) (by decide +kernel) (by decide +kernel) rfl,
  List.forall_mem_cons.mpr ⟨as_bipush mk_97 (n := (-4)) (by decide +kernel) (by decide +kernel) rfl,
  List.forall_mem_cons.mpr ⟨as_iret mk_97 (by decide +kernel) rfl,
  List.forall_mem_cons.mpr ⟨as_lload_n mk_97 (k := 1) (by decide +kernel) rfl rfl,
  List.forall_mem_cons.mpr ⟨as_lstore_n mk_97 (k := 3) (by decide +kernel) rfl (by decide) rfl,
  List.forall_mem_cons.mpr ⟨as_iconst mk_97 (n := 0) (by decide +kernel) (by decide +kernel) rfl,
  List.forall_mem_cons.mpr ⟨as_istore mk_97 (by decide +kernel) (by decide) rfl,
  List.forall_mem_cons.mpr ⟨as_iload mk_97 (by decide +kernel) rfl,
  List.forall_mem_cons.mpr ⟨as_iconst mk_97 (n := 5) (by decide +kernel) (by decide +kernel) rfl,
  List.forall_mem_cons.mpr ⟨as_icmp_ge mk_97 (off := 33) (by decide +kernel) (by decide +kernel) rfl,
  List.forall_mem_cons.mpr ⟨as_aload_n mk_97 (k := 0) (by decide +kernel) rfl rfl,
  List.forall_mem_cons.mpr ⟨as_gR mk_97 (ix := 11) (by decide +kernel) (fd_RX8_11 rfl) rfl,
  List.forall_mem_cons.mpr ⟨as_aload_n mk_97 (k := 0) (by decide +kernel) rfl rfl,
  List.forall_mem_cons.mpr ⟨as_gI mk_97 (ix := 18) (by decide +kernel) (fd_RX8_18 rfl) rfl,
  List.forall_mem_cons.mpr ⟨as_ar_ mk_97 (Or.inr rfl) (by decide +kernel) rfl,
  List.forall_mem_cons.mpr ⟨as_iload mk_97 (by decide +kernel) rfl,
  List.forall_mem_cons.mpr ⟨as_lload_n mk_97 (k := 3) (by decide +kernel) rfl rfl,
  List.forall_mem_cons.mpr ⟨as_ldc2 mk_97 (ix := 22) (by decide +kernel) (aa_bw 1082 (by decide +kernel) rfl) rfl,
  List.forall_mem_cons.mpr ⟨as_lrem mk_97 (by decide +kernel) rfl,
  List.forall_mem_cons.mpr ⟨as_l2i mk_97 (by decide +kernel) rfl,
  List.forall_mem_cons.mpr ⟨as_ass mk_97 (Or.inl ⟨rfl, fun _ => rfl, by decide +kernel⟩) rfl,
  List.forall_mem_cons.mpr ⟨as_lload_n mk_97 (k := 3) (by decide +kernel) rfl rfl,
  List.forall_mem_cons.mpr ⟨as_ldc2 mk_97 (ix := 22) (by decide +kernel) (aa_bw 1082 (by decide +kernel) rfl) rfl,
  List.forall_mem_cons.mpr ⟨as_ldiv mk_97 (by decide +kernel) rfl,
  List.forall_mem_cons.mpr ⟨as_lstore_n mk_97 (k := 3) (by decide +kernel) rfl (by decide) rfl,
  List.forall_mem_cons.mpr ⟨as_iinc mk_97 (n := 1) (by decide +kernel) (by decide +kernel) (by decide) rfl,
  List.forall_mem_cons.mpr ⟨as_goto mk_97 (off := (-33)) (by decide +kernel) (by decide +kernel),
  fun _ h => absurd h List.not_mem_nil⟩⟩⟩⟩⟩⟩⟩⟩⟩⟩⟩⟩⟩⟩⟩⟩⟩⟩⟩⟩⟩⟩⟩⟩⟩⟩⟩⟩⟩⟩
def cd_97_1 : List (Nat × aa_Op) := [(53, aa_lda 0 54), (54, aa_dup 55), (55, aa_gI 8 0 58), (58, aa_pu (.int 1) 59), (59, aa_bin (fun x y => x + y) 60), (60, aa_pI 8 0 63), (63, aa_lda 0 64), (64, aa_gI 8 0 67), (67, aa_pu (.int 1) 68), (68, aa_bin (fun x y => x - y) 69), (69, aa_reti)]
theorem cd_97_1_ok : ab_Cd 97 cd_97_1 :=
  List.forall_mem_cons.mpr ⟨as_aload_n mk_97 (k := 0) (by decide +kernel) rfl rfl,
  List.forall_mem_cons.mpr ⟨as_dup mk_97 (by decide +kernel) rfl,
  List.forall_mem_cons.mpr ⟨as_gI mk_97 (ix := 18) (by decide +kernel) (fd_RX8_18 rfl) rfl,
  List.forall_mem_cons.mpr ⟨as_iconst mk_97 (n := 1) (by decide +kernel) (by decide +kernel) rfl,
  List.forall_mem_cons.mpr ⟨as_iadd mk_97 (by decide +kernel) rfl,
  List.forall_mem_cons.mpr ⟨as_pI mk_97 (ix := 18) (by decide +kernel) (fd_RX8_18 rfl) pt_8_0 rfl,
  List.forall_mem_cons.mpr ⟨as_aload_n mk_97 (k := 0) (by decide +kernel) rfl rfl,
  List.forall_mem_cons.mpr ⟨as_gI mk_97 (ix := 18) (by decide +kernel) (fd_RX8_18 rfl) rfl,
  List.forall_mem_cons.mpr ⟨as_iconst mk_97 (n := 1) (by decide +kernel) (by decide +kernel) rfl,
  List.forall_mem_cons.mpr ⟨as_isub mk_97 (by decide +kernel) rfl,
  List.forall_mem_cons.mpr ⟨as_iret mk_97 (by decide +kernel) rfl,
  fun _ h => absurd h List.not_mem_nil⟩⟩⟩⟩⟩⟩⟩⟩⟩⟩⟩
def cd_97 : List (Nat × aa_Op) := cd_97_0 ++ (cd_97_1)
theorem cd_97_ok : ab_Cd 97 cd_97 := List.forall_mem_append.mpr ⟨cd_97_0_ok, cd_97_1_ok⟩
def cd_98_0 : List (Nat × aa_Op) := [(0, aa_ldi 1 1), (1, aa_pu (.ref 1000001) 4), (4, aa_ldi 2 5), (5, aa_pu (.int 1) 6), (6, aa_bin (fun x y => x - y) 7), (7, aa_ldi 0 8), (8, aa_bin (fun x y => x - y) 9), (9, aa_al 100 10), (10, aa_dv (fun x y => x / y) 11), (11, aa_pu (.int 3) 12), (12, aa_dv (fun x y => x - x / y * y) 13), (13, aa_reti)]
theorem cd_98_0_ok : ab_Cd 98 cd_98_0 :=
  List.forall_mem_cons.mpr ⟨as_iload_n mk_98 (k := 1) (by decide +kernel) rfl rfl,
  List.forall_mem_cons.mpr ⟨as_gst mk_98 (ix := 24) (by decide +kernel) (Or.inr (Or.inl ⟨rfl, aa_bw 1102 (by decide +kernel) rfl⟩)) rfl,
  List.forall_mem_cons.mpr ⟨as_iload_n mk_98 (k := 2) (by decide +kernel) rfl rfl,
  List.forall_mem_cons.mpr ⟨as_iconst mk_98 (n := 1) (by decide +kernel) (by decide +kernel) rfl,
  List.forall_mem_cons.mpr ⟨as_isub mk_98 (by decide +kernel) rfl,
  List.forall_mem_cons.mpr ⟨as_iload_n mk_98 (k := 0) (by decide +kernel) rfl rfl,
  List.forall_mem_cons.mpr ⟨as_isub mk_98 (by decide +kernel) rfl,
  List.forall_mem_cons.mpr ⟨as_al mk_98 (Or.inl ⟨rfl, by decide +kernel⟩) rfl,
  List.forall_mem_cons.mpr ⟨as_idiv mk_98 (by decide +kernel) rfl,
  List.forall_mem_cons.mpr ⟨as_iconst mk_98 (n := 3) (by decide +kernel) (by decide +kernel) rfl,
  List.forall_mem_cons.mpr ⟨as_irem mk_98 (by decide +kernel) rfl,
  List.forall_mem_cons.mpr ⟨as_iret mk_98 (by decide +kernel) rfl,
  fun _ h => absurd h List.not_mem_nil⟩⟩⟩⟩⟩⟩⟩⟩⟩⟩⟩⟩
def cd_98 : List (Nat × aa_Op) := cd_98_0
theorem cd_98_ok : ab_Cd 98 cd_98 := cd_98_0_ok
def cd_99_0 : List (Nat × aa_Op) := [(0, aa_pu (.int 0) 1), (1, aa_sti 2 2), (2, aa_lda 0 3), (3, aa_pu (.int 0) 4), (4, aa_ldi 1 5), (5, aa_ccv 100 2 5 8 aa_kI 8), (8, aa_sti 3 9), (9, aa_pu (.int 0) 10), (10, aa_sti 4 12), (12, aa_pu (.int 1) 13), (13, aa_sti 5 15), (15, aa_ldi 5 17), (17, aa_pu (.ref 1000001) 20), (20, aa_ldi 1 21), (21, aa_al 100 22), (22, aa_icmp (fun x y => x < y) 25 77), (25, aa_lda 0 26), (26, aa_ldi 5 28), (28, aa_ldi 1 29), (29, aa_ccv 100 2 5 8 aa_kI 32), (32, aa_sti 6 34), (34, aa_ldi 5 36), (36, aa_ldi 1 37), (37, aa_ccs 102 2 4 aa_kI 40), (40, aa_sti 7 42), (42, aa_ldi 6 44), (44, aa_ldi 3 45), (45, aa_icmp (fun x y => x < y) 61 48), (48, aa_ldi 6 50), (50, aa_ldi 3 51)]
theorem cd_99_0_ok : ab_Cd 99 cd_99_0 :=
  List.forall_mem_cons.mpr ⟨as_iconst mk_99 (n := 0) (by decide +kernel) (by decide +kernel) rfl,
  List.forall_mem_cons.mpr ⟨as_istore_n mk_99 (k := 2) (by decide +kernel) rfl (by decide) rfl,
  List.forall_mem_cons.mpr ⟨as_aload_n mk_99 (k := 0) (by decide +kernel) rfl rfl,
  List.forall_mem_cons.mpr ⟨as_iconst mk_99 (n := 0) (by decide +kernel) (by decide +kernel) rfl,
  List.forall_mem_cons.mpr ⟨as_iload_n mk_99 (k := 1) (by decide +kernel) rfl rfl,
  List.forall_mem_cons.mpr ⟨as_ccv mk_99 (ix := 28) aa_kI_ok (by decide +kernel) (cx_RX8_28 rfl) rfl,
  List.forall_mem_cons.mpr ⟨as_istore_n mk_99 (k := 3) (by decide +kernel) rfl (by decide) rfl,
  List.forall_mem_cons.mpr ⟨as_iconst mk_99 (n := 0) (by decide +kernel) (by decide +kernel) rfl,
  List.forall_mem_cons.mpr ⟨as_istore mk_99 (by decide +kernel) (by decide) rfl,
  List.forall_mem_cons.mpr ⟨as_iconst mk_99 (n := 1) (by decide +kernel) (by decide +kernel) rfl,
  List.forall_mem_cons.mpr ⟨as_istore mk_99 (by decide +kernel) (by decide) rfl,
  List.forall_mem_cons.mpr ⟨as_iload mk_99 (by decide +kernel) rfl,
  List.forall_mem_cons.mpr ⟨as_gst mk_99 (ix := 24) (by decide +kernel) (Or.inr (Or.inl ⟨rfl, aa_bw 1102 (by decide +kernel) rfl⟩)) rfl,
  List.forall_mem_cons.mpr ⟨as_iload_n mk_99 (k := 1) (by decide +kernel) rfl rfl,
  List.forall_mem_cons.mpr ⟨as_al mk_99 (Or.inl ⟨rfl, by decide +kernel⟩) rfl,
  List.forall_mem_cons.mpr ⟨as_icmp_ge mk_99 (off := 55) (by decide +kernel) (by decide +kernel) rfl,
  List.forall_mem_cons.mpr ⟨as_aload_n mk_99 (k := 0) (by decide +kernel) rfl rfl,
  List.forall_mem_cons.mpr ⟨as_iload mk_99 (by decide +kernel) rfl,
  List.forall_mem_cons.mpr ⟨as_iload_n mk_99 (k := 1) (by decide +kernel) rfl rfl,
  List.forall_mem_cons.mpr ⟨as_ccv mk_99 (ix := 28) aa_kI_ok (by decide +kernel) (cx_RX8_28 rfl) rfl,
  List.forall_mem_cons.mpr ⟨as_istore mk_99 (by decide +kernel) (by decide) rfl,
  List.forall_mem_cons.mpr ⟨as_iload mk_99 (by decide +kernel) rfl,
  List.forall_mem_cons.mpr ⟨as_iload_n mk_99 (k := 1) (by decide +kernel) rfl rfl,
  List.forall_mem_cons.mpr ⟨as_ccs mk_99 (ix := 32) (M' := ac_r102) aa_kI_ok (by decide +kernel) ce_102 lk_RX8_32 cs_102 rfl (by decide) rfl,
  List.forall_mem_cons.mpr ⟨as_istore mk_99 (by decide +kernel) (by decide) rfl,
  List.forall_mem_cons.mpr ⟨as_iload mk_99 (by decide +kernel) rfl,
  List.forall_mem_cons.mpr ⟨as_iload_n mk_99 (k := 3) (by decide +kernel) rfl rfl,
  List.forall_mem_cons.mpr ⟨as_icmp_lt mk_99 (off := 16) (by decide +kernel) (by decide +kernel) rfl,
  List.forall_mem_cons.mpr ⟨as_iload mk_99 (by decide +kernel) rfl,
  List.forall_mem_cons.mpr ⟨as_iload_n mk_99 (k := 3) (by decide +kernel) rfl rfl,
  fun _ h => absurd h List.not_mem_nil⟩⟩⟩⟩⟩⟩⟩⟩⟩⟩⟩⟩⟩⟩⟩⟩⟩⟩⟩⟩⟩⟩⟩⟩⟩⟩⟩⟩⟩⟩
def cd_99_1 : List (Nat × aa_Op) := [(51, aa_icmp (fun x y => x = y) 54 71), (54, aa_ldi 7 56), (56, aa_ldi 4 58), (58, aa_icmp (fun x y => x < y) 61 71), (61, aa_ldi 5 63), (63, aa_sti 2 64), (64, aa_ldi 6 66), (66, aa_sti 3 67), (67, aa_ldi 7 69), (69, aa_sti 4 71), (71, aa_inc 5 1 74), (74, aa_go 15), (77, aa_ldi 2 78), (78, aa_reti)]
theorem cd_99_1_ok : ab_Cd 99 cd_99_1 :=
  List.forall_mem_cons.mpr ⟨as_icmp_ne mk_99 (off := 20) (by decide +kernel) (by decide +kernel) rfl,
  List.forall_mem_cons.mpr ⟨as_iload mk_99 (by decide +kernel) rfl,
  List.forall_mem_cons.mpr ⟨as_iload mk_99 (by decide +kernel) rfl,
  List.forall_mem_cons.mpr ⟨as_icmp_ge mk_99 (off := 13) (by decide +kernel) (by decide +kernel) rfl,
  List.forall_mem_cons.mpr ⟨as_iload mk_99 (by decide +kernel) rfl,
  List.forall_mem_cons.mpr ⟨as_istore_n mk_99 (k := 2) (by decide +kernel) rfl (by decide) rfl,
  List.forall_mem_cons.mpr ⟨as_iload mk_99 (by decide +kernel) rfl,
  List.forall_mem_cons.mpr ⟨as_istore_n mk_99 (k := 3) (by decide +kernel) rfl (by decide) rfl,
  List.forall_mem_cons.mpr ⟨as_iload mk_99 (by decide +kernel) rfl,
  List.forall_mem_cons.mpr ⟨as_istore mk_99 (by decide +kernel) (by decide) rfl,
  List.forall_mem_cons.mpr ⟨as_iinc mk_99 (n := 1) (by decide +kernel) (by decide +kernel) (by decide) rfl,
  List.forall_mem_cons.mpr ⟨as_goto mk_99 (off := (-59)) (by decide +kernel) (by decide +kernel),
  List.forall_mem_cons.mpr ⟨as_iload_n mk_99 (k := 2) (by decide +kernel) rfl rfl,
  List.forall_mem_cons.mpr ⟨as_iret mk_99 (by decide +kernel) rfl,
  fun _ h => absurd h List.not_mem_nil⟩⟩⟩⟩⟩⟩⟩⟩⟩⟩⟩⟩⟩⟩
def cd_99 : List (Nat × aa_Op) := cd_99_0 ++ (cd_99_1)
theorem cd_99_ok : ab_Cd 99 cd_99 := List.forall_mem_append.mpr ⟨cd_99_0_ok, cd_99_1_ok⟩
def cd_100_0 : List (Nat × aa_Op) := [(0, aa_pu (.int 0) 1), (1, aa_sti 3 2), (2, aa_pu (.int 0) 3), (3, aa_sti 4 5), (5, aa_ldi 4 7), (7, aa_lda 0 8), (8, aa_gI 8 0 11), (11, aa_icmp (fun x y => x < y) 14 33), (14, aa_ldi 3 15), (15, aa_lda 0 16), (16, aa_ldi 4 18), (18, aa_ldi 1 19), (19, aa_ldi 2 20), (20, aa_ccv 101 3 9 8 aa_kI 23), (23, aa_mm (fun x y => if x < y then y else x) 26), (26, aa_sti 3 27), (27, aa_inc 4 1 30), (30, aa_go 5), (33, aa_ldi 3 34), (34, aa_reti)]
theorem cd_100_0_ok : ab_Cd 100 cd_100_0 :=
  List.forall_mem_cons.mpr ⟨as_iconst mk_100 (n := 0) (by decide +kernel) (by decide +kernel) rfl,
  List.forall_mem_cons.mpr ⟨as_istore_n mk_100 (k := 3) (by decide +kernel) rfl (by decide) rfl,
  List.forall_mem_cons.mpr ⟨as_iconst mk_100 (n := 0) (by decide +kernel) (by decide +kernel) rfl,
  List.forall_mem_cons.mpr ⟨as_istore mk_100 (by decide +kernel) (by decide) rfl,
  List.forall_mem_cons.mpr ⟨as_iload mk_100 (by decide +kernel) rfl,
  List.forall_mem_cons.mpr ⟨as_aload_n mk_100 (k := 0) (by decide +kernel) rfl rfl,
  List.forall_mem_cons.mpr ⟨as_gI mk_100 (ix := 18) (by decide +kernel) (fd_RX8_18 rfl) rfl,
  List.forall_mem_cons.mpr ⟨as_icmp_ge mk_100 (off := 22) (by decide +kernel) (by decide +kernel) rfl,
  List.forall_mem_cons.mpr ⟨as_iload_n mk_100 (k := 3) (by decide +kernel) rfl rfl,
  List.forall_mem_cons.mpr ⟨as_aload_n mk_100 (k := 0) (by decide +kernel) rfl rfl,
  List.forall_mem_cons.mpr ⟨as_iload mk_100 (by decide +kernel) rfl,
  List.forall_mem_cons.mpr ⟨as_iload_n mk_100 (k := 1) (by decide +kernel) rfl rfl,
  List.forall_mem_cons.mpr ⟨as_iload_n mk_100 (k := 2) (by decide +kernel) rfl rfl,
  List.forall_mem_cons.mpr ⟨as_ccv mk_100 (ix := 35) aa_kI_ok (by decide +kernel) (cx_RX8_35 rfl) rfl,
  List.forall_mem_cons.mpr ⟨as_mmax mk_100 (ix := 39) (by decide +kernel) mw_RX8_39 rfl,
  List.forall_mem_cons.mpr ⟨as_istore_n mk_100 (k := 3) (by decide +kernel) rfl (by decide) rfl,
  List.forall_mem_cons.mpr ⟨as_iinc mk_100 (n := 1) (by decide +kernel) (by decide +kernel) (by decide) rfl,
  List.forall_mem_cons.mpr ⟨as_goto mk_100 (off := (-25)) (by decide +kernel) (by decide +kernel),
  List.forall_mem_cons.mpr ⟨as_iload_n mk_100 (k := 3) (by decide +kernel) rfl rfl,
  List.forall_mem_cons.mpr ⟨as_iret mk_100 (by decide +kernel) rfl,
  fun _ h => absurd h List.not_mem_nil⟩⟩⟩⟩⟩⟩⟩⟩⟩⟩⟩⟩⟩⟩⟩⟩⟩⟩⟩⟩
def cd_100 : List (Nat × aa_Op) := cd_100_0
theorem cd_100_ok : ab_Cd 100 cd_100 := cd_100_0_ok
def cd_101_0 : List (Nat × aa_Op) := [(0, aa_pu (.int 0) 1), (1, aa_sti 4 3), (3, aa_pu (.int 0) 4), (4, aa_sti 5 6), (6, aa_pu (.int 0) 7), (7, aa_sti 6 9), (9, aa_ldi 6 11), (11, aa_ldi 3 12), (12, aa_icmp (fun x y => x < y) 15 98), (15, aa_ldi 6 17), (17, aa_ldi 2 18), (18, aa_ldi 3 19), (19, aa_ccs 98 3 3 aa_kI 22), (22, aa_sti 7 24), (24, aa_lda 0 25), (25, aa_gR 8 1 28), (28, aa_ldi 1 29), (29, aa_ar_ 103 30), (30, aa_ldi 6 32), (32, aa_als 100 33), (33, aa_sti 8 35), (35, aa_ldi 7 37), (37, aa_pu (.int 1) 38), (38, aa_icmp (fun x y => x = y) 41 55), (41, aa_ldi 4 43), (43, aa_ldi 8 45), (45, aa_pu (.int 1) 46), (46, aa_bin (fun x y => x + y) 47), (47, aa_pu (.int 2) 48), (48, aa_dv (fun x y => x / y) 49)]
theorem cd_101_0_ok : ab_Cd 101 cd_101_0 :=
  List.forall_mem_cons.mpr ⟨as_iconst mk_101 (n := 0) (by decide +kernel) (by decide +kernel) rfl,
  List.forall_mem_cons.mpr ⟨as_istore mk_101 (by decide +kernel) (by decide) rfl,
  List.forall_mem_cons.mpr ⟨as_iconst mk_101 (n := 0) (by decide +kernel) (by decide +kernel) rfl,
  List.forall_mem_cons.mpr ⟨as_istore mk_101 (by decide +kernel) (by decide) rfl,
  List.forall_mem_cons.mpr ⟨as_iconst mk_101 (n := 0) (by decide +kernel) (by decide +kernel) rfl,
  List.forall_mem_cons.mpr ⟨as_istore mk_101 (by decide +kernel) (by decide) rfl,
  List.forall_mem_cons.mpr ⟨as_iload mk_101 (by decide +kernel) rfl,
  List.forall_mem_cons.mpr ⟨as_iload_n mk_101 (k := 3) (by decide +kernel) rfl rfl,
  List.forall_mem_cons.mpr ⟨as_icmp_ge mk_101 (off := 86) (by decide +kernel) (by decide +kernel) rfl,
  List.forall_mem_cons.mpr ⟨as_iload mk_101 (by decide +kernel) rfl,
  List.forall_mem_cons.mpr ⟨as_iload_n mk_101 (k := 2) (by decide +kernel) rfl rfl,
  List.forall_mem_cons.mpr ⟨as_iload_n mk_101 (k := 3) (by decide +kernel) rfl rfl,
  List.forall_mem_cons.mpr ⟨as_ccs mk_101 (ix := 44) (M' := ac_r98) aa_kI_ok (by decide +kernel) ce_98 lk_RX8_44 cs_98 rfl (by decide) rfl,
  List.forall_mem_cons.mpr ⟨as_istore mk_101 (by decide +kernel) (by decide) rfl,
  List.forall_mem_cons.mpr ⟨as_aload_n mk_101 (k := 0) (by decide +kernel) rfl rfl,
  List.forall_mem_cons.mpr ⟨as_gR mk_101 (ix := 11) (by decide +kernel) (fd_RX8_11 rfl) rfl,
  List.forall_mem_cons.mpr ⟨as_iload_n mk_101 (k := 1) (by decide +kernel) rfl rfl,
  List.forall_mem_cons.mpr ⟨as_ar_ mk_101 (Or.inr rfl) (by decide +kernel) rfl,
  List.forall_mem_cons.mpr ⟨as_iload mk_101 (by decide +kernel) rfl,
  List.forall_mem_cons.mpr ⟨as_als mk_101 (Or.inl ⟨rfl, by decide +kernel⟩) rfl,
  List.forall_mem_cons.mpr ⟨as_istore mk_101 (by decide +kernel) (by decide) rfl,
  List.forall_mem_cons.mpr ⟨as_iload mk_101 (by decide +kernel) rfl,
  List.forall_mem_cons.mpr ⟨as_iconst mk_101 (n := 1) (by decide +kernel) (by decide +kernel) rfl,
  List.forall_mem_cons.mpr ⟨as_icmp_ne mk_101 (off := 17) (by decide +kernel) (by decide +kernel) rfl,
  List.forall_mem_cons.mpr ⟨as_iload mk_101 (by decide +kernel) rfl,
  List.forall_mem_cons.mpr ⟨as_iload mk_101 (by decide +kernel) rfl,
  List.forall_mem_cons.mpr ⟨as_iconst mk_101 (n := 1) (by decide +kernel) (by decide +kernel) rfl,
  List.forall_mem_cons.mpr ⟨as_iadd mk_101 (by decide +kernel) rfl,
  List.forall_mem_cons.mpr ⟨as_iconst mk_101 (n := 2) (by decide +kernel) (by decide +kernel) rfl,
  List.forall_mem_cons.mpr ⟨as_idiv mk_101 (by decide +kernel) rfl,
  fun _ h => absurd h List.not_mem_nil⟩⟩⟩⟩⟩⟩⟩⟩⟩⟩⟩⟩⟩⟩⟩⟩⟩⟩⟩⟩⟩⟩⟩⟩⟩⟩⟩⟩⟩⟩
def cd_101_1 : List (Nat × aa_Op) := [(49, aa_bin (fun x y => x + y) 50), (50, aa_sti 4 52), (52, aa_go 88), (55, aa_ldi 7 57), (57, aa_pu (.int 2) 58), (58, aa_icmp (fun x y => x = y) 61 81), (61, aa_ldi 5 63), (63, aa_pu (.int 2) 64), (64, aa_icmp (fun x y => x = y) 81 67), (67, aa_ldi 4 69), (69, aa_ldi 8 71), (71, aa_pu (.int 2) 72), (72, aa_bin (fun x y => x + y) 73), (73, aa_pu (.int 3) 74), (74, aa_dv (fun x y => x / y) 75), (75, aa_bin (fun x y => x + y) 76), (76, aa_sti 4 78), (78, aa_go 88), (81, aa_ldi 4 83), (83, aa_ldi 8 85), (85, aa_bin (fun x y => x + y) 86), (86, aa_sti 4 88), (88, aa_ldi 7 90), (90, aa_sti 5 92), (92, aa_inc 6 1 95), (95, aa_go 9), (98, aa_ldi 4 100), (100, aa_reti)]
theorem cd_101_1_ok : ab_Cd 101 cd_101_1 :=
  List.forall_mem_cons.mpr ⟨as_iadd mk_101 (by decide +kernel) rfl,
  List.forall_mem_cons.mpr ⟨as_istore mk_101 (by decide +kernel) (by decide) rfl,
  List.forall_mem_cons.mpr ⟨as_goto mk_101 (off := 36) (by decide +kernel) (by decide +kernel),
  List.forall_mem_cons.mpr ⟨as_iload mk_101 (by decide +kernel) rfl,
  List.forall_mem_cons.mpr ⟨as_iconst mk_101 (n := 2) (by decide +kernel) (by decide +kernel) rfl,
  List.forall_mem_cons.mpr ⟨as_icmp_ne mk_101 (off := 23) (by decide +kernel) (by decide +kernel) rfl,
  List.forall_mem_cons.mpr ⟨as_iload mk_101 (by decide +kernel) rfl,
  List.forall_mem_cons.mpr ⟨as_iconst mk_101 (n := 2) (by decide +kernel) (by decide +kernel) rfl,
  List.forall_mem_cons.mpr ⟨as_icmp_eq mk_101 (off := 17) (by decide +kernel) (by decide +kernel) rfl,
  List.forall_mem_cons.mpr ⟨as_iload mk_101 (by decide +kernel) rfl,
  List.forall_mem_cons.mpr ⟨as_iload mk_101 (by decide +kernel) rfl,
  List.forall_mem_cons.mpr ⟨as_iconst mk_101 (n := 2) (by decide +kernel) (by decide +kernel) rfl,
  List.forall_mem_cons.mpr ⟨as_iadd mk_101 (by decide +kernel) rfl,
  List.forall_mem_cons.mpr ⟨as_iconst mk_101 (n := 3) (by decide +kernel) (by decide +kernel) rfl,
  List.forall_mem_cons.mpr ⟨as_idiv mk_101 (by decide +kernel) rfl,
  List.forall_mem_cons.mpr ⟨as_iadd mk_101 (by decide +kernel) rfl,
  List.forall_mem_cons.mpr ⟨as_istore mk_101 (by decide +kernel) (by decide) rfl,
  List.forall_mem_cons.mpr ⟨as_goto mk_101 (off := 10) (by decide +kernel) (by decide +kernel),
  List.forall_mem_cons.mpr ⟨as_iload mk_101 (by decide +kernel) rfl,
  List.forall_mem_cons.mpr ⟨as_iload mk_101 (by decide +kernel) rfl,
  List.forall_mem_cons.mpr ⟨as_iadd mk_101 (by decide +kernel) rfl,
  List.forall_mem_cons.mpr ⟨as_istore mk_101 (by decide +kernel) (by decide) rfl,
  List.forall_mem_cons.mpr ⟨as_iload mk_101 (by decide +kernel) rfl,
  List.forall_mem_cons.mpr ⟨as_istore mk_101 (by decide +kernel) (by decide) rfl,
  List.forall_mem_cons.mpr ⟨as_iinc mk_101 (n := 1) (by decide +kernel) (by decide +kernel) (by decide) rfl,
  List.forall_mem_cons.mpr ⟨as_goto mk_101 (off := (-86)) (by decide +kernel) (by decide +kernel),
  List.forall_mem_cons.mpr ⟨as_iload mk_101 (by decide +kernel) rfl,
  List.forall_mem_cons.mpr ⟨as_iret mk_101 (by decide +kernel) rfl,
  fun _ h => absurd h List.not_mem_nil⟩⟩⟩⟩⟩⟩⟩⟩⟩⟩⟩⟩⟩⟩⟩⟩⟩⟩⟩⟩⟩⟩⟩⟩⟩⟩⟩⟩
def cd_101 : List (Nat × aa_Op) := cd_101_0 ++ (cd_101_1)
theorem cd_101_ok : ab_Cd 101 cd_101 := List.forall_mem_append.mpr ⟨cd_101_0_ok, cd_101_1_ok⟩
def cd_102_0 : List (Nat × aa_Op) := [(0, aa_pu (.int 0) 1), (1, aa_sti 2 2), (2, aa_pu (.int 0) 3), (3, aa_sti 3 4), (4, aa_ldi 3 5), (5, aa_ldi 1 6), (6, aa_icmp (fun x y => x < y) 9 28), (9, aa_ldi 3 10), (10, aa_ldi 0 11), (11, aa_ldi 1 12), (12, aa_ccs 98 3 3 aa_kI 15), (15, aa_pu (.int 1) 16), (16, aa_icmp (fun x y => x = y) 19 22), (19, aa_inc 2 1 22), (22, aa_inc 3 1 25), (25, aa_go 4), (28, aa_ldi 2 29), (29, aa_reti)]
theorem cd_102_0_ok : ab_Cd 102 cd_102_0 :=
  List.forall_mem_cons.mpr ⟨as_iconst mk_102 (n := 0) (by decide +kernel) (by decide +kernel) rfl,
  List.forall_mem_cons.mpr ⟨as_istore_n mk_102 (k := 2) (by decide +kernel) rfl (by decide) rfl,
  List.forall_mem_cons.mpr ⟨as_iconst mk_102 (n := 0) (by decide +kernel) (by decide +kernel) rfl,
  List.forall_mem_cons.mpr ⟨as_istore_n mk_102 (k := 3) (by decide +kernel) rfl (by decide) rfl,
  List.forall_mem_cons.mpr ⟨as_iload_n mk_102 (k := 3) (by decide +kernel) rfl rfl,
  List.forall_mem_cons.mpr ⟨as_iload_n mk_102 (k := 1) (by decide +kernel) rfl rfl,
  List.forall_mem_cons.mpr ⟨as_icmp_ge mk_102 (off := 22) (by decide +kernel) (by decide +kernel) rfl,
  List.forall_mem_cons.mpr ⟨as_iload_n mk_102 (k := 3) (by decide +kernel) rfl rfl,
  List.forall_mem_cons.mpr ⟨as_iload_n mk_102 (k := 0) (by decide +kernel) rfl rfl,
  List.forall_mem_cons.mpr ⟨as_iload_n mk_102 (k := 1) (by decide +kernel) rfl rfl,
  List.forall_mem_cons.mpr ⟨as_ccs mk_102 (ix := 44) (M' := ac_r98) aa_kI_ok (by decide +kernel) ce_98 lk_RX8_44 cs_98 rfl (by decide) rfl,
  List.forall_mem_cons.mpr ⟨as_iconst mk_102 (n := 1) (by decide +kernel) (by decide +kernel) rfl,
  List.forall_mem_cons.mpr ⟨as_icmp_ne mk_102 (off := 6) (by decide +kernel) (by decide +kernel) rfl,
  List.forall_mem_cons.mpr ⟨as_iinc mk_102 (n := 1) (by decide +kernel) (by decide +kernel) (by decide) rfl,
  List.forall_mem_cons.mpr ⟨as_iinc mk_102 (n := 1) (by decide +kernel) (by decide +kernel) (by decide) rfl,
  List.forall_mem_cons.mpr ⟨as_goto mk_102 (off := (-21)) (by decide +kernel) (by decide +kernel),
  List.forall_mem_cons.mpr ⟨as_iload_n mk_102 (k := 2) (by decide +kernel) rfl rfl,
  List.forall_mem_cons.mpr ⟨as_iret mk_102 (by decide +kernel) rfl,
  fun _ h => absurd h List.not_mem_nil⟩⟩⟩⟩⟩⟩⟩⟩⟩⟩⟩⟩⟩⟩⟩⟩⟩⟩
def cd_102 : List (Nat × aa_Op) := cd_102_0
theorem cd_102_ok : ab_Cd 102 cd_102 := cd_102_0_ok
def cd_104_0 : List (Nat × aa_Op) := [(0, aa_ldi 0 1), (1, aa_pu (.int 0) 2), (2, aa_pu (.int 99) 4), (4, aa_ccs 182 3 3 aa_kI 7), (7, aa_retz)]
theorem cd_104_0_ok : ab_Cd 104 cd_104_0 :=
  List.forall_mem_cons.mpr ⟨as_iload_n mk_104 (k := 0) (by decide +kernel) rfl rfl,
  List.forall_mem_cons.mpr ⟨as_iconst mk_104 (n := 0) (by decide +kernel) (by decide +kernel) rfl,
  List.forall_mem_cons.mpr ⟨as_bipush mk_104 (n := 99) (by decide +kernel) (by decide +kernel) rfl,
  List.forall_mem_cons.mpr ⟨as_ccs mk_104 (ix := 36) (M' := ac_r182) aa_kI_ok (by decide +kernel) ce_182 lk_RX9_36 cs_182 rfl (by decide) rfl,
  List.forall_mem_cons.mpr ⟨as_zret mk_104 (by decide +kernel) rfl,
  fun _ h => absurd h List.not_mem_nil⟩⟩⟩⟩⟩
def cd_104 : List (Nat × aa_Op) := cd_104_0
theorem cd_104_ok : ab_Cd 104 cd_104 := cd_104_0_ok
def cd_105_0 : List (Nat × aa_Op) := [(0, aa_ldi 0 1), (1, aa_pu (.int 0) 2), (2, aa_pu (.int 5) 3), (3, aa_ccs 182 3 3 aa_kI 6), (6, aa_retz)]
theorem cd_105_0_ok : ab_Cd 105 cd_105_0 :=
  List.forall_mem_cons.mpr ⟨as_iload_n mk_105 (k := 0) (by decide +kernel) rfl rfl,
  List.forall_mem_cons.mpr ⟨as_iconst mk_105 (n := 0) (by decide +kernel) (by decide +kernel) rfl,
  List.forall_mem_cons.mpr ⟨as_iconst mk_105 (n := 5) (by decide +kernel) (by decide +kernel) rfl,
  List.forall_mem_cons.mpr ⟨as_ccs mk_105 (ix := 36) (M' := ac_r182) aa_kI_ok (by decide +kernel) ce_182 lk_RX9_36 cs_182 rfl (by decide) rfl,
  List.forall_mem_cons.mpr ⟨as_zret mk_105 (by decide +kernel) rfl,
  fun _ h => absurd h List.not_mem_nil⟩⟩⟩⟩⟩
def cd_105 : List (Nat × aa_Op) := cd_105_0
theorem cd_105_ok : ab_Cd 105 cd_105 := cd_105_0_ok
def cd_106_0 : List (Nat × aa_Op) := [(0, aa_ldi 0 1), (1, aa_pu (.int 10) 3), (3, aa_pu (.int 60) 5), (5, aa_ccs 182 3 3 aa_kI 8), (8, aa_retz)]
theorem cd_106_0_ok : ab_Cd 106 cd_106_0 :=
  List.forall_mem_cons.mpr ⟨as_iload_n mk_106 (k := 0) (by decide +kernel) rfl rfl,
  List.forall_mem_cons.mpr ⟨as_bipush mk_106 (n := 10) (by decide +kernel) (by decide +kernel) rfl,
  List.forall_mem_cons.mpr ⟨as_bipush mk_106 (n := 60) (by decide +kernel) (by decide +kernel) rfl,
  List.forall_mem_cons.mpr ⟨as_ccs mk_106 (ix := 36) (M' := ac_r182) aa_kI_ok (by decide +kernel) ce_182 lk_RX9_36 cs_182 rfl (by decide) rfl,
  List.forall_mem_cons.mpr ⟨as_zret mk_106 (by decide +kernel) rfl,
  fun _ h => absurd h List.not_mem_nil⟩⟩⟩⟩⟩
def cd_106 : List (Nat × aa_Op) := cd_106_0
theorem cd_106_ok : ab_Cd 106 cd_106 := cd_106_0_ok
def cd_107_0 : List (Nat × aa_Op) := [(0, aa_ldi 1 1), (1, aa_pu (.int 0) 2), (2, aa_lda 0 3), (3, aa_gI 9 0 6), (6, aa_pu (.int 1) 7), (7, aa_bin (fun x y => x - y) 8), (8, aa_ccs 182 3 3 aa_kI 11), (11, aa_retz)]
theorem cd_107_0_ok : ab_Cd 107 cd_107_0 :=
  List.forall_mem_cons.mpr ⟨as_iload_n mk_107 (k := 1) (by decide +kernel) rfl rfl,
  List.forall_mem_cons.mpr ⟨as_iconst mk_107 (n := 0) (by decide +kernel) (by decide +kernel) rfl,
  List.forall_mem_cons.mpr ⟨as_aload_n mk_107 (k := 0) (by decide +kernel) rfl rfl,
  List.forall_mem_cons.mpr ⟨as_gI mk_107 (ix := 40) (by decide +kernel) (fd_RX9_40 rfl) rfl,
  List.forall_mem_cons.mpr ⟨as_iconst mk_107 (n := 1) (by decide +kernel) (by decide +kernel) rfl,
  List.forall_mem_cons.mpr ⟨as_isub mk_107 (by decide +kernel) rfl,
  List.forall_mem_cons.mpr ⟨as_ccs mk_107 (ix := 36) (M' := ac_r182) aa_kI_ok (by decide +kernel) ce_182 lk_RX9_36 cs_182 rfl (by decide) rfl,
  List.forall_mem_cons.mpr ⟨as_zret mk_107 (by decide +kernel) rfl,
  fun _ h => absurd h List.not_mem_nil⟩⟩⟩⟩⟩⟩⟩⟩
def cd_107 : List (Nat × aa_Op) := cd_107_0
theorem cd_107_ok : ab_Cd 107 cd_107 := cd_107_0_ok
def cd_108_0 : List (Nat × aa_Op) := [(0, aa_ldi 1 1), (1, aa_pu (.int 0) 2), (2, aa_lda 0 3), (3, aa_gI 9 3 6), (6, aa_pu (.int 1) 7), (7, aa_bin (fun x y => x - y) 8), (8, aa_ccs 182 3 3 aa_kI 11), (11, aa_retz)]
theorem cd_108_0_ok : ab_Cd 108 cd_108_0 :=
  List.forall_mem_cons.mpr ⟨as_iload_n mk_108 (k := 1) (by decide +kernel) rfl rfl,
  List.forall_mem_cons.mpr ⟨as_iconst mk_108 (n := 0) (by decide +kernel) (by decide +kernel) rfl,
  List.forall_mem_cons.mpr ⟨as_aload_n mk_108 (k := 0) (by decide +kernel) rfl rfl,
  List.forall_mem_cons.mpr ⟨as_gI mk_108 (ix := 44) (by decide +kernel) (fd_RX9_44 rfl) rfl,
  List.forall_mem_cons.mpr ⟨as_iconst mk_108 (n := 1) (by decide +kernel) (by decide +kernel) rfl,
  List.forall_mem_cons.mpr ⟨as_isub mk_108 (by decide +kernel) rfl,
  List.forall_mem_cons.mpr ⟨as_ccs mk_108 (ix := 36) (M' := ac_r182) aa_kI_ok (by decide +kernel) ce_182 lk_RX9_36 cs_182 rfl (by decide) rfl,
  List.forall_mem_cons.mpr ⟨as_zret mk_108 (by decide +kernel) rfl,
  fun _ h => absurd h List.not_mem_nil⟩⟩⟩⟩⟩⟩⟩⟩
def cd_108 : List (Nat × aa_Op) := cd_108_0
theorem cd_108_ok : ab_Cd 108 cd_108 := cd_108_0_ok
def cd_109_0 : List (Nat × aa_Op) := [(0, aa_lda 0 1), (1, aa_gI 9 0 4), (4, aa_reti)]
theorem cd_109_0_ok : ab_Cd 109 cd_109_0 :=
  List.forall_mem_cons.mpr ⟨as_aload_n mk_109 (k := 0) (by decide +kernel) rfl rfl,
  List.forall_mem_cons.mpr ⟨as_gI mk_109 (ix := 40) (by decide +kernel) (fd_RX9_40 rfl) rfl,
  List.forall_mem_cons.mpr ⟨as_iret mk_109 (by decide +kernel) rfl,
  fun _ h => absurd h List.not_mem_nil⟩⟩⟩
def cd_109 : List (Nat × aa_Op) := cd_109_0
theorem cd_109_ok : ab_Cd 109 cd_109 := cd_109_0_ok
def cd_110_0 : List (Nat × aa_Op) := [(0, aa_lda 0 1), (1, aa_gI 9 3 4), (4, aa_reti)]
theorem cd_110_0_ok : ab_Cd 110 cd_110_0 :=
  List.forall_mem_cons.mpr ⟨as_aload_n mk_110 (k := 0) (by decide +kernel) rfl rfl,
  List.forall_mem_cons.mpr ⟨as_gI mk_110 (ix := 44) (by decide +kernel) (fd_RX9_44 rfl) rfl,
  List.forall_mem_cons.mpr ⟨as_iret mk_110 (by decide +kernel) rfl,
  fun _ h => absurd h List.not_mem_nil⟩⟩⟩
def cd_110 : List (Nat × aa_Op) := cd_110_0
theorem cd_110_ok : ab_Cd 110 cd_110 := cd_110_0_ok
def cd_111_0 : List (Nat × aa_Op) := [(0, aa_lda 0 1), (1, aa_gR 9 1 4), (4, aa_ldi 1 5), (5, aa_al 100 6), (6, aa_reti)]
theorem cd_111_0_ok : ab_Cd 111 cd_111_0 :=
  List.forall_mem_cons.mpr ⟨as_aload_n mk_111 (k := 0) (by decide +kernel) rfl rfl,
  List.forall_mem_cons.mpr ⟨as_gR mk_111 (ix := 9) (by decide +kernel) (fd_RX9_9 rfl) rfl,
  List.forall_mem_cons.mpr ⟨as_iload_n mk_111 (k := 1) (by decide +kernel) rfl rfl,
  List.forall_mem_cons.mpr ⟨as_al mk_111 (Or.inl ⟨rfl, by decide +kernel⟩) rfl,
  List.forall_mem_cons.mpr ⟨as_iret mk_111 (by decide +kernel) rfl,
  fun _ h => absurd h List.not_mem_nil⟩⟩⟩⟩⟩
def cd_111 : List (Nat × aa_Op) := cd_111_0
theorem cd_111_ok : ab_Cd 111 cd_111 := cd_111_0_ok
def cd_112_0 : List (Nat × aa_Op) := [(0, aa_lda 0 1), (1, aa_gR 9 2 4), (4, aa_ldi 1 5), (5, aa_al 100 6), (6, aa_reti)]
theorem cd_112_0_ok : ab_Cd 112 cd_112_0 :=
  List.forall_mem_cons.mpr ⟨as_aload_n mk_112 (k := 0) (by decide +kernel) rfl rfl,
  List.forall_mem_cons.mpr ⟨as_gR mk_112 (ix := 15) (by decide +kernel) (fd_RX9_15 rfl) rfl,
  List.forall_mem_cons.mpr ⟨as_iload_n mk_112 (k := 1) (by decide +kernel) rfl rfl,
  List.forall_mem_cons.mpr ⟨as_al mk_112 (Or.inl ⟨rfl, by decide +kernel⟩) rfl,
  List.forall_mem_cons.mpr ⟨as_iret mk_112 (by decide +kernel) rfl,
  fun _ h => absurd h List.not_mem_nil⟩⟩⟩⟩⟩
def cd_112 : List (Nat × aa_Op) := cd_112_0
theorem cd_112_ok : ab_Cd 112 cd_112 := cd_112_0_ok
def cd_113_0 : List (Nat × aa_Op) := [(0, aa_lda 0 1), (1, aa_gR 9 4 4), (4, aa_ldi 1 5), (5, aa_al 100 6), (6, aa_reti)]
theorem cd_113_0_ok : ab_Cd 113 cd_113_0 :=
  List.forall_mem_cons.mpr ⟨as_aload_n mk_113 (k := 0) (by decide +kernel) rfl rfl,
  List.forall_mem_cons.mpr ⟨as_gR mk_113 (ix := 18) (by decide +kernel) (fd_RX9_18 rfl) rfl,
  List.forall_mem_cons.mpr ⟨as_iload_n mk_113 (k := 1) (by decide +kernel) rfl rfl,
  List.forall_mem_cons.mpr ⟨as_al mk_113 (Or.inl ⟨rfl, by decide +kernel⟩) rfl,
  List.forall_mem_cons.mpr ⟨as_iret mk_113 (by decide +kernel) rfl,
  fun _ h => absurd h List.not_mem_nil⟩⟩⟩⟩⟩
def cd_113 : List (Nat × aa_Op) := cd_113_0
theorem cd_113_ok : ab_Cd 113 cd_113 := cd_113_0_ok
def cd_114_0 : List (Nat × aa_Op) := [(0, aa_lda 0 1), (1, aa_gR 9 5 4), (4, aa_ldi 1 5), (5, aa_al 100 6), (6, aa_reti)]
theorem cd_114_0_ok : ab_Cd 114 cd_114_0 :=
  List.forall_mem_cons.mpr ⟨as_aload_n mk_114 (k := 0) (by decide +kernel) rfl rfl,
  List.forall_mem_cons.mpr ⟨as_gR mk_114 (ix := 21) (by decide +kernel) (fd_RX9_21 rfl) rfl,
  List.forall_mem_cons.mpr ⟨as_iload_n mk_114 (k := 1) (by decide +kernel) rfl rfl,
  List.forall_mem_cons.mpr ⟨as_al mk_114 (Or.inl ⟨rfl, by decide +kernel⟩) rfl,
  List.forall_mem_cons.mpr ⟨as_iret mk_114 (by decide +kernel) rfl,
  fun _ h => absurd h List.not_mem_nil⟩⟩⟩⟩⟩
def cd_114 : List (Nat × aa_Op) := cd_114_0
theorem cd_114_ok : ab_Cd 114 cd_114 := cd_114_0_ok
def cd_115_0 : List (Nat × aa_Op) := [(0, aa_lda 0 1), (1, aa_gR 9 6 4), (4, aa_ldi 1 5), (5, aa_al 100 6), (6, aa_reti)]
theorem cd_115_0_ok : ab_Cd 115 cd_115_0 :=
  List.forall_mem_cons.mpr ⟨as_aload_n mk_115 (k := 0) (by decide +kernel) rfl rfl,
  List.forall_mem_cons.mpr ⟨as_gR mk_115 (ix := 24) (by decide +kernel) (fd_RX9_24 rfl) rfl,
  List.forall_mem_cons.mpr ⟨as_iload_n mk_115 (k := 1) (by decide +kernel) rfl rfl,
  List.forall_mem_cons.mpr ⟨as_al mk_115 (Or.inl ⟨rfl, by decide +kernel⟩) rfl,
  List.forall_mem_cons.mpr ⟨as_iret mk_115 (by decide +kernel) rfl,
  fun _ h => absurd h List.not_mem_nil⟩⟩⟩⟩⟩
def cd_115 : List (Nat × aa_Op) := cd_115_0
theorem cd_115_ok : ab_Cd 115 cd_115 := cd_115_0_ok
def cd_116_0 : List (Nat × aa_Op) := [(0, aa_lda 0 1), (1, aa_gR 9 8 4), (4, aa_ldi 1 5), (5, aa_al 100 6), (6, aa_if (fun x => x = 0) 9 13), (9, aa_pu (.int 1) 10), (10, aa_go 14), (13, aa_pu (.int 0) 14), (14, aa_retz)]
theorem cd_116_0_ok : ab_Cd 116 cd_116_0 :=
  List.forall_mem_cons.mpr ⟨as_aload_n mk_116 (k := 0) (by decide +kernel) rfl rfl,
  List.forall_mem_cons.mpr ⟨as_gR mk_116 (ix := 30) (by decide +kernel) (fd_RX9_30 rfl) rfl,
  List.forall_mem_cons.mpr ⟨as_iload_n mk_116 (k := 1) (by decide +kernel) rfl rfl,
  List.forall_mem_cons.mpr ⟨as_al mk_116 (Or.inl ⟨rfl, by decide +kernel⟩) rfl,
  List.forall_mem_cons.mpr ⟨as_if_ne mk_116 (off := 7) (by decide +kernel) (by decide +kernel) rfl,
  List.forall_mem_cons.mpr ⟨as_iconst mk_116 (n := 1) (by decide +kernel) (by decide +kernel) rfl,
  List.forall_mem_cons.mpr ⟨as_goto mk_116 (off := 4) (by decide +kernel) (by decide +kernel),
  List.forall_mem_cons.mpr ⟨as_iconst mk_116 (n := 0) (by decide +kernel) (by decide +kernel) rfl,
  List.forall_mem_cons.mpr ⟨as_zret mk_116 (by decide +kernel) rfl,
  fun _ h => absurd h List.not_mem_nil⟩⟩⟩⟩⟩⟩⟩⟩⟩
def cd_116 : List (Nat × aa_Op) := cd_116_0
theorem cd_116_ok : ab_Cd 116 cd_116 := cd_116_0_ok
def cd_117_0 : List (Nat × aa_Op) := [(0, aa_lda 0 1), (1, aa_gI 9 0 4), (4, aa_pu (.int 8) 6), (6, aa_icmp (fun x y => x < y) 12 9), (9, aa_pu (.int (-4)) 11), (11, aa_reti), (12, aa_lda 0 13), (13, aa_gR 9 1 16), (16, aa_lda 0 17), (17, aa_gI 9 0 20), (20, aa_ldi 1 21), (21, aa_as 100 (fun x => x) 22), (22, aa_lda 0 23), (23, aa_gR 9 2 26), (26, aa_lda 0 27), (27, aa_gI 9 0 30), (30, aa_ldi 2 31), (31, aa_as 100 (fun x => x) 32), (32, aa_lda 0 33), (33, aa_dup 34), (34, aa_gI 9 0 37), (37, aa_pu (.int 1) 38), (38, aa_bin (fun x y => x + y) 39), (39, aa_pI 9 0 42), (42, aa_lda 0 43), (43, aa_gI 9 0 46), (46, aa_pu (.int 1) 47), (47, aa_bin (fun x y => x - y) 48), (48, aa_reti)]
theorem cd_117_0_ok : ab_Cd 117 cd_117_0 :=
  List.forall_mem_cons.mpr ⟨as_aload_n mk_117 (k := 0) (by decide +kernel) rfl rfl,
  List.forall_mem_cons.mpr ⟨as_gI mk_117 (ix := 40) (by decide +kernel) (fd_RX9_40 rfl) rfl,
  List.forall_mem_cons.mpr ⟨as_bipush mk_117 (n := 8) (by decide +kernel) (by decide +kernel) rfl,
  List.forall_mem_cons.mpr ⟨as_icmp_lt mk_117 (off := 6) (by decide +kernel) (by decide +kernel) rfl,
  List.forall_mem_cons.mpr ⟨as_bipush mk_117 (n := (-4)) (by decide +kernel) (by decide +kernel) rfl,
  List.forall_mem_cons.mpr ⟨as_iret mk_117 (by decide +kernel) rfl,
  List.forall_mem_cons.mpr ⟨as_aload_n mk_117 (k := 0) (by decide +kernel) rfl rfl,
  List.forall_mem_cons.mpr ⟨as_gR mk_117 (ix := 9) (by decide +kernel) (fd_RX9_9 rfl) rfl,
  List.forall_mem_cons.mpr ⟨as_aload_n mk_117 (k := 0) (by decide +kernel) rfl rfl,
  List.forall_mem_cons.mpr ⟨as_gI mk_117 (ix := 40) (by decide +kernel) (fd_RX9_40 rfl) rfl,
  List.forall_mem_cons.mpr ⟨as_iload_n mk_117 (k := 1) (by decide +kernel) rfl rfl,
  List.forall_mem_cons.mpr ⟨as_as mk_117 (Or.inl ⟨rfl, fun _ => rfl, by decide +kernel⟩) rfl,
  List.forall_mem_cons.mpr ⟨as_aload_n mk_117 (k := 0) (by decide +kernel) rfl rfl,
  List.forall_mem_cons.mpr ⟨as_gR mk_117 (ix := 15) (by decide +kernel) (fd_RX9_15 rfl) rfl,
  List.forall_mem_cons.mpr ⟨as_aload_n mk_117 (k := 0) (by decide +kernel) rfl rfl,
  List.forall_mem_cons.mpr ⟨as_gI mk_117 (ix := 40) (by decide +kernel) (fd_RX9_40 rfl) rfl,
  List.forall_mem_cons.mpr ⟨as_iload_n mk_117 (k := 2) (by decide +kernel) rfl rfl,
  List.forall_mem_cons.mpr ⟨as_as mk_117 (Or.inl ⟨rfl, fun _ => rfl, by decide +kernel⟩) rfl,
  List.forall_mem_cons.mpr ⟨as_aload_n mk_117 (k := 0) (by decide +kernel) rfl rfl,
  List.forall_mem_cons.mpr ⟨as_dup mk_117 (by decide +kernel) rfl,
  List.forall_mem_cons.mpr ⟨as_gI mk_117 (ix := 40) (by decide +kernel) (fd_RX9_40 rfl) rfl,
  List.forall_mem_cons.mpr ⟨as_iconst mk_117 (n := 1) (by decide +kernel) (by decide +kernel) rfl,
  List.forall_mem_cons.mpr ⟨as_iadd mk_117 (by decide +kernel) rfl,
  List.forall_mem_cons.mpr ⟨as_pI mk_117 (ix := 40) (by decide +kernel) (fd_RX9_40 rfl) pt_9_0 rfl,
  List.forall_mem_cons.mpr ⟨as_aload_n mk_117 (k := 0) (by decide +kernel) rfl rfl,
  List.forall_mem_cons.mpr ⟨as_gI mk_117 (ix := 40) (by decide +kernel) (fd_RX9_40 rfl) rfl,
  List.forall_mem_cons.mpr ⟨as_iconst mk_117 (n := 1) (by decide +kernel) (by decide +kernel) rfl,
  List.forall_mem_cons.mpr ⟨as_isub mk_117 (by decide +kernel) rfl,
  List.forall_mem_cons.mpr ⟨as_iret mk_117 (by decide +kernel) rfl,
  fun _ h => absurd h List.not_mem_nil⟩⟩⟩⟩⟩⟩⟩⟩⟩⟩⟩⟩⟩⟩⟩⟩⟩⟩⟩⟩⟩⟩⟩⟩⟩⟩⟩⟩⟩
def cd_117 : List (Nat × aa_Op) := cd_117_0
theorem cd_117_ok : ab_Cd 117 cd_117 := cd_117_0_ok
def cd_118_0 : List (Nat × aa_Op) := [(0, aa_lda 0 1), (1, aa_gR 9 2 4), (4, aa_ldi 1 5), (5, aa_al 100 6), (6, aa_sti 3 7), (7, aa_lda 0 8), (8, aa_gR 9 2 11), (11, aa_ldi 1 12), (12, aa_ldi 2 13), (13, aa_as 100 (fun x => x) 14), (14, aa_ldi 3 15), (15, aa_reti)]
theorem cd_118_0_ok : ab_Cd 118 cd_118_0 :=
  List.forall_mem_cons.mpr ⟨as_aload_n mk_118 (k := 0) (by decide +kernel) rfl rfl,
  List.forall_mem_cons.mpr ⟨as_gR mk_118 (ix := 15) (by decide +kernel) (fd_RX9_15 rfl) rfl,
  List.forall_mem_cons.mpr ⟨as_iload_n mk_118 (k := 1) (by decide +kernel) rfl rfl,
  List.forall_mem_cons.mpr ⟨as_al mk_118 (Or.inl ⟨rfl, by decide +kernel⟩) rfl,
  List.forall_mem_cons.mpr ⟨as_istore_n mk_118 (k := 3) (by decide +kernel) rfl (by decide) rfl,
  List.forall_mem_cons.mpr ⟨as_aload_n mk_118 (k := 0) (by decide +kernel) rfl rfl,
  List.forall_mem_cons.mpr ⟨as_gR mk_118 (ix := 15) (by decide +kernel) (fd_RX9_15 rfl) rfl,
  List.forall_mem_cons.mpr ⟨as_iload_n mk_118 (k := 1) (by decide +kernel) rfl rfl,
  List.forall_mem_cons.mpr ⟨as_iload_n mk_118 (k := 2) (by decide +kernel) rfl rfl,
  List.forall_mem_cons.mpr ⟨as_as mk_118 (Or.inl ⟨rfl, fun _ => rfl, by decide +kernel⟩) rfl,
  List.forall_mem_cons.mpr ⟨as_iload_n mk_118 (k := 3) (by decide +kernel) rfl rfl,
  List.forall_mem_cons.mpr ⟨as_iret mk_118 (by decide +kernel) rfl,
  fun _ h => absurd h List.not_mem_nil⟩⟩⟩⟩⟩⟩⟩⟩⟩⟩⟩⟩
def cd_118 : List (Nat × aa_Op) := cd_118_0
theorem cd_118_ok : ab_Cd 118 cd_118 := cd_118_0_ok
def cd_119_0 : List (Nat × aa_Op) := [(0, aa_lda 0 1), (1, aa_gI 9 3 4), (4, aa_pu (.int 20) 6), (6, aa_icmp (fun x y => x < y) 12 9), (9, aa_pu (.int (-4)) 11), (11, aa_reti), (12, aa_lda 0 13), (13, aa_gR 9 4 16), (16, aa_lda 0 17), (17, aa_gI 9 3 20), (20, aa_ldi 1 21), (21, aa_as 100 (fun x => x) 22), (22, aa_lda 0 23), (23, aa_gR 9 5 26), (26, aa_lda 0 27), (27, aa_gI 9 3 30), (30, aa_ldi 2 31), (31, aa_as 100 (fun x => x) 32), (32, aa_lda 0 33), (33, aa_gR 9 6 36), (36, aa_lda 0 37), (37, aa_gI 9 3 40), (40, aa_ldi 3 41), (41, aa_as 100 (fun x => x) 42), (42, aa_lda 0 43), (43, aa_gR 9 7 46), (46, aa_lda 0 47), (47, aa_gI 9 3 50), (50, aa_ldi 4 52), (52, aa_as 100 (fun x => x) 53)]
theorem cd_119_0_ok : ab_Cd 119 cd_119_0 :=
  List.forall_mem_cons.mpr ⟨as_aload_n mk_119 (k := 0) (by decide +kernel) rfl rfl,
  List.forall_mem_cons.mpr ⟨as_gI mk_119 (ix := 44) (by decide +kernel) (fd_RX9_44 rfl) rfl,
  List.forall_mem_cons.mpr ⟨as_bipush mk_119 (n := 20) (by decide +kernel) (by decide +kernel) rfl,
  List.forall_mem_cons.mpr ⟨as_icmp_lt mk_119 (off := 6) (by decide +kernel) (by decide +kernel) rfl,
  List.forall_mem_cons.mpr ⟨as_bipush mk_119 (n := (-4)) (by decide +kernel) (by decide +kernel) rfl,
  List.forall_mem_cons.mpr ⟨as_iret mk_119 (by decide +kernel) rfl,
  List.forall_mem_cons.mpr ⟨as_aload_n mk_119 (k := 0) (by decide +kernel) rfl rfl,
  List.forall_mem_cons.mpr ⟨as_gR mk_119 (ix := 18) (by decide +kernel) (fd_RX9_18 rfl) rfl,
  List.forall_mem_cons.mpr ⟨as_aload_n mk_119 (k := 0) (by decide +kernel) rfl rfl,
  List.forall_mem_cons.mpr ⟨as_gI mk_119 (ix := 44) (by decide +kernel) (fd_RX9_44 rfl) rfl,
  List.forall_mem_cons.mpr ⟨as_iload_n mk_119 (k := 1) (by decide +kernel) rfl rfl,
  List.forall_mem_cons.mpr ⟨as_as mk_119 (Or.inl ⟨rfl, fun _ => rfl, by decide +kernel⟩) rfl,
  List.forall_mem_cons.mpr ⟨as_aload_n mk_119 (k := 0) (by decide +kernel) rfl rfl,
  List.forall_mem_cons.mpr ⟨as_gR mk_119 (ix := 21) (by decide +kernel) (fd_RX9_21 rfl) rfl,
  List.forall_mem_cons.mpr ⟨as_aload_n mk_119 (k := 0) (by decide +kernel) rfl rfl,
  List.forall_mem_cons.mpr ⟨as_gI mk_119 (ix := 44) (by decide +kernel) (fd_RX9_44 rfl) rfl,
  List.forall_mem_cons.mpr ⟨as_iload_n mk_119 (k := 2) (by decide +kernel) rfl rfl,
  List.forall_mem_cons.mpr ⟨as_as mk_119 (Or.inl ⟨rfl, fun _ => rfl, by decide +kernel⟩) rfl,
  List.forall_mem_cons.mpr ⟨as_aload_n mk_119 (k := 0) (by decide +kernel) rfl rfl,
  List.forall_mem_cons.mpr ⟨as_gR mk_119 (ix := 24) (by decide +kernel) (fd_RX9_24 rfl) rfl,
  List.forall_mem_cons.mpr ⟨as_aload_n mk_119 (k := 0) (by decide +kernel) rfl rfl,
  List.forall_mem_cons.mpr ⟨as_gI mk_119 (ix := 44) (by decide +kernel) (fd_RX9_44 rfl) rfl,
  List.forall_mem_cons.mpr ⟨as_iload_n mk_119 (k := 3) (by decide +kernel) rfl rfl,
  List.forall_mem_cons.mpr ⟨as_as mk_119 (Or.inl ⟨rfl, fun _ => rfl, by decide +kernel⟩) rfl,
  List.forall_mem_cons.mpr ⟨as_aload_n mk_119 (k := 0) (by decide +kernel) rfl rfl,
  List.forall_mem_cons.mpr ⟨as_gR mk_119 (ix := 27) (by decide +kernel) (fd_RX9_27 rfl) rfl,
  List.forall_mem_cons.mpr ⟨as_aload_n mk_119 (k := 0) (by decide +kernel) rfl rfl,
  List.forall_mem_cons.mpr ⟨as_gI mk_119 (ix := 44) (by decide +kernel) (fd_RX9_44 rfl) rfl,
  List.forall_mem_cons.mpr ⟨as_iload mk_119 (by decide +kernel) rfl,
  List.forall_mem_cons.mpr ⟨as_as mk_119 (Or.inl ⟨rfl, fun _ => rfl, by decide +kernel⟩) rfl,
  fun _ h => absurd h List.not_mem_nil⟩⟩⟩⟩⟩⟩⟩⟩⟩⟩⟩⟩⟩⟩⟩⟩⟩⟩⟩⟩⟩⟩⟩⟩⟩⟩⟩⟩⟩⟩
def cd_119_1 : List (Nat × aa_Op) := [(53, aa_lda 0 54), (54, aa_dup 55), (55, aa_gI 9 3 58), (58, aa_pu (.int 1) 59), (59, aa_bin (fun x y => x + y) 60), (60, aa_pI 9 3 63), (63, aa_lda 0 64), (64, aa_gI 9 3 67), (67, aa_pu (.int 1) 68), (68, aa_bin (fun x y => x - y) 69), (69, aa_reti)]
theorem cd_119_1_ok : ab_Cd 119 cd_119_1 :=
  List.forall_mem_cons.mpr ⟨as_aload_n mk_119 (k := 0) (by decide +kernel) rfl rfl,
  List.forall_mem_cons.mpr ⟨as_dup mk_119 (by decide +kernel) rfl,
  List.forall_mem_cons.mpr ⟨as_gI mk_119 (ix := 44) (by decide +kernel) (fd_RX9_44 rfl) rfl,
  List.forall_mem_cons.mpr ⟨as_iconst mk_119 (n := 1) (by decide +kernel) (by decide +kernel) rfl,
  List.forall_mem_cons.mpr ⟨as_iadd mk_119 (by decide +kernel) rfl,
  List.forall_mem_cons.mpr ⟨as_pI mk_119 (ix := 44) (by decide +kernel) (fd_RX9_44 rfl) pt_9_3 rfl,
  List.forall_mem_cons.mpr ⟨as_aload_n mk_119 (k := 0) (by decide +kernel) rfl rfl,
  List.forall_mem_cons.mpr ⟨as_gI mk_119 (ix := 44) (by decide +kernel) (fd_RX9_44 rfl) rfl,
  List.forall_mem_cons.mpr ⟨as_iconst mk_119 (n := 1) (by decide +kernel) (by decide +kernel) rfl,
  List.forall_mem_cons.mpr ⟨as_isub mk_119 (by decide +kernel) rfl,
  List.forall_mem_cons.mpr ⟨as_iret mk_119 (by decide +kernel) rfl,
  fun _ h => absurd h List.not_mem_nil⟩⟩⟩⟩⟩⟩⟩⟩⟩⟩⟩
def cd_119 : List (Nat × aa_Op) := cd_119_0 ++ (cd_119_1)
theorem cd_119_ok : ab_Cd 119 cd_119 := List.forall_mem_append.mpr ⟨cd_119_0_ok, cd_119_1_ok⟩
def cd_120_0 : List (Nat × aa_Op) := [(0, aa_ldi 2 1), (1, aa_sw 109 [(0, 48), (1, 56), (2, 64), (3, 72), (4, 80), (5, 88), (6, 95), (7, 102)]), (48, aa_lda 0 49), (49, aa_gR 9 4 52), (52, aa_ldi 1 53), (53, aa_al 100 54), (54, aa_i2l 55), (55, aa_retl), (56, aa_lda 0 57), (57, aa_gR 9 5 60), (60, aa_ldi 1 61), (61, aa_al 100 62), (62, aa_i2l 63), (63, aa_retl), (64, aa_lda 0 65), (65, aa_gR 9 6 68), (68, aa_ldi 1 69), (69, aa_al 100 70), (70, aa_i2l 71), (71, aa_retl), (72, aa_lda 0 73), (73, aa_gR 9 7 76), (76, aa_ldi 1 77), (77, aa_al 100 78), (78, aa_i2l 79), (79, aa_retl), (80, aa_lda 0 81), (81, aa_gR 9 8 84), (84, aa_ldi 1 85), (85, aa_al 100 86)]
theorem cd_120_0_ok : ab_Cd 120 cd_120_0 :=
  List.forall_mem_cons.mpr ⟨as_iload_n mk_120 (k := 2) (by decide +kernel) rfl rfl,
  List.forall_mem_cons.mpr ⟨sw_120_1,
  List.forall_mem_cons.mpr ⟨as_aload_n mk_120 (k := 0) (by decide +kernel) rfl rfl,
  List.forall_mem_cons.mpr ⟨as_gR mk_120 (ix := 18) (by decide +kernel) (fd_RX9_18 rfl) rfl,
  List.forall_mem_cons.mpr ⟨as_iload_n mk_120 (k := 1) (by decide +kernel) rfl rfl,
  List.forall_mem_cons.mpr ⟨as_al mk_120 (Or.inl ⟨rfl, by decide +kernel⟩) rfl,
  List.forall_mem_cons.mpr ⟨as_i2l mk_120 (by decide +kernel) rfl,
  List.forall_mem_cons.mpr ⟨as_lret mk_120 (by decide +kernel) rfl,
  List.forall_mem_cons.mpr ⟨as_aload_n mk_120 (k := 0) (by decide +kernel) rfl rfl,
  List.forall_mem_cons.mpr ⟨as_gR mk_120 (ix := 21) (by decide +kernel) (fd_RX9_21 rfl) rfl,
  List.forall_mem_cons.mpr ⟨as_iload_n mk_120 (k := 1) (by decide +kernel) rfl rfl,
  List.forall_mem_cons.mpr ⟨as_al mk_120 (Or.inl ⟨rfl, by decide +kernel⟩) rfl,
  List.forall_mem_cons.mpr ⟨as_i2l mk_120 (by decide +kernel) rfl,
  List.forall_mem_cons.mpr ⟨as_lret mk_120 (by decide +kernel) rfl,
  List.forall_mem_cons.mpr ⟨as_aload_n mk_120 (k := 0) (by decide +kernel) rfl rfl,
  List.forall_mem_cons.mpr ⟨as_gR mk_120 (ix := 24) (by decide +kernel) (fd_RX9_24 rfl) rfl,
  List.forall_mem_cons.mpr ⟨as_iload_n mk_120 (k := 1) (by decide +kernel) rfl rfl,
  List.forall_mem_cons.mpr ⟨as_al mk_120 (Or.inl ⟨rfl, by decide +kernel⟩) rfl,
  List.forall_mem_cons.mpr ⟨as_i2l mk_120 (by decide +kernel) rfl,
  List.forall_mem_cons.mpr ⟨as_lret mk_120 (by decide +kernel) rfl,
  List.forall_mem_cons.mpr ⟨as_aload_n mk_120 (k := 0) (by decide +kernel) rfl rfl,
  List.forall_mem_cons.mpr ⟨as_gR mk_120 (ix := 27) (by decide +kernel) (fd_RX9_27 rfl) rfl,
  List.forall_mem_cons.mpr ⟨as_iload_n mk_120 (k := 1) (by decide +kernel) rfl rfl,
  List.forall_mem_cons.mpr ⟨as_al mk_120 (Or.inl ⟨rfl, by decide +kernel⟩) rfl,
  List.forall_mem_cons.mpr ⟨as_i2l mk_120 (by decide +kernel) rfl,
  List.forall_mem_cons.mpr ⟨as_lret mk_120 (by decide +kernel) rfl,
  List.forall_mem_cons.mpr ⟨as_aload_n mk_120 (k := 0) (by decide +kernel) rfl rfl,
  List.forall_mem_cons.mpr ⟨as_gR mk_120 (ix := 30) (by decide +kernel) (fd_RX9_30 rfl) rfl,
  List.forall_mem_cons.mpr ⟨as_iload_n mk_120 (k := 1) (by decide +kernel) rfl rfl,
  List.forall_mem_cons.mpr ⟨as_al mk_120 (Or.inl ⟨rfl, by decide +kernel⟩) rfl,
  fun _ h => absurd h List.not_mem_nil⟩⟩⟩⟩⟩⟩⟩⟩⟩⟩⟩⟩⟩⟩⟩⟩⟩⟩⟩⟩⟩⟩⟩⟩⟩⟩⟩⟩⟩⟩
def cd_120_1 : List (Nat × aa_Op) := [(86, aa_i2l 87), (87, aa_retl), (88, aa_lda 0 89), (89, aa_ldi 1 90), (90, aa_ccv 126 1 3 9 aa_kI 93), (93, aa_i2l 94), (94, aa_retl), (95, aa_lda 0 96), (96, aa_ldi 1 97), (97, aa_ccv 125 1 2 9 aa_kI 100), (100, aa_i2l 101), (101, aa_retl), (102, aa_lda 0 103), (103, aa_ldi 1 104), (104, aa_ccv 127 1 3 9 aa_kI 107), (107, aa_i2l 108), (108, aa_retl), (109, aa_pu (.long (-4611686018427387904)) 112), (112, aa_retl)]
theorem cd_120_1_ok : ab_Cd 120 cd_120_1 :=
  List.forall_mem_cons.mpr ⟨as_i2l mk_120 (by decide +kernel) rfl,
  List.forall_mem_cons.mpr ⟨as_lret mk_120 (by decide +kernel) rfl,
  List.forall_mem_cons.mpr ⟨as_aload_n mk_120 (k := 0) (by decide +kernel) rfl rfl,
  List.forall_mem_cons.mpr ⟨as_iload_n mk_120 (k := 1) (by decide +kernel) rfl rfl,
  List.forall_mem_cons.mpr ⟨as_ccv mk_120 (ix := 47) aa_kI_ok (by decide +kernel) (cx_RX9_47 rfl) rfl,
  List.forall_mem_cons.mpr ⟨as_i2l mk_120 (by decide +kernel) rfl,
  List.forall_mem_cons.mpr ⟨as_lret mk_120 (by decide +kernel) rfl,
  List.forall_mem_cons.mpr ⟨as_aload_n mk_120 (k := 0) (by decide +kernel) rfl rfl,
  List.forall_mem_cons.mpr ⟨as_iload_n mk_120 (k := 1) (by decide +kernel) rfl rfl,
  List.forall_mem_cons.mpr ⟨as_ccv mk_120 (ix := 51) aa_kI_ok (by decide +kernel) (cx_RX9_51 rfl) rfl,
  List.forall_mem_cons.mpr ⟨as_i2l mk_120 (by decide +kernel) rfl,
  List.forall_mem_cons.mpr ⟨as_lret mk_120 (by decide +kernel) rfl,
  List.forall_mem_cons.mpr ⟨as_aload_n mk_120 (k := 0) (by decide +kernel) rfl rfl,
  List.forall_mem_cons.mpr ⟨as_iload_n mk_120 (k := 1) (by decide +kernel) rfl rfl,
  List.forall_mem_cons.mpr ⟨as_ccv mk_120 (ix := 54) aa_kI_ok (by decide +kernel) (cx_RX9_54 rfl) rfl,
  List.forall_mem_cons.mpr ⟨as_i2l mk_120 (by decide +kernel) rfl,
  List.forall_mem_cons.mpr ⟨as_lret mk_120 (by decide +kernel) rfl,
  List.forall_mem_cons.mpr ⟨as_ldc2 mk_120 (ix := 57) (by decide +kernel) (aa_bw 671 (by decide +kernel) rfl) rfl,
  List.forall_mem_cons.mpr ⟨as_lret mk_120 (by decide +kernel) rfl,
  fun _ h => absurd h List.not_mem_nil⟩⟩⟩⟩⟩⟩⟩⟩⟩⟩⟩⟩⟩⟩⟩⟩⟩⟩⟩
def cd_120 : List (Nat × aa_Op) := cd_120_0 ++ (cd_120_1)
theorem cd_120_ok : ab_Cd 120 cd_120 := List.forall_mem_append.mpr ⟨cd_120_0_ok, cd_120_1_ok⟩
def cd_121_0 : List (Nat × aa_Op) := [(0, aa_ldi 2 1), (1, aa_if (fun x => x = 0) 4 8), (4, aa_pu (.int 1) 5), (5, aa_go 18), (8, aa_ldi 2 9), (9, aa_pu (.int 1) 10), (10, aa_icmp (fun x y => x = y) 13 17), (13, aa_pu (.int 2) 14), (14, aa_go 18), (17, aa_pu (.int 0) 18), (18, aa_sti 3 19), (19, aa_lda 0 20), (20, aa_gR 9 8 23), (23, aa_ldi 1 24), (24, aa_al 100 25), (25, aa_ldi 3 26), (26, aa_icmp (fun x y => x = y) 31 29), (29, aa_pu (.int 0) 30), (30, aa_retz), (31, aa_lda 0 32), (32, aa_gR 9 8 35), (35, aa_ldi 1 36), (36, aa_ldi 3 37), (37, aa_if (fun x => x = 0) 40 44), (40, aa_pu (.int 2) 41), (41, aa_go 45), (44, aa_pu (.int 0) 45), (45, aa_as 100 (fun x => x) 46), (46, aa_pu (.int 1) 47), (47, aa_retz)]
theorem cd_121_0_ok : ab_Cd 121 cd_121_0 :=
  List.forall_mem_cons.mpr ⟨as_iload_n mk_121 (k := 2) (by decide +kernel) rfl rfl,
  List.forall_mem_cons.mpr ⟨as_if_ne mk_121 (off := 7) (by decide +kernel) (by decide +kernel) rfl,
  List.forall_mem_cons.mpr ⟨as_iconst mk_121 (n := 1) (by decide +kernel) (by decide +kernel) rfl,
  List.forall_mem_cons.mpr ⟨as_goto mk_121 (off := 13) (by decide +kernel) (by decide +kernel),
  List.forall_mem_cons.mpr ⟨as_iload_n mk_121 (k := 2) (by decide +kernel) rfl rfl,
  List.forall_mem_cons.mpr ⟨as_iconst mk_121 (n := 1) (by decide +kernel) (by decide +kernel) rfl,
  List.forall_mem_cons.mpr ⟨as_icmp_ne mk_121 (off := 7) (by decide +kernel) (by decide +kernel) rfl,
  List.forall_mem_cons.mpr ⟨as_iconst mk_121 (n := 2) (by decide +kernel) (by decide +kernel) rfl,
  List.forall_mem_cons.mpr ⟨as_goto mk_121 (off := 4) (by decide +kernel) (by decide +kernel),
  List.forall_mem_cons.mpr ⟨as_iconst mk_121 (n := 0) (by decide +kernel) (by decide +kernel) rfl,
  List.forall_mem_cons.mpr ⟨as_istore_n mk_121 (k := 3) (by decide +kernel) rfl (by decide) rfl,
  List.forall_mem_cons.mpr ⟨as_aload_n mk_121 (k := 0) (by decide +kernel) rfl rfl,
  List.forall_mem_cons.mpr ⟨as_gR mk_121 (ix := 30) (by decide +kernel) (fd_RX9_30 rfl) rfl,
  List.forall_mem_cons.mpr ⟨as_iload_n mk_121 (k := 1) (by decide +kernel) rfl rfl,
  List.forall_mem_cons.mpr ⟨as_al mk_121 (Or.inl ⟨rfl, by decide +kernel⟩) rfl,
  List.forall_mem_cons.mpr ⟨as_iload_n mk_121 (k := 3) (by decide +kernel) rfl rfl,
  List.forall_mem_cons.mpr ⟨as_icmp_eq mk_121 (off := 5) (by decide +kernel) (by decide +kernel) rfl,
  List.forall_mem_cons.mpr ⟨as_iconst mk_121 (n := 0) (by decide +kernel) (by decide +kernel) rfl,
  List.forall_mem_cons.mpr ⟨as_zret mk_121 (by decide +kernel) rfl,
  List.forall_mem_cons.mpr ⟨as_aload_n mk_121 (k := 0) (by decide +kernel) rfl rfl,
  List.forall_mem_cons.mpr ⟨as_gR mk_121 (ix := 30) (by decide +kernel) (fd_RX9_30 rfl) rfl,
  List.forall_mem_cons.mpr ⟨as_iload_n mk_121 (k := 1) (by decide +kernel) rfl rfl,
  List.forall_mem_cons.mpr ⟨as_iload_n mk_121 (k := 3) (by decide +kernel) rfl rfl,
  List.forall_mem_cons.mpr ⟨as_if_ne mk_121 (off := 7) (by decide +kernel) (by decide +kernel) rfl,
  List.forall_mem_cons.mpr ⟨as_iconst mk_121 (n := 2) (by decide +kernel) (by decide +kernel) rfl,
  List.forall_mem_cons.mpr ⟨as_goto mk_121 (off := 4) (by decide +kernel) (by decide +kernel),
  List.forall_mem_cons.mpr ⟨as_iconst mk_121 (n := 0) (by decide +kernel) (by decide +kernel) rfl,
  List.forall_mem_cons.mpr ⟨as_as mk_121 (Or.inl ⟨rfl, fun _ => rfl, by decide +kernel⟩) rfl,
  List.forall_mem_cons.mpr ⟨as_iconst mk_121 (n := 1) (by decide +kernel) (by decide +kernel) rfl,
  List.forall_mem_cons.mpr ⟨as_zret mk_121 (by decide +kernel) rfl,
  fun _ h => absurd h List.not_mem_nil⟩⟩⟩⟩⟩⟩⟩⟩⟩⟩⟩⟩⟩⟩⟩⟩⟩⟩⟩⟩⟩⟩⟩⟩⟩⟩⟩⟩⟩⟩
def cd_121 : List (Nat × aa_Op) := cd_121_0
theorem cd_121_ok : ab_Cd 121 cd_121 := cd_121_0_ok
def cd_122_0 : List (Nat × aa_Op) := [(0, aa_lda 0 1), (1, aa_gR 9 8 4), (4, aa_ldi 1 5), (5, aa_pu (.int 1) 6), (6, aa_as 100 (fun x => x) 7), (7, aa_lda 0 8), (8, aa_gR 9 9 11), (11, aa_ldi 1 12), (12, aa_ldi 2 13), (13, aa_as 100 (fun x => x) 14), (14, aa_retv)]
theorem cd_122_0_ok : ab_Cd 122 cd_122_0 :=
  List.forall_mem_cons.mpr ⟨as_aload_n mk_122 (k := 0) (by decide +kernel) rfl rfl,
  List.forall_mem_cons.mpr ⟨as_gR mk_122 (ix := 30) (by decide +kernel) (fd_RX9_30 rfl) rfl,
  List.forall_mem_cons.mpr ⟨as_iload_n mk_122 (k := 1) (by decide +kernel) rfl rfl,
  List.forall_mem_cons.mpr ⟨as_iconst mk_122 (n := 1) (by decide +kernel) (by decide +kernel) rfl,
  List.forall_mem_cons.mpr ⟨as_as mk_122 (Or.inl ⟨rfl, fun _ => rfl, by decide +kernel⟩) rfl,
  List.forall_mem_cons.mpr ⟨as_aload_n mk_122 (k := 0) (by decide +kernel) rfl rfl,
  List.forall_mem_cons.mpr ⟨as_gR mk_122 (ix := 33) (by decide +kernel) (fd_RX9_33 rfl) rfl,
  List.forall_mem_cons.mpr ⟨as_iload_n mk_122 (k := 1) (by decide +kernel) rfl rfl,
  List.forall_mem_cons.mpr ⟨as_iload_n mk_122 (k := 2) (by decide +kernel) rfl rfl,
  List.forall_mem_cons.mpr ⟨as_as mk_122 (Or.inl ⟨rfl, fun _ => rfl, by decide +kernel⟩) rfl,
  List.forall_mem_cons.mpr ⟨as_vret mk_122 (by decide +kernel) rfl,
  fun _ h => absurd h List.not_mem_nil⟩⟩⟩⟩⟩⟩⟩⟩⟩⟩⟩
def cd_122 : List (Nat × aa_Op) := cd_122_0
theorem cd_122_ok : ab_Cd 122 cd_122 := cd_122_0_ok
def cd_123_0 : List (Nat × aa_Op) := [(0, aa_pu (.int 0) 1), (1, aa_sti 2 2), (2, aa_pu (.int 0) 3), (3, aa_sti 3 4), (4, aa_ldi 3 5), (5, aa_lda 0 6), (6, aa_gI 9 3 9), (9, aa_icmp (fun x y => x < y) 12 31), (12, aa_lda 0 13), (13, aa_gR 9 8 16), (16, aa_ldi 3 17), (17, aa_al 100 18), (18, aa_ldi 1 19), (19, aa_icmp (fun x y => x = y) 22 25), (22, aa_inc 2 1 25), (25, aa_inc 3 1 28), (28, aa_go 4), (31, aa_ldi 2 32), (32, aa_reti)]
theorem cd_123_0_ok : ab_Cd 123 cd_123_0 :=
  List.forall_mem_cons.mpr ⟨as_iconst mk_123 (n := 0) (by decide +kernel) (by decide +kernel) rfl,
  List.forall_mem_cons.mpr ⟨as_istore_n mk_123 (k := 2) (by decide +kernel) rfl (by decide) rfl,
  List.forall_mem_cons.mpr ⟨as_iconst mk_123 (n := 0) (by decide +kernel) (by decide +kernel) rfl,
  List.forall_mem_cons.mpr ⟨as_istore_n mk_123 (k := 3) (by decide +kernel) rfl (by decide) rfl,
  List.forall_mem_cons.mpr ⟨as_iload_n mk_123 (k := 3) (by decide +kernel) rfl rfl,
  List.forall_mem_cons.mpr ⟨as_aload_n mk_123 (k := 0) (by decide +kernel) rfl rfl,
  List.forall_mem_cons.mpr ⟨as_gI mk_123 (ix := 44) (by decide +kernel) (fd_RX9_44 rfl) rfl,
  List.forall_mem_cons.mpr ⟨as_icmp_ge mk_123 (off := 22) (by decide +kernel) (by decide +kernel) rfl,
  List.forall_mem_cons.mpr ⟨as_aload_n mk_123 (k := 0) (by decide +kernel) rfl rfl,
  List.forall_mem_cons.mpr ⟨as_gR mk_123 (ix := 30) (by decide +kernel) (fd_RX9_30 rfl) rfl,
  List.forall_mem_cons.mpr ⟨as_iload_n mk_123 (k := 3) (by decide +kernel) rfl rfl,
  List.forall_mem_cons.mpr ⟨as_al mk_123 (Or.inl ⟨rfl, by decide +kernel⟩) rfl,
  List.forall_mem_cons.mpr ⟨as_iload_n mk_123 (k := 1) (by decide +kernel) rfl rfl,
  List.forall_mem_cons.mpr ⟨as_icmp_ne mk_123 (off := 6) (by decide +kernel) (by decide +kernel) rfl,
  List.forall_mem_cons.mpr ⟨as_iinc mk_123 (n := 1) (by decide +kernel) (by decide +kernel) (by decide) rfl,
  List.forall_mem_cons.mpr ⟨as_iinc mk_123 (n := 1) (by decide +kernel) (by decide +kernel) (by decide) rfl,
  List.forall_mem_cons.mpr ⟨as_goto mk_123 (off := (-24)) (by decide +kernel) (by decide +kernel),
  List.forall_mem_cons.mpr ⟨as_iload_n mk_123 (k := 2) (by decide +kernel) rfl rfl,
  List.forall_mem_cons.mpr ⟨as_iret mk_123 (by decide +kernel) rfl,
  fun _ h => absurd h List.not_mem_nil⟩⟩⟩⟩⟩⟩⟩⟩⟩⟩⟩⟩⟩⟩⟩⟩⟩⟩⟩
def cd_123 : List (Nat × aa_Op) := cd_123_0
theorem cd_123_ok : ab_Cd 123 cd_123 := cd_123_0_ok
