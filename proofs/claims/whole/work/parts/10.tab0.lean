/-! switches -/
theorem sw_32_21 : ab_Snd 32 21 (aa_sw 72 [(1, 48), (2, 55)]) := as_lsw mk_32 (dflt := 51) (pa := #[(1, 27), (2, 34)]) (len := 27) (by decide +kernel) (by decide +kernel) (by decide +kernel) (by
  intro q hq
  simp only [List.mem_cons, List.not_mem_nil, or_false] at hq
  rcases hq with rfl | rfl <;> exact ⟨_, rfl, by decide +kernel⟩) (by
  intro x hx
  show Op.lookupswitch.offset [(1, 27), (2, 34)] 51 x.toInt = 51
  rw [lv_osw (hx (1, 48) (List.mem_of_getElem? (i := 0) rfl)) (by decide +kernel)]
  rw [lv_osw (hx (2, 55) (List.mem_of_getElem? (i := 1) rfl)) (by decide +kernel)]
  rfl)
theorem sw_36_1 : ab_Snd 36 1 (aa_sw 86 [(0, 56), (1, 59), (2, 62), (3, 65), (4, 68), (5, 71), (6, 74), (7, 77), (8, 80), (9, 83)]) := as_tsw mk_36 (dflt := 85) (lo0 := 0) (hi := 9) (offs := #[55, 58, 61, 64, 67, 70, 73, 76, 79, 82]) (len := 55) (by decide +kernel) (by decide +kernel) (by
  intro q hq
  simp only [List.mem_cons, List.not_mem_nil, or_false] at hq
  rcases hq with rfl | rfl | rfl | rfl | rfl | rfl | rfl | rfl | rfl | rfl <;> exact ⟨by decide +kernel, by decide +kernel, _, rfl, by decide +kernel⟩) (by
  intro i hi
  have hi : i < 10 := hi
  rcases (show i = 0 ∨ i = 1 ∨ i = 2 ∨ i = 3 ∨ i = 4 ∨ i = 5 ∨ i = 6 ∨ i = 7 ∨ i = 8 ∨ i = 9 by omega) with rfl | rfl | rfl | rfl | rfl | rfl | rfl | rfl | rfl | rfl
  · exact Or.inr ⟨(0, 56), List.mem_of_getElem? (i := 0) rfl, by decide +kernel⟩
  · exact Or.inr ⟨(1, 59), List.mem_of_getElem? (i := 1) rfl, by decide +kernel⟩
  · exact Or.inr ⟨(2, 62), List.mem_of_getElem? (i := 2) rfl, by decide +kernel⟩
  · exact Or.inr ⟨(3, 65), List.mem_of_getElem? (i := 3) rfl, by decide +kernel⟩
  · exact Or.inr ⟨(4, 68), List.mem_of_getElem? (i := 4) rfl, by decide +kernel⟩
  · exact Or.inr ⟨(5, 71), List.mem_of_getElem? (i := 5) rfl, by decide +kernel⟩
  · exact Or.inr ⟨(6, 74), List.mem_of_getElem? (i := 6) rfl, by decide +kernel⟩
  · exact Or.inr ⟨(7, 77), List.mem_of_getElem? (i := 7) rfl, by decide +kernel⟩
  · exact Or.inr ⟨(8, 80), List.mem_of_getElem? (i := 8) rfl, by decide +kernel⟩
  · exact Or.inr ⟨(9, 83), List.mem_of_getElem? (i := 9) rfl, by decide +kernel⟩)
theorem sw_77_1 : ab_Snd 77 1 (aa_sw 110 [(20002, 40), (20003, 57), (20004, 74), (20005, 88), (20006, 102), (20007, 106)]) := as_tsw mk_77 (dflt := 109) (lo0 := 20002) (hi := 20007) (offs := #[39, 56, 73, 87, 101, 105]) (len := 39) (by decide +kernel) (by decide +kernel) (by
  intro q hq
  simp only [List.mem_cons, List.not_mem_nil, or_false] at hq
  rcases hq with rfl | rfl | rfl | rfl | rfl | rfl <;> exact ⟨by decide +kernel, by decide +kernel, _, rfl, by decide +kernel⟩) (by
  intro i hi
  have hi : i < 6 := hi
  rcases (show i = 0 ∨ i = 1 ∨ i = 2 ∨ i = 3 ∨ i = 4 ∨ i = 5 by omega) with rfl | rfl | rfl | rfl | rfl | rfl
  · exact Or.inr ⟨(20002, 40), List.mem_of_getElem? (i := 0) rfl, by decide +kernel⟩
  · exact Or.inr ⟨(20003, 57), List.mem_of_getElem? (i := 1) rfl, by decide +kernel⟩
  · exact Or.inr ⟨(20004, 74), List.mem_of_getElem? (i := 2) rfl, by decide +kernel⟩
  · exact Or.inr ⟨(20005, 88), List.mem_of_getElem? (i := 3) rfl, by decide +kernel⟩
  · exact Or.inr ⟨(20006, 102), List.mem_of_getElem? (i := 4) rfl, by decide +kernel⟩
  · exact Or.inr ⟨(20007, 106), List.mem_of_getElem? (i := 5) rfl, by decide +kernel⟩)
theorem sw_120_1 : ab_Snd 120 1 (aa_sw 109 [(0, 48), (1, 56), (2, 64), (3, 72), (4, 80), (5, 88), (6, 95), (7, 102)]) := as_tsw mk_120 (dflt := 108) (lo0 := 0) (hi := 7) (offs := #[47, 55, 63, 71, 79, 87, 94, 101]) (len := 47) (by decide +kernel) (by decide +kernel) (by
  intro q hq
  simp only [List.mem_cons, List.not_mem_nil, or_false] at hq
  rcases hq with rfl | rfl | rfl | rfl | rfl | rfl | rfl | rfl <;> exact ⟨by decide +kernel, by decide +kernel, _, rfl, by decide +kernel⟩) (by
  intro i hi
  have hi : i < 8 := hi
  rcases (show i = 0 ∨ i = 1 ∨ i = 2 ∨ i = 3 ∨ i = 4 ∨ i = 5 ∨ i = 6 ∨ i = 7 by omega) with rfl | rfl | rfl | rfl | rfl | rfl | rfl | rfl
  · exact Or.inr ⟨(0, 48), List.mem_of_getElem? (i := 0) rfl, by decide +kernel⟩
  · exact Or.inr ⟨(1, 56), List.mem_of_getElem? (i := 1) rfl, by decide +kernel⟩
  · exact Or.inr ⟨(2, 64), List.mem_of_getElem? (i := 2) rfl, by decide +kernel⟩
  · exact Or.inr ⟨(3, 72), List.mem_of_getElem? (i := 3) rfl, by decide +kernel⟩
  · exact Or.inr ⟨(4, 80), List.mem_of_getElem? (i := 4) rfl, by decide +kernel⟩
  · exact Or.inr ⟨(5, 88), List.mem_of_getElem? (i := 5) rfl, by decide +kernel⟩
  · exact Or.inr ⟨(6, 95), List.mem_of_getElem? (i := 6) rfl, by decide +kernel⟩
  · exact Or.inr ⟨(7, 102), List.mem_of_getElem? (i := 7) rfl, by decide +kernel⟩)
theorem sw_125_6 : ab_Snd 125 6 (aa_sw 68 [(2, 36), (3, 45), (4, 36), (5, 54)]) := as_tsw mk_125 (dflt := 62) (lo0 := 2) (hi := 5) (offs := #[30, 39, 30, 48]) (len := 30) (by decide +kernel) (by decide +kernel) (by
  intro q hq
  simp only [List.mem_cons, List.not_mem_nil, or_false] at hq
  rcases hq with rfl | rfl | rfl | rfl <;> exact ⟨by decide +kernel, by decide +kernel, _, rfl, by decide +kernel⟩) (by
  intro i hi
  have hi : i < 4 := hi
  rcases (show i = 0 ∨ i = 1 ∨ i = 2 ∨ i = 3 by omega) with rfl | rfl | rfl | rfl
  · exact Or.inr ⟨(2, 36), List.mem_of_getElem? (i := 0) rfl, by decide +kernel⟩
  · exact Or.inr ⟨(3, 45), List.mem_of_getElem? (i := 1) rfl, by decide +kernel⟩
  · exact Or.inr ⟨(4, 36), List.mem_of_getElem? (i := 2) rfl, by decide +kernel⟩
  · exact Or.inr ⟨(5, 54), List.mem_of_getElem? (i := 3) rfl, by decide +kernel⟩)
theorem sw_126_16 : ab_Snd 126 16 (aa_sw 76 [(1, 52), (2, 56), (3, 60), (4, 66), (5, 72)]) := as_tsw mk_126 (dflt := 60) (lo0 := 1) (hi := 5) (offs := #[36, 40, 44, 50, 56]) (len := 36) (by decide +kernel) (by decide +kernel) (by
  intro q hq
  simp only [List.mem_cons, List.not_mem_nil, or_false] at hq
  rcases hq with rfl | rfl | rfl | rfl | rfl <;> exact ⟨by decide +kernel, by decide +kernel, _, rfl, by decide +kernel⟩) (by
  intro i hi
  have hi : i < 5 := hi
  rcases (show i = 0 ∨ i = 1 ∨ i = 2 ∨ i = 3 ∨ i = 4 by omega) with rfl | rfl | rfl | rfl | rfl
  · exact Or.inr ⟨(1, 52), List.mem_of_getElem? (i := 0) rfl, by decide +kernel⟩
  · exact Or.inr ⟨(2, 56), List.mem_of_getElem? (i := 1) rfl, by decide +kernel⟩
  · exact Or.inr ⟨(3, 60), List.mem_of_getElem? (i := 2) rfl, by decide +kernel⟩
  · exact Or.inr ⟨(4, 66), List.mem_of_getElem? (i := 3) rfl, by decide +kernel⟩
  · exact Or.inr ⟨(5, 72), List.mem_of_getElem? (i := 4) rfl, by decide +kernel⟩)
theorem sw_132_23 : ab_Snd 132 23 (aa_sw 72 [(0, 48), (1, 60)]) := as_lsw mk_132 (dflt := 49) (pa := #[(0, 25), (1, 37)]) (len := 25) (by decide +kernel) (by decide +kernel) (by decide +kernel) (by
  intro q hq
  simp only [List.mem_cons, List.not_mem_nil, or_false] at hq
  rcases hq with rfl | rfl <;> exact ⟨_, rfl, by decide +kernel⟩) (by
  intro x hx
  show Op.lookupswitch.offset [(0, 25), (1, 37)] 49 x.toInt = 49
  rw [lv_osw (hx (0, 48) (List.mem_of_getElem? (i := 0) rfl)) (by decide +kernel)]
  rw [lv_osw (hx (1, 60) (List.mem_of_getElem? (i := 1) rfl)) (by decide +kernel)]
  rfl)
theorem sw_133_1 : ab_Snd 133 1 (aa_sw 65 [(0, 32), (1, 39), (2, 46), (3, 53)]) := as_tsw mk_133 (dflt := 64) (lo0 := 0) (hi := 3) (offs := #[31, 38, 45, 52]) (len := 31) (by decide +kernel) (by decide +kernel) (by
  intro q hq
  simp only [List.mem_cons, List.not_mem_nil, or_false] at hq
  rcases hq with rfl | rfl | rfl | rfl <;> exact ⟨by decide +kernel, by decide +kernel, _, rfl, by decide +kernel⟩) (by
  intro i hi
  have hi : i < 4 := hi
  rcases (show i = 0 ∨ i = 1 ∨ i = 2 ∨ i = 3 by omega) with rfl | rfl | rfl | rfl
  · exact Or.inr ⟨(0, 32), List.mem_of_getElem? (i := 0) rfl, by decide +kernel⟩
  · exact Or.inr ⟨(1, 39), List.mem_of_getElem? (i := 1) rfl, by decide +kernel⟩
  · exact Or.inr ⟨(2, 46), List.mem_of_getElem? (i := 2) rfl, by decide +kernel⟩
  · exact Or.inr ⟨(3, 53), List.mem_of_getElem? (i := 3) rfl, by decide +kernel⟩)
theorem sw_176_1 : ab_Snd 176 1 (aa_sw 202 [(0, 80), (1, 85), (2, 93), (3, 101), (4, 109), (5, 117), (6, 125), (7, 133), (8, 141), (9, 149), (10, 157), (11, 162), (12, 170), (13, 175), (14, 184), (15, 193)]) := as_tsw mk_176 (dflt := 201) (lo0 := 0) (hi := 15) (offs := #[79, 84, 92, 100, 108, 116, 124, 132, 140, 148, 156, 161, 169, 174, 183, 192]) (len := 79) (by decide +kernel) (by decide +kernel) (by
  intro q hq
  simp only [List.mem_cons, List.not_mem_nil, or_false] at hq
  rcases hq with rfl | rfl | rfl | rfl | rfl | rfl | rfl | rfl | rfl | rfl | rfl | rfl | rfl | rfl | rfl | rfl <;> exact ⟨by decide +kernel, by decide +kernel, _, rfl, by decide +kernel⟩) (by
  intro i hi
  have hi : i < 16 := hi
  rcases (show i = 0 ∨ i = 1 ∨ i = 2 ∨ i = 3 ∨ i = 4 ∨ i = 5 ∨ i = 6 ∨ i = 7 ∨ i = 8 ∨ i = 9 ∨ i = 10 ∨ i = 11 ∨ i = 12 ∨ i = 13 ∨ i = 14 ∨ i = 15 by omega) with rfl | rfl | rfl | rfl | rfl | rfl | rfl | rfl | rfl | rfl | rfl | rfl | rfl | rfl | rfl | rfl
  · exact Or.inr ⟨(0, 80), List.mem_of_getElem? (i := 0) rfl, by decide +kernel⟩
  · exact Or.inr ⟨(1, 85), List.mem_of_getElem? (i := 1) rfl, by decide +kernel⟩
  · exact Or.inr ⟨(2, 93), List.mem_of_getElem? (i := 2) rfl, by decide +kernel⟩
  · exact Or.inr ⟨(3, 101), List.mem_of_getElem? (i := 3) rfl, by decide +kernel⟩
  · exact Or.inr ⟨(4, 109), List.mem_of_getElem? (i := 4) rfl, by decide +kernel⟩
  · exact Or.inr ⟨(5, 117), List.mem_of_getElem? (i := 5) rfl, by decide +kernel⟩
  · exact Or.inr ⟨(6, 125), List.mem_of_getElem? (i := 6) rfl, by decide +kernel⟩
  · exact Or.inr ⟨(7, 133), List.mem_of_getElem? (i := 7) rfl, by decide +kernel⟩
  · exact Or.inr ⟨(8, 141), List.mem_of_getElem? (i := 8) rfl, by decide +kernel⟩
  · exact Or.inr ⟨(9, 149), List.mem_of_getElem? (i := 9) rfl, by decide +kernel⟩
  · exact Or.inr ⟨(10, 157), List.mem_of_getElem? (i := 10) rfl, by decide +kernel⟩
  · exact Or.inr ⟨(11, 162), List.mem_of_getElem? (i := 11) rfl, by decide +kernel⟩
  · exact Or.inr ⟨(12, 170), List.mem_of_getElem? (i := 12) rfl, by decide +kernel⟩
  · exact Or.inr ⟨(13, 175), List.mem_of_getElem? (i := 13) rfl, by decide +kernel⟩
  · exact Or.inr ⟨(14, 184), List.mem_of_getElem? (i := 14) rfl, by decide +kernel⟩
  · exact Or.inr ⟨(15, 193), List.mem_of_getElem? (i := 15) rfl, by decide +kernel⟩)
theorem sw_204_16 : ab_Snd 204 16 (aa_sw 74 [(0, 52), (1, 54), (2, 58), (3, 62), (4, 68)]) := as_tsw mk_204 (dflt := 58) (lo0 := 0) (hi := 4) (offs := #[36, 38, 42, 46, 52]) (len := 36) (by decide +kernel) (by decide +kernel) (by
  intro q hq
  simp only [List.mem_cons, List.not_mem_nil, or_false] at hq
  rcases hq with rfl | rfl | rfl | rfl | rfl <;> exact ⟨by decide +kernel, by decide +kernel, _, rfl, by decide +kernel⟩) (by
  intro i hi
  have hi : i < 5 := hi
  rcases (show i = 0 ∨ i = 1 ∨ i = 2 ∨ i = 3 ∨ i = 4 by omega) with rfl | rfl | rfl | rfl | rfl
  · exact Or.inr ⟨(0, 52), List.mem_of_getElem? (i := 0) rfl, by decide +kernel⟩
  · exact Or.inr ⟨(1, 54), List.mem_of_getElem? (i := 1) rfl, by decide +kernel⟩
  · exact Or.inr ⟨(2, 58), List.mem_of_getElem? (i := 2) rfl, by decide +kernel⟩
  · exact Or.inr ⟨(3, 62), List.mem_of_getElem? (i := 3) rfl, by decide +kernel⟩
  · exact Or.inr ⟨(4, 68), List.mem_of_getElem? (i := 4) rfl, by decide +kernel⟩)
theorem sw_207_13 : ab_Snd 207 13 (aa_sw 121 [(0, 60), (1, 68), (2, 76), (3, 84), (4, 92), (5, 100), (6, 107), (7, 114)]) := as_tsw mk_207 (dflt := 108) (lo0 := 0) (hi := 7) (offs := #[47, 55, 63, 71, 79, 87, 94, 101]) (len := 47) (by decide +kernel) (by decide +kernel) (by
  intro q hq
  simp only [List.mem_cons, List.not_mem_nil, or_false] at hq
  rcases hq with rfl | rfl | rfl | rfl | rfl | rfl | rfl | rfl <;> exact ⟨by decide +kernel, by decide +kernel, _, rfl, by decide +kernel⟩) (by
  intro i hi
  have hi : i < 8 := hi
  rcases (show i = 0 ∨ i = 1 ∨ i = 2 ∨ i = 3 ∨ i = 4 ∨ i = 5 ∨ i = 6 ∨ i = 7 by omega) with rfl | rfl | rfl | rfl | rfl | rfl | rfl | rfl
  · exact Or.inr ⟨(0, 60), List.mem_of_getElem? (i := 0) rfl, by decide +kernel⟩
  · exact Or.inr ⟨(1, 68), List.mem_of_getElem? (i := 1) rfl, by decide +kernel⟩
  · exact Or.inr ⟨(2, 76), List.mem_of_getElem? (i := 2) rfl, by decide +kernel⟩
  · exact Or.inr ⟨(3, 84), List.mem_of_getElem? (i := 3) rfl, by decide +kernel⟩
  · exact Or.inr ⟨(4, 92), List.mem_of_getElem? (i := 4) rfl, by decide +kernel⟩
  · exact Or.inr ⟨(5, 100), List.mem_of_getElem? (i := 5) rfl, by decide +kernel⟩
  · exact Or.inr ⟨(6, 107), List.mem_of_getElem? (i := 6) rfl, by decide +kernel⟩
  · exact Or.inr ⟨(7, 114), List.mem_of_getElem? (i := 7) rfl, by decide +kernel⟩)
theorem sw_226_1 : ab_Snd 226 1 (aa_sw 102 [(2, 44), (3, 58), (5, 72), (6, 83), (7, 94), (8, 98)]) := as_tsw mk_226 (dflt := 101) (lo0 := 2) (hi := 8) (offs := #[43, 57, 101, 71, 82, 93, 97]) (len := 43) (by decide +kernel) (by decide +kernel) (by
  intro q hq
  simp only [List.mem_cons, List.not_mem_nil, or_false] at hq
  rcases hq with rfl | rfl | rfl | rfl | rfl | rfl <;> exact ⟨by decide +kernel, by decide +kernel, _, rfl, by decide +kernel⟩) (by
  intro i hi
  have hi : i < 7 := hi
  rcases (show i = 0 ∨ i = 1 ∨ i = 2 ∨ i = 3 ∨ i = 4 ∨ i = 5 ∨ i = 6 by omega) with rfl | rfl | rfl | rfl | rfl | rfl | rfl
  · exact Or.inr ⟨(2, 44), List.mem_of_getElem? (i := 0) rfl, by decide +kernel⟩
  · exact Or.inr ⟨(3, 58), List.mem_of_getElem? (i := 1) rfl, by decide +kernel⟩
  · exact Or.inl rfl
  · exact Or.inr ⟨(5, 72), List.mem_of_getElem? (i := 2) rfl, by decide +kernel⟩
  · exact Or.inr ⟨(6, 83), List.mem_of_getElem? (i := 3) rfl, by decide +kernel⟩
  · exact Or.inr ⟨(7, 94), List.mem_of_getElem? (i := 4) rfl, by decide +kernel⟩
  · exact Or.inr ⟨(8, 98), List.mem_of_getElem? (i := 5) rfl, by decide +kernel⟩)
theorem sw_276_1 : ab_Snd 276 1 (aa_sw 154 [(0, 80), (1, 85), (2, 90), (3, 95), (4, 100), (5, 105), (6, 110), (7, 115), (8, 120), (9, 125), (10, 130), (11, 135), (12, 140), (13, 145), (14, 145), (15, 145)]) := as_tsw mk_276 (dflt := 153) (lo0 := 0) (hi := 15) (offs := #[79, 84, 89, 94, 99, 104, 109, 114, 119, 124, 129, 134, 139, 144, 144, 144]) (len := 79) (by decide +kernel) (by decide +kernel) (by
  intro q hq
  simp only [List.mem_cons, List.not_mem_nil, or_false] at hq
  rcases hq with rfl | rfl | rfl | rfl | rfl | rfl | rfl | rfl | rfl | rfl | rfl | rfl | rfl | rfl | rfl | rfl <;> exact ⟨by decide +kernel, by decide +kernel, _, rfl, by decide +kernel⟩) (by
  intro i hi
  have hi : i < 16 := hi
  rcases (show i = 0 ∨ i = 1 ∨ i = 2 ∨ i = 3 ∨ i = 4 ∨ i = 5 ∨ i = 6 ∨ i = 7 ∨ i = 8 ∨ i = 9 ∨ i = 10 ∨ i = 11 ∨ i = 12 ∨ i = 13 ∨ i = 14 ∨ i = 15 by omega) with rfl | rfl | rfl | rfl | rfl | rfl | rfl | rfl | rfl | rfl | rfl | rfl | rfl | rfl | rfl | rfl
  · exact Or.inr ⟨(0, 80), List.mem_of_getElem? (i := 0) rfl, by decide +kernel⟩
  · exact Or.inr ⟨(1, 85), List.mem_of_getElem? (i := 1) rfl, by decide +kernel⟩
  · exact Or.inr ⟨(2, 90), List.mem_of_getElem? (i := 2) rfl, by decide +kernel⟩
  · exact Or.inr ⟨(3, 95), List.mem_of_getElem? (i := 3) rfl, by decide +kernel⟩
  · exact Or.inr ⟨(4, 100), List.mem_of_getElem? (i := 4) rfl, by decide +kernel⟩
  · exact Or.inr ⟨(5, 105), List.mem_of_getElem? (i := 5) rfl, by decide +kernel⟩
  · exact Or.inr ⟨(6, 110), List.mem_of_getElem? (i := 6) rfl, by decide +kernel⟩
  · exact Or.inr ⟨(7, 115), List.mem_of_getElem? (i := 7) rfl, by decide +kernel⟩
  · exact Or.inr ⟨(8, 120), List.mem_of_getElem? (i := 8) rfl, by decide +kernel⟩
  · exact Or.inr ⟨(9, 125), List.mem_of_getElem? (i := 9) rfl, by decide +kernel⟩
  · exact Or.inr ⟨(10, 130), List.mem_of_getElem? (i := 10) rfl, by decide +kernel⟩
  · exact Or.inr ⟨(11, 135), List.mem_of_getElem? (i := 11) rfl, by decide +kernel⟩
  · exact Or.inr ⟨(12, 140), List.mem_of_getElem? (i := 12) rfl, by decide +kernel⟩
  · exact Or.inr ⟨(13, 145), List.mem_of_getElem? (i := 13) rfl, by decide +kernel⟩
  · exact Or.inr ⟨(14, 145), List.mem_of_getElem? (i := 14) rfl, by decide +kernel⟩
  · exact Or.inr ⟨(15, 145), List.mem_of_getElem? (i := 15) rfl, by decide +kernel⟩)
theorem sw_301_33 : ab_Snd 301 33 (aa_sw 1770 [(0, 224), (1, 247), (2, 290), (3, 333), (4, 366), (5, 399), (6, 452), (7, 486), (8, 519), (9, 542), (10, 566), (11, 629), (12, 642), (13, 665), (14, 699), (15, 732), (16, 755), (17, 768), (18, 791), (19, 814), (20, 837), (21, 890), (22, 943), (23, 976), (24, 1029), (25, 1052), (26, 1096), (27, 1119), (28, 1152), (29, 1195), (30, 1228), (31, 1261), (32, 1274), (33, 1327), (34, 1360), (35, 1393), (36, 1426), (37, 1479), (38, 1512), (39, 1535), (40, 1578), (41, 1621), (42, 1684), (43, 1737)]) := as_tsw mk_301 (dflt := 1737) (lo0 := 0) (hi := 43) (offs := #[191, 214, 257, 300, 333, 366, 419, 453, 486, 509, 533, 596, 609, 632, 666, 699, 722, 735, 758, 781, 804, 857, 910, 943, 996, 1019, 1063, 1086, 1119, 1162, 1195, 1228, 1241, 1294, 1327, 1360, 1393, 1446, 1479, 1502, 1545, 1588, 1651, 1704]) (len := 191) (by decide +kernel) (by decide +kernel) (by
  intro q hq
  simp only [List.mem_cons, List.not_mem_nil, or_false] at hq
  rcases hq with rfl | rfl | rfl | rfl | rfl | rfl | rfl | rfl | rfl | rfl | rfl | rfl | rfl | rfl | rfl | rfl | rfl | rfl | rfl | rfl | rfl | rfl | rfl | rfl | rfl | rfl | rfl | rfl | rfl | rfl | rfl | rfl | rfl | rfl | rfl | rfl | rfl | rfl | rfl | rfl | rfl | rfl | rfl | rfl <;> exact ⟨by decide +kernel, by decide +kernel, _, rfl, by decide +kernel⟩) (by
  intro i hi
  have hi : i < 44 := hi
  rcases (show i = 0 ∨ i = 1 ∨ i = 2 ∨ i = 3 ∨ i = 4 ∨ i = 5 ∨ i = 6 ∨ i = 7 ∨ i = 8 ∨ i = 9 ∨ i = 10 ∨ i = 11 ∨ i = 12 ∨ i = 13 ∨ i = 14 ∨ i = 15 ∨ i = 16 ∨ i = 17 ∨ i = 18 ∨ i = 19 ∨ i = 20 ∨ i = 21 ∨ i = 22 ∨ i = 23 ∨ i = 24 ∨ i = 25 ∨ i = 26 ∨ i = 27 ∨ i = 28 ∨ i = 29 ∨ i = 30 ∨ i = 31 ∨ i = 32 ∨ i = 33 ∨ i = 34 ∨ i = 35 ∨ i = 36 ∨ i = 37 ∨ i = 38 ∨ i = 39 ∨ i = 40 ∨ i = 41 ∨ i = 42 ∨ i = 43 by omega) with rfl | rfl | rfl | rfl | rfl | rfl | rfl | rfl | rfl | rfl | rfl | rfl | rfl | rfl | rfl | rfl | rfl | rfl | rfl | rfl | rfl | rfl | rfl | rfl | rfl | rfl | rfl | rfl | rfl | rfl | rfl | rfl | rfl | rfl | rfl | rfl | rfl | rfl | rfl | rfl | rfl | rfl | rfl | rfl
  · exact Or.inr ⟨(0, 224), List.mem_of_getElem? (i := 0) rfl, by decide +kernel⟩
  · exact Or.inr ⟨(1, 247), List.mem_of_getElem? (i := 1) rfl, by decide +kernel⟩
  · exact Or.inr ⟨(2, 290), List.mem_of_getElem? (i := 2) rfl, by decide +kernel⟩
  · exact Or.inr ⟨(3, 333), List.mem_of_getElem? (i := 3) rfl, by decide +kernel⟩
  · exact Or.inr ⟨(4, 366), List.mem_of_getElem? (i := 4) rfl, by decide +kernel⟩
  · exact Or.inr ⟨(5, 399), List.mem_of_getElem? (i := 5) rfl, by decide +kernel⟩
  · exact Or.inr ⟨(6, 452), List.mem_of_getElem? (i := 6) rfl, by decide +kernel⟩
  · exact Or.inr ⟨(7, 486), List.mem_of_getElem? (i := 7) rfl, by decide +kernel⟩
  · exact Or.inr ⟨(8, 519), List.mem_of_getElem? (i := 8) rfl, by decide +kernel⟩
  · exact Or.inr ⟨(9, 542), List.mem_of_getElem? (i := 9) rfl, by decide +kernel⟩
  · exact Or.inr ⟨(10, 566), List.mem_of_getElem? (i := 10) rfl, by decide +kernel⟩
  · exact Or.inr ⟨(11, 629), List.mem_of_getElem? (i := 11) rfl, by decide +kernel⟩
  · exact Or.inr ⟨(12, 642), List.mem_of_getElem? (i := 12) rfl, by decide +kernel⟩
  · exact Or.inr ⟨(13, 665), List.mem_of_getElem? (i := 13) rfl, by decide +kernel⟩
  · exact Or.inr ⟨(14, 699), List.mem_of_getElem? (i := 14) rfl, by decide +kernel⟩
  · exact Or.inr ⟨(15, 732), List.mem_of_getElem? (i := 15) rfl, by decide +kernel⟩
  · exact Or.inr ⟨(16, 755), List.mem_of_getElem? (i := 16) rfl, by decide +kernel⟩
  · exact Or.inr ⟨(17, 768), List.mem_of_getElem? (i := 17) rfl, by decide +kernel⟩
  · exact Or.inr ⟨(18, 791), List.mem_of_getElem? (i := 18) rfl, by decide +kernel⟩
  · exact Or.inr ⟨(19, 814), List.mem_of_getElem? (i := 19) rfl, by decide +kernel⟩
  · exact Or.inr ⟨(20, 837), List.mem_of_getElem? (i := 20) rfl, by decide +kernel⟩
  · exact Or.inr ⟨(21, 890), List.mem_of_getElem? (i := 21) rfl, by decide +kernel⟩
  · exact Or.inr ⟨(22, 943), List.mem_of_getElem? (i := 22) rfl, by decide +kernel⟩
  · exact Or.inr ⟨(23, 976), List.mem_of_getElem? (i := 23) rfl, by decide +kernel⟩
  · exact Or.inr ⟨(24, 1029), List.mem_of_getElem? (i := 24) rfl, by decide +kernel⟩
  · exact Or.inr ⟨(25, 1052), List.mem_of_getElem? (i := 25) rfl, by decide +kernel⟩
  · exact Or.inr ⟨(26, 1096), List.mem_of_getElem? (i := 26) rfl, by decide +kernel⟩
  · exact Or.inr ⟨(27, 1119), List.mem_of_getElem? (i := 27) rfl, by decide +kernel⟩
  · exact Or.inr ⟨(28, 1152), List.mem_of_getElem? (i := 28) rfl, by decide +kernel⟩
  · exact Or.inr ⟨(29, 1195), List.mem_of_getElem? (i := 29) rfl, by decide +kernel⟩
  · exact Or.inr ⟨(30, 1228), List.mem_of_getElem? (i := 30) rfl, by decide +kernel⟩
  · exact Or.inr ⟨(31, 1261), List.mem_of_getElem? (i := 31) rfl, by decide +kernel⟩
  · exact Or.inr ⟨(32, 1274), List.mem_of_getElem? (i := 32) rfl, by decide +kernel⟩
  · exact Or.inr ⟨(33, 1327), List.mem_of_getElem? (i := 33) rfl, by decide +kernel⟩
  · exact Or.inr ⟨(34, 1360), List.mem_of_getElem? (i := 34) rfl, by decide +kernel⟩
  · exact Or.inr ⟨(35, 1393), List.mem_of_getElem? (i := 35) rfl, by decide +kernel⟩
  · exact Or.inr ⟨(36, 1426), List.mem_of_getElem? (i := 36) rfl, by decide +kernel⟩
  · exact Or.inr ⟨(37, 1479), List.mem_of_getElem? (i := 37) rfl, by decide +kernel⟩
  · exact Or.inr ⟨(38, 1512), List.mem_of_getElem? (i := 38) rfl, by decide +kernel⟩
  · exact Or.inr ⟨(39, 1535), List.mem_of_getElem? (i := 39) rfl, by decide +kernel⟩
  · exact Or.inr ⟨(40, 1578), List.mem_of_getElem? (i := 40) rfl, by decide +kernel⟩
  · exact Or.inr ⟨(41, 1621), List.mem_of_getElem? (i := 41) rfl, by decide +kernel⟩
  · exact Or.inr ⟨(42, 1684), List.mem_of_getElem? (i := 42) rfl, by decide +kernel⟩
  · exact Or.inr ⟨(43, 1737), List.mem_of_getElem? (i := 43) rfl, by decide +kernel⟩)
