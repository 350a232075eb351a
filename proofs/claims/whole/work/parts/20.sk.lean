/-! the memory behind the constructors; stretches of instructions with the locals that are still wanted -/
def ac_SK : aa_Sk := [(10, 14, [2, 30, 39, 43, 55, 61, 65, 73, 81, 86, 87, 0, 0, 0]),
  (4, 3, [3, 12, 21]),
  (103, 8, [4, 5, 6, 7, 8, 9, 10, 11]),
  (100, 8, []),
  (100, 8, []),
  (100, 8, []),
  (100, 8, []),
  (100, 8, []),
  (100, 8, []),
  (100, 8, []),
  (100, 8, []),
  (103, 8, [13, 14, 15, 16, 17, 18, 19, 20]),
  (100, 8, []),
  (100, 8, []),
  (100, 8, []),
  (100, 8, []),
  (100, 8, []),
  (100, 8, []),
  (100, 8, []),
  (100, 8, []),
  (103, 8, [22, 23, 24, 25, 26, 27, 28, 29]),
  (100, 8, []),
  (100, 8, []),
  (100, 8, []),
  (100, 8, []),
  (100, 8, []),
  (100, 8, []),
  (100, 8, []),
  (100, 8, []),
  (9, 10, [0, 31, 32, 0, 33, 34, 35, 36, 37, 38]),
  (100, 8, []),
  (100, 8, []),
  (100, 20, []),
  (100, 20, []),
  (100, 20, []),
  (100, 20, []),
  (100, 20, []),
  (100, 20, []),
  (2, 5, [30, 0, 40, 41, 42]),
  (100, 30, []),
  (100, 30, []),
  (100, 30, []),
  (7, 16, [2, 39, 0, 44, 0, 45, 46, 47, 48, 49, 0, 50, 51, 52, 53, 54]),
  (100, 12, []),
  (100, 40, []),
  (100, 40, []),
  (100, 40, []),
  (100, 40, []),
  (100, 40, []),
  (100, 24, []),
  (100, 24, []),
  (100, 24, []),
  (100, 24, []),
  (100, 24, []),
  (1, 6, [0, 56, 57, 58, 59, 60]),
  (100, 40, []),
  (100, 40, []),
  (100, 40, []),
  (100, 12, []),
  (100, 12, []),
  (0, 4, [0, 62, 63, 64]),
  (100, 8, []),
  (100, 8, []),
  (100, 8, []),
  (8, 2, [0, 66]),
  (103, 6, [67, 68, 69, 70, 71, 72]),
  (100, 5, []),
  (100, 5, []),
  (100, 5, []),
  (100, 5, []),
  (100, 5, []),
  (100, 5, []),
  (5, 3, [74, 75, 76]),
  (100, 4, []),
  (100, 4, []),
  (103, 4, [77, 78, 79, 80]),
  (100, 40, []),
  (100, 40, []),
  (100, 40, []),
  (100, 40, []),
  (3, 9, [82, 0, 83, 84, 85, 0, 0, 0, 0]),
  (101, 160, []),
  (100, 161, []),
  (100, 161, []),
  (100, 161, []),
  (102, 6, [88, 91, 94, 97, 100, 103]),
  (100, 6, []),
  (6, 4, [89, 90, 0, 0]),
  (100, 160, []),
  (100, 64, []),
  (6, 4, [92, 93, 0, 0]),
  (100, 160, []),
  (100, 64, []),
  (6, 4, [95, 96, 0, 0]),
  (100, 160, []),
  (100, 64, []),
  (6, 4, [98, 99, 0, 0]),
  (100, 160, []),
  (100, 64, []),
  (6, 4, [101, 102, 0, 0]),
  (100, 160, []),
  (100, 64, []),
  (6, 4, [104, 105, 0, 0]),
  (100, 160, []),
  (100, 64, []),
  (11, 67, [107, 108, 0, 109, 110, 111, 112, 113, 114, 115, 116, 0, 0, 117, 118, 119, 120, 121, 122, 0, 0, 0, 0, 0, 0, 0, 0, 0, 0, 123, 124, 125, 126, 127, 0, 128, 129, 130, 131, 132, 133, 134, 135, 136, 137, 138, 0, 0, 0, 139, 140, 141, 142, 143, 0, 144, 145, 146, 0, 147, 0, 0, 0, 148, 149, 150, 151]),
  (100, 64, []),
  (100, 64, []),
  (100, 8, []),
  (100, 8, []),
  (100, 20, []),
  (100, 20, []),
  (100, 20, []),
  (100, 20, []),
  (100, 20, []),
  (100, 20, []),
  (100, 160, []),
  (100, 2000, []),
  (100, 2000, []),
  (100, 12, []),
  (100, 12, []),
  (100, 200, []),
  (100, 6, []),
  (100, 200, []),
  (100, 30, []),
  (100, 30, []),
  (100, 30, []),
  (100, 12, []),
  (100, 40, []),
  (100, 40, []),
  (100, 40, []),
  (100, 40, []),
  (100, 40, []),
  (100, 24, []),
  (100, 24, []),
  (100, 24, []),
  (100, 24, []),
  (100, 24, []),
  (100, 40, []),
  (100, 40, []),
  (100, 40, []),
  (100, 40, []),
  (100, 12, []),
  (100, 8, []),
  (100, 8, []),
  (100, 8, []),
  (100, 30, []),
  (100, 4, []),
  (100, 4, []),
  (100, 160, []),
  (100, 40, [])]
def aa_nthI : List Int32 → Nat → Int32
  | [], _ => 0
  | x :: _, 0 => x
  | _ :: t, n + 1 => aa_nthI t n
def aa_nthL2 : List (List Int32) → Nat → List Int32
  | [], _ => []
  | x :: _, 0 => x
  | _ :: t, n + 1 => aa_nthL2 t n
/-- the rows that nobody writes: UNDER, POWERS, the script, the bytes of the String constants -/
def ac_ST (L : Nat) (xs : Nat → Int32) : aa_St := fun j => match j with
  | 0 => (100, 6, aa_nthI [-1, 0, 0, 1, 2, 1])
  | 1 => (100, 6, aa_nthI [1, 3, 9, 27, 81, 243])
  | 2 => (100, L, xs)
  | j => if 100 ≤ j ∧ j < 112 then (101, aa_nth ac_len (j - 100), aa_nthI (aa_nthL2 ac_byt (j - 100))) else (0, 0, fun _ => 0)
def aa_msk : List Bool → aa_Lo → aa_Lo
  | [], l => l
  | _ :: _, [] => []
  | true :: m, x :: t => x :: aa_msk m t
  | false :: m, _ :: t => none :: aa_msk m t
def aa_mf : List (Nat × List Bool) → Nat → List Bool
  | [], _ => []
  | q :: t, n => (match Nat.beq q.1 n with
    | true => q.2
    | false => aa_mf t n)
def aa_keys : List (Nat × List Bool) → List Nat
  | [] => []
  | q :: t => q.1 :: aa_keys t
theorem aa_msk_len : ∀ (m : List Bool) (lo : aa_Lo), (aa_msk m lo).length = lo.length
  | [], lo => rfl
  | _ :: _, [] => rfl
  | true :: m, x :: t => by simp [aa_msk, aa_msk_len m t]
  | false :: m, x :: t => by simp [aa_msk, aa_msk_len m t]
theorem aa_msk_out : ∀ (m : List Bool) (lo : aa_Lo) (i : Nat) (v : Value), aa_lg (aa_msk m lo) i = some v → aa_lg lo i = some v
  | [], lo, i, v, h => h
  | _ :: _, [], i, v, h => by simp [aa_msk, aa_lg] at h
  | true :: m, x :: t, 0, v, h => by simpa [aa_msk, aa_lg] using h
  | true :: m, x :: t, i + 1, v, h => by
    simp only [aa_msk, aa_lg] at h ⊢
    exact aa_msk_out m t i v h
  | false :: m, x :: t, 0, v, h => by simp [aa_msk, aa_lg] at h
  | false :: m, x :: t, i + 1, v, h => by
    simp only [aa_msk, aa_lg] at h ⊢
    exact aa_msk_out m t i v h
theorem ab_J.lo {G : ab_G} {ST : aa_St} {l : Launch} {d mm pc : Nat} {lo : aa_Lo} {st : List Value} {sk skr : aa_Sk} {V : aa_V} {K : aa_K} (m : List Bool) (h : ab_J G ST l d mm pc (aa_msk m lo) st sk V skr K) : ab_J G ST l d mm pc lo st sk V skr K := by
  intro M p e R s m' args below meth c Qw H locs cells slots ls hM hC hH hL hc hs hret
  exact h M p e R s m' args below meth c Qw H locs cells slots ls hM hC hH ⟨hL.1, hL.2.1, (aa_msk_len m lo).trans hL.2.2.1, fun i v hi => hL.2.2.2 i v (aa_msk_out m lo i v hi)⟩ hc hs hret
theorem ab_wg {mm : Nat} {cd : List (Nat × aa_Op)} (hcd : ab_Cd mm cd) {G : ab_G} {ST : aa_St} {l : Launch} {d : Nat} {sk : aa_Sk} {K : aa_K} {stops : List Nat} {inv : aa_Go} (hinv : ∀ (pc : Nat) (lo : aa_Lo) (st : List Value) (V : aa_V), inv pc lo st V → ab_J G ST l (d + 1) mm pc lo st sk V sk K) : ∀ (f pc : Nat) (lo : aa_Lo) (st : List Value) (V : aa_V),
    aa_wp cd stops sk ST (ab_E G ST l d sk) K inv f pc lo st V → ab_J G ST l (d + 1) mm pc lo st sk V sk K
  | 0, pc, lo, st, V, h => h.elim
  | f + 1, pc, lo, st, V, h => by
    simp only [aa_wp] at h
    cases hf : aa_find cd pc with
    | none => rw [hf] at h; exact h.elim
    | some op =>
      rw [hf] at h
      refine hcd _ (aa_find_in cd pc op hf) G ST l d lo st sk V sk K K _ (fun _ _ h => ⟨rfl, h⟩) h ?_
      intro pc' lo' st' V' h'
      cases hm : aa_mem stops pc' with
      | true => rw [hm] at h'; exact hinv _ _ _ _ h'
      | false => rw [hm] at h'; exact ab_wg hcd hinv f pc' lo' st' V' h'
theorem ab_wm {mm : Nat} {cd : List (Nat × aa_Op)} (hcd : ab_Cd mm cd) {G : ab_G} {ST : aa_St} {l : Launch} {d : Nat} {sk : aa_Sk} {K : aa_K} (ms : List (Nat × List Bool)) (f pc : Nat) (lo : aa_Lo) (st : List Value) (V : aa_V)
    (h : aa_wp cd (aa_keys ms) sk ST (ab_E G ST l d sk) K (fun pc' lo' st' V' => ab_J G ST l (d + 1) mm pc' (aa_msk (aa_mf ms pc') lo') st' sk V' sk K) f pc lo st V) : ab_J G ST l (d + 1) mm pc lo st sk V sk K :=
  ab_wg hcd (fun _ _ _ _ h => ab_J.lo _ h) f pc lo st V h
