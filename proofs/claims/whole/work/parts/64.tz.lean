/-! tokens: what stands from a place on -/
abbrev tz_b (x : Int32) : Prop := x = 32 ∨ x = 10
abbrev tz_l (x : Int32) : Prop := ¬ x < 97 ∧ ¬ 122 < x
abbrev tz_d (x : Int32) : Prop := ¬ x < 48 ∧ ¬ 57 < x
def tz_o (x : Int32) : Int32 := if tz_b x then 0 else if tz_l x then 1 else if tz_d x then 2 else 3
theorem tz_o0 {x : Int32} : tz_o x = 0 ↔ tz_b x := by
  unfold tz_o
  by_cases h : tz_b x
  · rw [if_pos h]; exact ⟨fun _ => h, fun _ => rfl⟩
  · rw [if_neg h]
    refine ⟨fun q => absurd q ?_, fun q => absurd q h⟩
    by_cases h2 : tz_l x
    · rw [if_pos h2]; decide
    · rw [if_neg h2]
      by_cases h3 : tz_d x
      · rw [if_pos h3]; decide
      · rw [if_neg h3]; decide
theorem tz_nlb {x : Int32} (h : tz_l x) : ¬ tz_b x := fun q => by
  rcases q with q | q <;> rw [q] at h <;> exact absurd h (by decide)
theorem tz_ndb {x : Int32} (h : tz_d x) : ¬ tz_b x := fun q => by
  rcases q with q | q <;> rw [q] at h <;> exact absurd h (by decide)
theorem tz_ndl {x : Int32} (h : tz_d x) : ¬ tz_l x := fun q => by
  have a := h.2
  have b := q.1
  rw [zz_lt, show (57 : Int32).toInt = 57 by decide] at a
  rw [zz_lt, show (97 : Int32).toInt = 97 by decide] at b
  omega
theorem tz_o1 {x : Int32} : tz_o x = 1 ↔ tz_l x := by
  unfold tz_o
  by_cases h2 : tz_l x
  · rw [if_neg (tz_nlb h2), if_pos h2]; exact ⟨fun _ => h2, fun _ => rfl⟩
  · refine ⟨fun q => absurd q ?_, fun q => absurd q h2⟩
    by_cases h : tz_b x
    · rw [if_pos h]; decide
    · rw [if_neg h, if_neg h2]
      by_cases h3 : tz_d x
      · rw [if_pos h3]; decide
      · rw [if_neg h3]; decide
theorem tz_o2 {x : Int32} : tz_o x = 2 ↔ tz_d x := by
  unfold tz_o
  by_cases h2 : tz_d x
  · rw [if_neg (tz_ndb h2), if_neg (tz_ndl h2), if_pos h2]; exact ⟨fun _ => h2, fun _ => rfl⟩
  · refine ⟨fun q => absurd q ?_, fun q => absurd q h2⟩
    by_cases h : tz_b x
    · rw [if_pos h]; decide
    · rw [if_neg h]
      by_cases h3 : tz_l x
      · rw [if_pos h3]; decide
      · rw [if_neg h3, if_neg h2]; decide
theorem tz_o3 {x : Int32} (h0 : ¬ tz_b x) (h1 : ¬ tz_l x) (h2 : ¬ tz_d x) : tz_o x = 3 := by
  unfold tz_o
  rw [if_neg h0, if_neg h1, if_neg h2]
def tz_t (w : Nat) : List Int32 := aa_nthL2 ac_byt (w + 1)
def tz_n (w : Nat) : Nat := aa_nth ac_len (w + 1)
/-- the word w stands there -/
def tz_m (y : Nat → Int32) (f e w : Nat) : Prop := e = f + tz_n w ∧ ∀ k, k < tz_n w → y (f + k) = aa_nthI (tz_t w) k
theorem tz_mu {y : Nat → Int32} {f e w w' : Nat} (hw : w < 11) (hw' : w' < 11) (h : tz_m y f e w) (h' : tz_m y f e w') : w = w' := by
  have key := (show ∀ w, w < 11 → ∀ w', w' < 11 → w = w' ∨ tz_n w ≠ tz_n w' ∨ ∃ k, k < 5 ∧ k < tz_n w ∧ aa_nthI (tz_t w) k ≠ aa_nthI (tz_t w') k by decide +kernel) w hw w' hw'
  rcases key with q | q | ⟨k, _, q1, q2⟩
  · exact q
  · exact absurd (by have := h.1; have := h'.1; omega) q
  · refine absurd ((h.2 k q1).symm.trans (h'.2 k ?_)) q2
    have := h.1
    have := h'.1
    omega
theorem nI_m10 (a : Nat) : nI a * (10 : Int32) = nI (a * 10) := by
  show Int32.ofNat a * Int32.ofNat 10 = Int32.ofNat (a * 10)
  exact (Int32.ofNat_mul ..).symm
def tz_v (y : Nat → Int32) (f : Nat) : Nat → Int32
  | 0 => 0
  | n + 1 => tz_v y f n * 10 + y (f + n) - 48
/-- from place p on, a token stands at f and ends at e; what it is, and its number -/
def tz (y : Nat → Int32) (s p f e : Nat) (k num : Int32) : Prop := p ≤ f ∧ f ≤ s ∧ (∀ j, p ≤ j → j < f → tz_b (y j)) ∧ ((f = s ∧ e = f ∧ k = 256 ∧ num = 0) ∨ (f < s ∧ tz_l (y f) ∧ f < e ∧ e ≤ s ∧ (∀ j, f ≤ j → j < e → tz_l (y j)) ∧ (e < s → ¬ tz_l (y e)) ∧ ((∃ w, w < 11 ∧ tz_m y f e w ∧ k = nI (300 + w)) ∨ ((∀ w, w < 11 → ¬ tz_m y f e w) ∧ k = 257)) ∧ num = 0) ∨ (f < s ∧ tz_d (y f) ∧ f < e ∧ e ≤ s ∧ (∀ j, f ≤ j → j < e → tz_d (y j)) ∧ (e < s → ¬ tz_d (y e)) ∧ ((e ≤ f + 4 ∧ k = 258 ∧ num = tz_v y f (e - f)) ∨ (f + 4 < e ∧ k = 257 ∧ num = 0))) ∨ (f < s ∧ ¬ tz_b (y f) ∧ ¬ tz_l (y f) ∧ ¬ tz_d (y f) ∧ e = f + 1 ∧ k = y f ∧ num = 0 ∧ k.toInt < 128))
theorem tz_v4 {y : Nat → Int32} {f : Nat} : ∀ n : Nat, n ≤ 4 → (∀ j, f ≤ j → j < f + n → tz_d (y j)) → zb (tz_v y f n) (10 ^ n - 1)
  | 0, _, _ => (show zb (0 : Int32) 0 from ⟨by decide, by decide⟩)
  | n + 1, hn, h => by
    obtain ⟨a, e, ha⟩ := zb_i (tz_v4 n (by omega) (fun j h1 h2 => h j h1 (by omega)))
    have hd := h (f + n) (by omega) (by omega)
    have d1 := hd.1
    have d2 := hd.2
    rw [zz_lt, show (48 : Int32).toInt = 48 by decide] at d1
    rw [zz_lt, show (57 : Int32).toInt = 57 by decide] at d2
    have hx : zb (y (f + n)) 57 := zb_of_r (by omega) (by omega) (by decide)
    obtain ⟨b, eb, hb⟩ := zb_i hx
    have hb48 : 48 ≤ b := by
      have := zb_t hx (by decide)
      rw [eb, zz_ix (by omega)] at this
      rw [eb] at d1
      omega
    have hp : 10 ^ n ≤ 1000 := by
      have : n = 0 ∨ n = 1 ∨ n = 2 ∨ n = 3 := by omega
      rcases this with rfl | rfl | rfl | rfl <;> decide
    have hpp : 0 < 10 ^ n := Nat.pow_pos (by decide)
    have : tz_v y f (n + 1) = nI (a * 10 + b - 48) := by
      show tz_v y f n * 10 + y (f + n) - 48 = _
      rw [e, eb, show (48 : Int32) = nI 48 from rfl, ← nI_minus (by omega), ← nI_plus]
      congr 2
      exact nI_m10 a
    rw [this, Nat.pow_succ]
    exact zb_of (by omega) (by omega)
