/-! Small numbers as Java's ints. -/
abbrev iN (n : Nat) : Int32 := Int32.ofNat n
def pm (n : Nat) : Int32 := if n = 0 then -1 else Int32.ofNat (n - 1)
theorem iN_lt {a b : Nat} (ha : a < 2 ^ 31) (hb : b < 2 ^ 31) : iN a < iN b ↔ a < b := Int32.ofNat_lt_iff_lt ha hb
theorem iN_le {a b : Nat} (ha : a < 2 ^ 31) (hb : b < 2 ^ 31) : iN a ≤ iN b ↔ a ≤ b := Int32.ofNat_le_iff_le ha hb
theorem iN_toInt {a : Nat} (ha : a < 2 ^ 31) : (iN a).toInt = (a : Int) := Int32.toInt_ofNat_of_lt ha
theorem iN_eq {a b : Nat} (ha : a < 2 ^ 31) (hb : b < 2 ^ 31) : iN a = iN b ↔ a = b := by
  constructor
  · intro h
    have h1 := congrArg Int32.toInt h
    rw [iN_toInt ha, iN_toInt hb] at h1
    omega
  · intro h; rw [h]
theorem iN_nn {a : Nat} (ha : a < 2 ^ 31) : ¬ iN a < 0 := by
  intro h
  have h1 := (iN_lt ha (show 0 < 2 ^ 31 by decide)).mp h
  omega
theorem iN_pos {a : Nat} (ha : a < 2 ^ 31) : 0 < iN a ↔ 0 < a := iN_lt (show 0 < 2 ^ 31 by decide) ha
theorem iN_z {a : Nat} (ha : a < 2 ^ 31) : iN a = 0 ↔ a = 0 := iN_eq ha (show 0 < 2 ^ 31 by decide)
theorem iN_ix {a : Nat} (ha : a < 2 ^ 31) : (iN a).toNatClampNeg = a := Int32.toNatClampNeg_ofNat_of_lt ha
theorem iN_in {a n : Nat} (h : a < n) (ha : a < 2 ^ 31) : vp_in (iN a) n := by
  intro c
  rcases c with c | c
  · exact iN_nn ha c
  · rw [iN_ix ha] at c; omega
theorem iN_add (a b : Nat) : iN a + iN b = iN (a + b) := (Int32.ofNat_add a b).symm
theorem iN_mul (a b : Nat) : iN a * iN b = iN (a * b) := (Int32.ofNat_mul a b).symm
theorem iN_sub {a b : Nat} (h : b ≤ a) : iN a - iN b = iN (a - b) := (Int32.ofNat_sub a b h).symm
theorem iN_div {a b : Nat} (ha : a < 2 ^ 31) (hb : b < 2 ^ 31) : iN a / iN b = iN (a / b) := (Int32.ofNat_div ha hb).symm
theorem iN_rem {a b : Nat} (ha : a < 2 ^ 31) (hb : b < 2 ^ 31) : iN a - iN a / iN b * iN b = iN (a % b) := by
  rw [iN_div ha hb, iN_mul, iN_sub (Nat.div_mul_le_self a b)]
  congr 1
  have := Nat.div_add_mod a b
  rw [Nat.mul_comm] at this
  omega
theorem iN_succ (a : Nat) : iN a + 1 = iN (a + 1) := iN_add a 1
theorem iN_m1 {a : Nat} (h : 0 < a) : iN a + (-1) = iN (a - 1) := by
  have : iN a - iN 1 = iN (a - 1) := iN_sub h
  rw [← this]
  exact (Int32.sub_eq_add_neg (iN a) (iN 1)).symm
theorem pm_0 : pm 0 = -1 := rfl
theorem pm_s (n : Nat) : pm (n + 1) = iN n := rfl
theorem pm_of {n : Nat} (h : n ≠ 0) : pm n = iN (n - 1) := by unfold pm; rw [if_neg h]
theorem pm_neg {n : Nat} (hn : n ≤ 2 ^ 31) : pm n < 0 ↔ n = 0 := by
  constructor
  · intro h
    apply Classical.byContradiction
    intro h0
    rw [pm_of h0] at h
    exact iN_nn (by omega) h
  · intro h; subst h; decide
theorem pm_m1 {n : Nat} (hn : n ≤ 2 ^ 31) : pm n = -1 ↔ n = 0 := by
  constructor
  · intro h
    exact (pm_neg hn).mp (by rw [h]; decide)
  · intro h; subst h; rfl
theorem pm_eq {a b : Nat} (ha : a ≤ 2 ^ 31) (hb : b ≤ 2 ^ 31) : pm a = pm b ↔ a = b := by
  constructor
  · intro h
    by_cases a0 : a = 0
    · subst a0
      exact ((pm_m1 hb).mp (h.symm.trans pm_0)).symm
    · by_cases b0 : b = 0
      · subst b0
        exact (pm_m1 ha).mp (h.trans pm_0)
      · rw [pm_of a0, pm_of b0, iN_eq (by omega) (by omega)] at h
        omega
  · intro h; rw [h]
theorem pm_iN {a b : Nat} (ha : a ≤ 2 ^ 31) (hb : b < 2 ^ 31) : pm a = iN b ↔ a = b + 1 := by
  rw [← pm_s b, pm_eq ha (by omega)]
