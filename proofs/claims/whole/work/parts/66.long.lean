/-! longs that are small numbers -/
theorem lo_toInt {n : Nat} (h : n < 2 ^ 63) : (lN n).toInt = (n : Int) := lg_ofNat_toInt h
theorem lo_add (a b : Nat) : lN a + lN b = lN (a + b) := (Int64.ofNat_add a b).symm
theorem lo_mul (a b : Nat) : lN a * lN b = lN (a * b) := (Int64.ofNat_mul a b).symm
theorem lo_sub {a b : Nat} (h : b ≤ a) : lN a - lN b = lN (a - b) := by
  have : lN a = lN (a - b) + lN b := by rw [lo_add, Nat.sub_add_cancel h]
  rw [this]
  generalize lN (a - b) = x
  generalize lN b = y
  grind
theorem lo_div {a b : Nat} (ha : a < 2 ^ 63) (hb : b < 2 ^ 63) : lN a / lN b = lN (a / b) := by
  have h1 : a / b < 2 ^ 63 := Nat.lt_of_le_of_lt (Nat.div_le_self _ _) ha
  rw [fa_eq64, Int64.toInt_div, lo_toInt ha, lo_toInt hb, lo_toInt h1, ← Int.ofNat_tdiv]
  generalize a / b = q at h1 ⊢
  exact fb_bmodL (by omega) (by omega)
theorem lo_rem {a b : Nat} (ha : a < 2 ^ 63) (hb : b < 2 ^ 63) : lN a - lN a / lN b * lN b = lN (a % b) := by
  rw [lo_div ha hb, lo_mul, lo_sub (Nat.div_mul_le_self _ _)]
  congr 1
  have := Nat.div_add_mod a b
  rw [Nat.mul_comm] at this
  omega
theorem lo_of {n : Nat} (h : n < 2 ^ 31) : (nI n).toInt64 = lN n := by
  rw [fa_eq64, Int32.toInt_toInt64, nI_toInt h, lo_toInt (by omega)]
theorem lo_to {n : Nat} (h : n < 2 ^ 31) : (lN n).toInt32 = nI n := by
  rw [fa_eq, Int64.toInt_toInt32, lo_toInt (by omega), nI_toInt h]
  exact fb_bmod (by omega) (by omega)
theorem lo_0 : (0 : Int64) = lN 0 := rfl
theorem lo_1 : (1 : Int64) = lN 1 := rfl
theorem lo_ne {n : Nat} (h0 : 0 < n) (h : n < 2 ^ 63) : ¬ lN n = 0 := by
  rw [lo_0, fb_lN_inj h (by decide)]; omega
/-- the next draw -/
def sp_rnd (g : Nat) : Nat := (g * 1103515245 + 12345) % 2147483648
theorem sp_rnd_lt (g : Nat) : sp_rnd g < 2 ^ 31 := Nat.mod_lt _ (by decide)
theorem sp_rnd_L {g : Nat} (h : g < 2 ^ 31) : (lN g * 1103515245 + 12345) - (lN g * 1103515245 + 12345) / 2147483648 * 2147483648 = lN (sp_rnd g) := by
  have e : lN g * 1103515245 + 12345 = lN (g * 1103515245 + 12345) := by
    rw [show (1103515245 : Int64) = lN 1103515245 from rfl, show (12345 : Int64) = lN 12345 from rfl, lo_mul, lo_add]
  rw [e, show (2147483648 : Int64) = lN 2147483648 from rfl, lo_rem (by omega) (by decide)]
  rfl
theorem sp_rnd_v {g m : Nat} (h : g < 2 ^ 31) (hm : m < 2 ^ 31) : (lN g / 65536 - lN g / 65536 / (nI m).toInt64 * (nI m).toInt64).toInt32 = nI (g / 65536 % m) := by
  have h2 : g / 65536 < 2 ^ 31 := Nat.lt_of_le_of_lt (Nat.div_le_self _ _) h
  have h3 : g / 65536 % m < 2 ^ 31 := Nat.lt_of_le_of_lt (Nat.mod_le _ _) h2
  rw [lo_of hm, show (65536 : Int64) = lN 65536 from rfl, lo_div (by omega) (by decide), lo_rem (by omega) (by omega), lo_to h3]
