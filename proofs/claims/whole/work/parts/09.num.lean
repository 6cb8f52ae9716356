/-! ===== numbers ===== -/
noncomputable def bI (p : Prop) : Int32 := @ite Int32 p (Classical.propDecidable p) 1 0
theorem bI_t {p : Prop} (h : p) : bI p = 1 := by unfold bI; exact if_pos h
theorem bI_f {p : Prop} (h : ¬ p) : bI p = 0 := by unfold bI; exact if_neg h
theorem bI_0 (p : Prop) : (bI p = 0) = ¬ p := by
  by_cases h : p
  · rw [bI_t h]; simp [h]
  · rw [bI_f h]; simp [h]
theorem bI_1 (p : Prop) : (bI p = 1) = p := by
  by_cases h : p
  · rw [bI_t h]; simp [h]
  · rw [bI_f h]; simp [h]
theorem bI_01 (p : Prop) : (bI p = 0 ∨ bI p = 1) = True := by
  rw [bI_0, bI_1]; by_cases h : p
  · simp [h]
  · simp [h]
theorem bI_c {p r : Prop} (h : p ↔ r) : bI p = bI r := by rw [propext h]
theorem i_lt (a b : Int32) : (a < b) = (a.toInt < b.toInt) := propext Int32.lt_iff_toInt_lt
theorem i_le (a b : Int32) : (a ≤ b) = (a.toInt ≤ b.toInt) := propext Int32.le_iff_toInt_le
theorem i_eq (a b : Int32) : (a = b) = (a.toInt = b.toInt) := propext Int32.toInt_inj.symm
theorem j_lt (a b : Int64) : (a < b) = (a.toInt < b.toInt) := propext Int64.lt_iff_toInt_lt
theorem j_le (a b : Int64) : (a ≤ b) = (a.toInt ≤ b.toInt) := propext Int64.le_iff_toInt_le
theorem j_eq (a b : Int64) : (a = b) = (a.toInt = b.toInt) := propext Int64.toInt_inj.symm
theorem i_bm (x : Int) : x.bmod 4294967296 = (x + 2147483648) % 4294967296 - 2147483648 := by
  unfold Int.bmod; dsimp only; split <;> omega
theorem j_bm (x : Int) : x.bmod 18446744073709551616 = (x + 9223372036854775808) % 18446744073709551616 - 9223372036854775808 := by
  unfold Int.bmod; dsimp only; split <;> omega
theorem i_add (a b : Int32) : (a + b).toInt = (a.toInt + b.toInt + 2147483648) % 4294967296 - 2147483648 := by
  rw [Int32.toInt_add]; exact i_bm _
theorem i_sub (a b : Int32) : (a - b).toInt = (a.toInt - b.toInt + 2147483648) % 4294967296 - 2147483648 := by
  rw [Int32.toInt_sub]; exact i_bm _
theorem i_mul (a b : Int32) : (a * b).toInt = (a.toInt * b.toInt + 2147483648) % 4294967296 - 2147483648 := by
  rw [Int32.toInt_mul]; exact i_bm _
theorem i_neg (a : Int32) : (-a).toInt = (-a.toInt + 2147483648) % 4294967296 - 2147483648 := by
  rw [Int32.toInt_neg]; exact i_bm _
theorem j_add (a b : Int64) : (a + b).toInt = (a.toInt + b.toInt + 9223372036854775808) % 18446744073709551616 - 9223372036854775808 := by
  rw [Int64.toInt_add]; exact j_bm _
theorem j_sub (a b : Int64) : (a - b).toInt = (a.toInt - b.toInt + 9223372036854775808) % 18446744073709551616 - 9223372036854775808 := by
  rw [Int64.toInt_sub]; exact j_bm _
theorem j_mul (a b : Int64) : (a * b).toInt = (a.toInt * b.toInt + 9223372036854775808) % 18446744073709551616 - 9223372036854775808 := by
  rw [Int64.toInt_mul]; exact j_bm _
theorem i_nat (a : Int32) : a.toNatClampNeg = a.toInt.toNat := rfl
theorem i_rg (a : Int32) : -2147483648 ≤ a.toInt ∧ a.toInt < 2147483648 := ⟨Int32.le_toInt a, Int32.toInt_lt a⟩
theorem j_rg (a : Int64) : -9223372036854775808 ≤ a.toInt ∧ a.toInt < 9223372036854775808 := ⟨Int64.le_toInt a, Int64.toInt_lt a⟩
theorem ij_to (a : Int32) : a.toInt64.toInt = a.toInt := Int32.toInt_toInt64 a
theorem i_vp (i : Int32) (n : Nat) : vp_in i n = (0 ≤ i.toInt ∧ i.toInt < n) := by
  unfold vp_in; rw [i_lt, i_nat]; show (¬(i.toInt < (0 : Int32).toInt ∨ _)) = _
  have : (0 : Int32).toInt = 0 := rfl
  rw [this]; apply propext; constructor <;> intro h <;> omega
theorem i_div {a b : Int32} (h : 0 ≤ a.toInt) (hb : 0 < b.toInt) : (a / b).toInt = a.toInt / b.toInt := by
  rw [Int32.toInt_div]
  have h1 : a.toInt.tdiv b.toInt = a.toInt / b.toInt := Int.tdiv_eq_ediv_of_nonneg h
  rw [h1]
  have h2 := i_rg a
  have h3 : 0 ≤ a.toInt / b.toInt := Int.ediv_nonneg h (Int.le_of_lt hb)
  have h4 : a.toInt / b.toInt ≤ a.toInt := Int.ediv_le_self _ h
  show (a.toInt / b.toInt).bmod 4294967296 = _
  rw [i_bm]; omega
theorem j_div {a b : Int64} (h : 0 ≤ a.toInt) (hb : 0 < b.toInt) : (a / b).toInt = a.toInt / b.toInt := by
  rw [Int64.toInt_div]
  have h1 : a.toInt.tdiv b.toInt = a.toInt / b.toInt := Int.tdiv_eq_ediv_of_nonneg h
  rw [h1]
  have h2 := j_rg a
  have h3 : 0 ≤ a.toInt / b.toInt := Int.ediv_nonneg h (Int.le_of_lt hb)
  have h4 : a.toInt / b.toInt ≤ a.toInt := Int.ediv_le_self _ h
  show (a.toInt / b.toInt).bmod 18446744073709551616 = _
  rw [j_bm]; omega
theorem i_nI (n : Nat) (h : n < 2147483648) : (nI n).toInt = n := by
  unfold nI; exact Int32.toInt_ofNat_of_lt h
theorem i_ext {a b : Int32} (h : a.toInt = b.toInt) : a = b := Int32.toInt_inj.mp h
theorem j_ext {a b : Int64} (h : a.toInt = b.toInt) : a = b := Int64.toInt_inj.mp h
