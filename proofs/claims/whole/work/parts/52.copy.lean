/-! ===== copyFrom of a World ===== -/
theorem zcp_rd (I : ZI) (a b sp dp n x g : Nat) : zcp I a b sp dp n x g = if x = b then va_cpy (I a) (I b) sp dp n g else I x g := rfl
theorem zqp_ne (I : ZI) {a b sp dp n x : Nat} (h : x ≠ b) : zcp I a b sp dp n x = I x := by funext g; rw [zcp_rd, if_neg h]
theorem cpy_in (f g : Nat → Int32) {n k : Nat} (h : k < n) : va_cpy f g 0 0 n k = f k := by
  unfold va_cpy; simp [h]
theorem ck_4 {n : Int32} {m : Nat} (h1 : ¬ n < 0) (h2 : (0 : Int32).toNatClampNeg + n.toNatClampNeg ≤ m) : (¬ (0 : Int32) < 0 ∧ ¬ (0 : Int32) < 0 ∧ ¬ n < 0 ∧ (0 : Int32).toNatClampNeg + n.toNatClampNeg ≤ m ∧ (0 : Int32).toNatClampNeg + n.toNatClampNeg ≤ m) := ⟨by decide, by decide, h1, h2, h2⟩
theorem ck_16 : (¬ (0 : Int32) < 0 ∧ ¬ (0 : Int32) < 0 ∧ ¬ (16 : Int32) < 0 ∧ (0 : Int32).toNatClampNeg + (16 : Int32).toNatClampNeg ≤ 16 ∧ (0 : Int32).toNatClampNeg + (16 : Int32).toNatClampNeg ≤ 16) := ck_4 (by decide) (by decide)
theorem ck_6 : (¬ (0 : Int32) < 0 ∧ ¬ (0 : Int32) < 0 ∧ ¬ (6 : Int32) < 0 ∧ (0 : Int32).toNatClampNeg + (6 : Int32).toNatClampNeg ≤ 6 ∧ (0 : Int32).toNatClampNeg + (6 : Int32).toNatClampNeg ≤ 6) := ck_4 (by decide) (by decide)
theorem ck_8 : (¬ (0 : Int32) < 0 ∧ ¬ (0 : Int32) < 0 ∧ ¬ (8 : Int32) < 0 ∧ (0 : Int32).toNatClampNeg + (8 : Int32).toNatClampNeg ≤ 8 ∧ (0 : Int32).toNatClampNeg + (8 : Int32).toNatClampNeg ≤ 8) := ck_4 (by decide) (by decide)
theorem ck_5 : (¬ (0 : Int32) < 0 ∧ ¬ (0 : Int32) < 0 ∧ ¬ (5 : Int32) < 0 ∧ (0 : Int32).toNatClampNeg + (5 : Int32).toNatClampNeg ≤ 5 ∧ (0 : Int32).toNatClampNeg + (5 : Int32).toNatClampNeg ≤ 5) := ck_4 (by decide) (by decide)
def cpA_2_16 (I : ZI) : ZI := zcp (zcp (zu (zu I 3 0 (I 17 0)) 3 1 (I 17 1)) 18 4 0 0 16) 19 5 0 0 6
def cpB_2_16 (I : ZI) : ZI := zcp (zcp (zcp (zu (zu (zu (zu (zu I 6 0 (I 20 0)) 6 1 (I 20 1)) 6 2 (I 20 2)) 6 3 (I 20 3)) 6 4 (I 20 4)) 21 7 0 0 8) 22 8 0 0 8) 23 9 0 0 8
def cpC_2_16 (I : ZI) : ZI := zcp (zcp (zcp (zcp (zu (zcp (zcp (zu I 2 2 (I 16 2)) 24 10 0 0 5) 25 11 0 0 5) 2 5 (I 16 5)) 26 12 0 0 6) 27 13 0 0 6) 28 14 0 0 6) 29 15 0 0 6
def cpW_2_16 (I : ZI) : ZI := cpC_2_16 (cpB_2_16 (cpA_2_16 I))
theorem cpA_2_16_ne (I : ZI) {a : Nat} (h : ¬ (3 ≤ a ∧ a ≤ 5)) : cpA_2_16 I a = I a := by unfold cpA_2_16; rw [zqp_ne _ (by omega), zqp_ne _ (by omega), zu_ne _ _ _ (by omega), zu_ne _ _ _ (by omega)]
theorem cpB_2_16_ne (I : ZI) {a : Nat} (h : ¬ (6 ≤ a ∧ a ≤ 9)) : cpB_2_16 I a = I a := by unfold cpB_2_16; rw [zqp_ne _ (by omega), zqp_ne _ (by omega), zqp_ne _ (by omega), zu_ne _ _ _ (by omega), zu_ne _ _ _ (by omega), zu_ne _ _ _ (by omega), zu_ne _ _ _ (by omega), zu_ne _ _ _ (by omega)]
theorem cpC_2_16_ne (I : ZI) {a : Nat} (h : ¬ (a = 2 ∨ (10 ≤ a ∧ a ≤ 15))) : cpC_2_16 I a = I a := by unfold cpC_2_16; rw [zqp_ne _ (by omega), zqp_ne _ (by omega), zqp_ne _ (by omega), zqp_ne _ (by omega), zu_ne _ _ _ (by omega), zqp_ne _ (by omega), zqp_ne _ (by omega), zu_ne _ _ _ (by omega)]
theorem cpW_2_16_ne (I : ZI) {a : Nat} (h : ¬ (2 ≤ a ∧ a ≤ 15)) : cpW_2_16 I a = I a := by unfold cpW_2_16; rw [cpC_2_16_ne _ (by omega), cpB_2_16_ne _ (by omega), cpA_2_16_ne _ (by omega)]
theorem cpW_2_16_Wd {I : ZI} {n : Nat → Int32} (hW : Wd 16 I n) (h2 : (n 2).toInt ≤ 5) (h3 : (n 3).toInt ≤ 6) (h4 : (n 4).toInt ≤ 8) : Wd 2 (cpW_2_16 I) n := by
  obtain ⟨w0, w1, w2, w3, w4, w5, w6, w7, w8, w9, w10, w11, w12, w13⟩ := hW
  have f0 : cpW_2_16 I 3 0 = I 17 0 := by
    unfold cpW_2_16
    rw [cpC_2_16_ne _ (by omega), cpB_2_16_ne _ (by omega)]
    unfold cpA_2_16
    simp only [zcp_rd, zu_rd, Nat.reduceEqDiff, reduceIte]
  have f1 : cpW_2_16 I 3 1 = I 17 1 := by
    unfold cpW_2_16
    rw [cpC_2_16_ne _ (by omega), cpB_2_16_ne _ (by omega)]
    unfold cpA_2_16
    simp only [zcp_rd, zu_rd, Nat.reduceEqDiff, reduceIte]
  have f2 : cpW_2_16 I 2 2 = I 16 2 := by
    unfold cpW_2_16
    unfold cpC_2_16
    simp only [zcp_rd, zu_rd, Nat.reduceEqDiff, reduceIte]
    try rw [cpB_2_16_ne _ (by omega), cpA_2_16_ne _ (by omega)]
  have f3 : cpW_2_16 I 2 5 = I 16 5 := by
    unfold cpW_2_16
    unfold cpC_2_16
    simp only [zcp_rd, zu_rd, Nat.reduceEqDiff, reduceIte]
    try rw [cpB_2_16_ne _ (by omega), cpA_2_16_ne _ (by omega)]
  have f4 : cpW_2_16 I 6 4 = I 20 4 := by
    unfold cpW_2_16
    rw [cpC_2_16_ne _ (by omega)]
    unfold cpB_2_16
    simp only [zcp_rd, zu_rd, Nat.reduceEqDiff, reduceIte]
    try rw [cpA_2_16_ne _ (by omega)]
  have f5 : ∀ k, k < 16 → cpW_2_16 I 4 k = I 18 k := by
    intro k hk
    unfold cpW_2_16
    rw [cpC_2_16_ne _ (by omega), cpB_2_16_ne _ (by omega)]
    unfold cpA_2_16
    simp only [zcp_rd, zu_rd, Nat.reduceEqDiff, reduceIte]
    rw [cpy_in _ _ hk]
    try simp only [zcp_rd, zu_rd, Nat.reduceEqDiff, reduceIte]
  have f6 : ∀ k, k < 6 → cpW_2_16 I 5 k = I 19 k := by
    intro k hk
    unfold cpW_2_16
    rw [cpC_2_16_ne _ (by omega), cpB_2_16_ne _ (by omega)]
    unfold cpA_2_16
    simp only [zcp_rd, zu_rd, Nat.reduceEqDiff, reduceIte]
    rw [cpy_in _ _ hk]
    try simp only [zcp_rd, zu_rd, Nat.reduceEqDiff, reduceIte]
  have f7 : ∀ k, k < 5 → cpW_2_16 I 10 k = I 24 k := by
    intro k hk
    unfold cpW_2_16
    unfold cpC_2_16
    simp only [zcp_rd, zu_rd, Nat.reduceEqDiff, reduceIte]
    rw [cpy_in _ _ hk]
    try simp only [zcp_rd, zu_rd, Nat.reduceEqDiff, reduceIte]
    try rw [cpB_2_16_ne _ (by omega), cpA_2_16_ne _ (by omega)]
  have f7b : ∀ k, k < 5 → cpW_2_16 I 11 k = I 25 k := by
    intro k hk
    unfold cpW_2_16
    unfold cpC_2_16
    simp only [zcp_rd, zu_rd, Nat.reduceEqDiff, reduceIte]
    rw [cpy_in _ _ hk]
    try simp only [zcp_rd, zu_rd, Nat.reduceEqDiff, reduceIte]
    try rw [cpB_2_16_ne _ (by omega), cpA_2_16_ne _ (by omega)]
  have f8 : cpW_2_16 I 6 0 = I 20 0 := by
    unfold cpW_2_16
    rw [cpC_2_16_ne _ (by omega)]
    unfold cpB_2_16
    simp only [zcp_rd, zu_rd, Nat.reduceEqDiff, reduceIte]
    try rw [cpA_2_16_ne _ (by omega)]
  have f9 : cpW_2_16 I 6 1 = I 20 1 := by
    unfold cpW_2_16
    rw [cpC_2_16_ne _ (by omega)]
    unfold cpB_2_16
    simp only [zcp_rd, zu_rd, Nat.reduceEqDiff, reduceIte]
    try rw [cpA_2_16_ne _ (by omega)]
  have f10 : cpW_2_16 I 6 2 = I 20 2 := by
    unfold cpW_2_16
    rw [cpC_2_16_ne _ (by omega)]
    unfold cpB_2_16
    simp only [zcp_rd, zu_rd, Nat.reduceEqDiff, reduceIte]
    try rw [cpA_2_16_ne _ (by omega)]
  have f11 : cpW_2_16 I 6 3 = I 20 3 := by
    unfold cpW_2_16
    rw [cpC_2_16_ne _ (by omega)]
    unfold cpB_2_16
    simp only [zcp_rd, zu_rd, Nat.reduceEqDiff, reduceIte]
    try rw [cpA_2_16_ne _ (by omega)]
  have f12a : ∀ k, k < 8 → cpW_2_16 I 7 k = I 21 k := by
    intro k hk
    unfold cpW_2_16
    rw [cpC_2_16_ne _ (by omega)]
    unfold cpB_2_16
    simp only [zcp_rd, zu_rd, Nat.reduceEqDiff, reduceIte]
    rw [cpy_in _ _ hk]
    try simp only [zcp_rd, zu_rd, Nat.reduceEqDiff, reduceIte]
    try rw [cpA_2_16_ne _ (by omega)]
  have f12b : ∀ k, k < 8 → cpW_2_16 I 8 k = I 22 k := by
    intro k hk
    unfold cpW_2_16
    rw [cpC_2_16_ne _ (by omega)]
    unfold cpB_2_16
    simp only [zcp_rd, zu_rd, Nat.reduceEqDiff, reduceIte]
    rw [cpy_in _ _ hk]
    try simp only [zcp_rd, zu_rd, Nat.reduceEqDiff, reduceIte]
    try rw [cpA_2_16_ne _ (by omega)]
  have f12c : ∀ k, k < 8 → cpW_2_16 I 9 k = I 23 k := by
    intro k hk
    unfold cpW_2_16
    rw [cpC_2_16_ne _ (by omega)]
    unfold cpB_2_16
    simp only [zcp_rd, zu_rd, Nat.reduceEqDiff, reduceIte]
    rw [cpy_in _ _ hk]
    try simp only [zcp_rd, zu_rd, Nat.reduceEqDiff, reduceIte]
    try rw [cpA_2_16_ne _ (by omega)]
  have f13a : ∀ k, k < 6 → cpW_2_16 I 12 k = I 26 k := by
    intro k hk
    unfold cpW_2_16
    unfold cpC_2_16
    simp only [zcp_rd, zu_rd, Nat.reduceEqDiff, reduceIte]
    rw [cpy_in _ _ hk]
    try simp only [zcp_rd, zu_rd, Nat.reduceEqDiff, reduceIte]
    try rw [cpB_2_16_ne _ (by omega), cpA_2_16_ne _ (by omega)]
  have f13b : ∀ k, k < 6 → cpW_2_16 I 13 k = I 27 k := by
    intro k hk
    unfold cpW_2_16
    unfold cpC_2_16
    simp only [zcp_rd, zu_rd, Nat.reduceEqDiff, reduceIte]
    rw [cpy_in _ _ hk]
    try simp only [zcp_rd, zu_rd, Nat.reduceEqDiff, reduceIte]
    try rw [cpB_2_16_ne _ (by omega), cpA_2_16_ne _ (by omega)]
  have f13c : ∀ k, k < 6 → cpW_2_16 I 14 k = I 28 k := by
    intro k hk
    unfold cpW_2_16
    unfold cpC_2_16
    simp only [zcp_rd, zu_rd, Nat.reduceEqDiff, reduceIte]
    rw [cpy_in _ _ hk]
    try simp only [zcp_rd, zu_rd, Nat.reduceEqDiff, reduceIte]
    try rw [cpB_2_16_ne _ (by omega), cpA_2_16_ne _ (by omega)]
  have f13d : ∀ k, k < 6 → cpW_2_16 I 15 k = I 29 k := by
    intro k hk
    unfold cpW_2_16
    unfold cpC_2_16
    simp only [zcp_rd, zu_rd, Nat.reduceEqDiff, reduceIte]
    rw [cpy_in _ _ hk]
    try simp only [zcp_rd, zu_rd, Nat.reduceEqDiff, reduceIte]
    try rw [cpB_2_16_ne _ (by omega), cpA_2_16_ne _ (by omega)]
  refine ⟨f0.trans w0, f1.trans w1, f2.trans w2, f3.trans w3, f4.trans w4, fun c hc => (f5 c hc).trans (w5 c hc), fun i hi => (f6 i hi).trans (w6 i hi), fun h hh => ⟨(f7 h (by omega)).trans (w7 h hh).1, (f7b h (by omega)).trans (w7 h hh).2⟩, f8.trans w8, f9.trans w9, f10.trans w10, f11.trans w11, fun k hk => ⟨(f12a k (by omega)).trans (w12 k hk).1, (f12b k (by omega)).trans (w12 k hk).2.1, (f12c k (by omega)).trans (w12 k hk).2.2⟩, fun k hk => ⟨(f13a k (by omega)).trans (w13 k hk).1, (f13b k (by omega)).trans (w13 k hk).2.1, (f13c k (by omega)).trans (w13 k hk).2.2.1, (f13d k (by omega)).trans (w13 k hk).2.2.2⟩⟩
theorem p_copy_2_16_u {u : Nat} {I : ZI} {J : ZJ} (q : YQv) (hq : q (cpW_2_16 I) J) : u_X10_copyFrom [.ref 2, .ref 16] (shp u) I J q := by
  rw [e_X10_copyFrom_a, e_X5_copyFrom]
  refine ⟨ck_16, ck_6, rfl, ?_⟩
  rw [e_X8_copyFrom]
  exact ⟨ck_8, ck_8, ck_8, rfl, ck_5, ck_5, ck_6, ck_6, ck_6, ck_6, rfl, hq⟩
def cpA_2_61 (I : ZI) : ZI := zcp (zcp (zu (zu I 3 0 (I 62 0)) 3 1 (I 62 1)) 63 4 0 0 16) 64 5 0 0 6
def cpB_2_61 (I : ZI) : ZI := zcp (zcp (zcp (zu (zu (zu (zu (zu I 6 0 (I 65 0)) 6 1 (I 65 1)) 6 2 (I 65 2)) 6 3 (I 65 3)) 6 4 (I 65 4)) 66 7 0 0 8) 67 8 0 0 8) 68 9 0 0 8
def cpC_2_61 (I : ZI) : ZI := zcp (zcp (zcp (zcp (zu (zcp (zcp (zu I 2 2 (I 61 2)) 69 10 0 0 5) 70 11 0 0 5) 2 5 (I 61 5)) 71 12 0 0 6) 72 13 0 0 6) 73 14 0 0 6) 74 15 0 0 6
def cpW_2_61 (I : ZI) : ZI := cpC_2_61 (cpB_2_61 (cpA_2_61 I))
theorem cpA_2_61_ne (I : ZI) {a : Nat} (h : ¬ (3 ≤ a ∧ a ≤ 5)) : cpA_2_61 I a = I a := by unfold cpA_2_61; rw [zqp_ne _ (by omega), zqp_ne _ (by omega), zu_ne _ _ _ (by omega), zu_ne _ _ _ (by omega)]
theorem cpB_2_61_ne (I : ZI) {a : Nat} (h : ¬ (6 ≤ a ∧ a ≤ 9)) : cpB_2_61 I a = I a := by unfold cpB_2_61; rw [zqp_ne _ (by omega), zqp_ne _ (by omega), zqp_ne _ (by omega), zu_ne _ _ _ (by omega), zu_ne _ _ _ (by omega), zu_ne _ _ _ (by omega), zu_ne _ _ _ (by omega), zu_ne _ _ _ (by omega)]
theorem cpC_2_61_ne (I : ZI) {a : Nat} (h : ¬ (a = 2 ∨ (10 ≤ a ∧ a ≤ 15))) : cpC_2_61 I a = I a := by unfold cpC_2_61; rw [zqp_ne _ (by omega), zqp_ne _ (by omega), zqp_ne _ (by omega), zqp_ne _ (by omega), zu_ne _ _ _ (by omega), zqp_ne _ (by omega), zqp_ne _ (by omega), zu_ne _ _ _ (by omega)]
theorem cpW_2_61_ne (I : ZI) {a : Nat} (h : ¬ (2 ≤ a ∧ a ≤ 15)) : cpW_2_61 I a = I a := by unfold cpW_2_61; rw [cpC_2_61_ne _ (by omega), cpB_2_61_ne _ (by omega), cpA_2_61_ne _ (by omega)]
theorem cpW_2_61_Wd {I : ZI} {n : Nat → Int32} (hW : Wd 61 I n) (h2 : (n 2).toInt ≤ 5) (h3 : (n 3).toInt ≤ 6) (h4 : (n 4).toInt ≤ 8) : Wd 2 (cpW_2_61 I) n := by
  obtain ⟨w0, w1, w2, w3, w4, w5, w6, w7, w8, w9, w10, w11, w12, w13⟩ := hW
  have f0 : cpW_2_61 I 3 0 = I 62 0 := by
    unfold cpW_2_61
    rw [cpC_2_61_ne _ (by omega), cpB_2_61_ne _ (by omega)]
    unfold cpA_2_61
    simp only [zcp_rd, zu_rd, Nat.reduceEqDiff, reduceIte]
  have f1 : cpW_2_61 I 3 1 = I 62 1 := by
    unfold cpW_2_61
    rw [cpC_2_61_ne _ (by omega), cpB_2_61_ne _ (by omega)]
    unfold cpA_2_61
    simp only [zcp_rd, zu_rd, Nat.reduceEqDiff, reduceIte]
  have f2 : cpW_2_61 I 2 2 = I 61 2 := by
    unfold cpW_2_61
    unfold cpC_2_61
    simp only [zcp_rd, zu_rd, Nat.reduceEqDiff, reduceIte]
    try rw [cpB_2_61_ne _ (by omega), cpA_2_61_ne _ (by omega)]
  have f3 : cpW_2_61 I 2 5 = I 61 5 := by
    unfold cpW_2_61
    unfold cpC_2_61
    simp only [zcp_rd, zu_rd, Nat.reduceEqDiff, reduceIte]
    try rw [cpB_2_61_ne _ (by omega), cpA_2_61_ne _ (by omega)]
  have f4 : cpW_2_61 I 6 4 = I 65 4 := by
    unfold cpW_2_61
    rw [cpC_2_61_ne _ (by omega)]
    unfold cpB_2_61
    simp only [zcp_rd, zu_rd, Nat.reduceEqDiff, reduceIte]
    try rw [cpA_2_61_ne _ (by omega)]
  have f5 : ∀ k, k < 16 → cpW_2_61 I 4 k = I 63 k := by
    intro k hk
    unfold cpW_2_61
    rw [cpC_2_61_ne _ (by omega), cpB_2_61_ne _ (by omega)]
    unfold cpA_2_61
    simp only [zcp_rd, zu_rd, Nat.reduceEqDiff, reduceIte]
    rw [cpy_in _ _ hk]
    try simp only [zcp_rd, zu_rd, Nat.reduceEqDiff, reduceIte]
  have f6 : ∀ k, k < 6 → cpW_2_61 I 5 k = I 64 k := by
    intro k hk
    unfold cpW_2_61
    rw [cpC_2_61_ne _ (by omega), cpB_2_61_ne _ (by omega)]
    unfold cpA_2_61
    simp only [zcp_rd, zu_rd, Nat.reduceEqDiff, reduceIte]
    rw [cpy_in _ _ hk]
    try simp only [zcp_rd, zu_rd, Nat.reduceEqDiff, reduceIte]
  have f7 : ∀ k, k < 5 → cpW_2_61 I 10 k = I 69 k := by
    intro k hk
    unfold cpW_2_61
    unfold cpC_2_61
    simp only [zcp_rd, zu_rd, Nat.reduceEqDiff, reduceIte]
    rw [cpy_in _ _ hk]
    try simp only [zcp_rd, zu_rd, Nat.reduceEqDiff, reduceIte]
    try rw [cpB_2_61_ne _ (by omega), cpA_2_61_ne _ (by omega)]
  have f7b : ∀ k, k < 5 → cpW_2_61 I 11 k = I 70 k := by
    intro k hk
    unfold cpW_2_61
    unfold cpC_2_61
    simp only [zcp_rd, zu_rd, Nat.reduceEqDiff, reduceIte]
    rw [cpy_in _ _ hk]
    try simp only [zcp_rd, zu_rd, Nat.reduceEqDiff, reduceIte]
    try rw [cpB_2_61_ne _ (by omega), cpA_2_61_ne _ (by omega)]
  have f8 : cpW_2_61 I 6 0 = I 65 0 := by
    unfold cpW_2_61
    rw [cpC_2_61_ne _ (by omega)]
    unfold cpB_2_61
    simp only [zcp_rd, zu_rd, Nat.reduceEqDiff, reduceIte]
    try rw [cpA_2_61_ne _ (by omega)]
  have f9 : cpW_2_61 I 6 1 = I 65 1 := by
    unfold cpW_2_61
    rw [cpC_2_61_ne _ (by omega)]
    unfold cpB_2_61
    simp only [zcp_rd, zu_rd, Nat.reduceEqDiff, reduceIte]
    try rw [cpA_2_61_ne _ (by omega)]
  have f10 : cpW_2_61 I 6 2 = I 65 2 := by
    unfold cpW_2_61
    rw [cpC_2_61_ne _ (by omega)]
    unfold cpB_2_61
    simp only [zcp_rd, zu_rd, Nat.reduceEqDiff, reduceIte]
    try rw [cpA_2_61_ne _ (by omega)]
  have f11 : cpW_2_61 I 6 3 = I 65 3 := by
    unfold cpW_2_61
    rw [cpC_2_61_ne _ (by omega)]
    unfold cpB_2_61
    simp only [zcp_rd, zu_rd, Nat.reduceEqDiff, reduceIte]
    try rw [cpA_2_61_ne _ (by omega)]
  have f12a : ∀ k, k < 8 → cpW_2_61 I 7 k = I 66 k := by
    intro k hk
    unfold cpW_2_61
    rw [cpC_2_61_ne _ (by omega)]
    unfold cpB_2_61
    simp only [zcp_rd, zu_rd, Nat.reduceEqDiff, reduceIte]
    rw [cpy_in _ _ hk]
    try simp only [zcp_rd, zu_rd, Nat.reduceEqDiff, reduceIte]
    try rw [cpA_2_61_ne _ (by omega)]
  have f12b : ∀ k, k < 8 → cpW_2_61 I 8 k = I 67 k := by
    intro k hk
    unfold cpW_2_61
    rw [cpC_2_61_ne _ (by omega)]
    unfold cpB_2_61
    simp only [zcp_rd, zu_rd, Nat.reduceEqDiff, reduceIte]
    rw [cpy_in _ _ hk]
    try simp only [zcp_rd, zu_rd, Nat.reduceEqDiff, reduceIte]
    try rw [cpA_2_61_ne _ (by omega)]
  have f12c : ∀ k, k < 8 → cpW_2_61 I 9 k = I 68 k := by
    intro k hk
    unfold cpW_2_61
    rw [cpC_2_61_ne _ (by omega)]
    unfold cpB_2_61
    simp only [zcp_rd, zu_rd, Nat.reduceEqDiff, reduceIte]
    rw [cpy_in _ _ hk]
    try simp only [zcp_rd, zu_rd, Nat.reduceEqDiff, reduceIte]
    try rw [cpA_2_61_ne _ (by omega)]
  have f13a : ∀ k, k < 6 → cpW_2_61 I 12 k = I 71 k := by
    intro k hk
    unfold cpW_2_61
    unfold cpC_2_61
    simp only [zcp_rd, zu_rd, Nat.reduceEqDiff, reduceIte]
    rw [cpy_in _ _ hk]
    try simp only [zcp_rd, zu_rd, Nat.reduceEqDiff, reduceIte]
    try rw [cpB_2_61_ne _ (by omega), cpA_2_61_ne _ (by omega)]
  have f13b : ∀ k, k < 6 → cpW_2_61 I 13 k = I 72 k := by
    intro k hk
    unfold cpW_2_61
    unfold cpC_2_61
    simp only [zcp_rd, zu_rd, Nat.reduceEqDiff, reduceIte]
    rw [cpy_in _ _ hk]
    try simp only [zcp_rd, zu_rd, Nat.reduceEqDiff, reduceIte]
    try rw [cpB_2_61_ne _ (by omega), cpA_2_61_ne _ (by omega)]
  have f13c : ∀ k, k < 6 → cpW_2_61 I 14 k = I 73 k := by
    intro k hk
    unfold cpW_2_61
    unfold cpC_2_61
    simp only [zcp_rd, zu_rd, Nat.reduceEqDiff, reduceIte]
    rw [cpy_in _ _ hk]
    try simp only [zcp_rd, zu_rd, Nat.reduceEqDiff, reduceIte]
    try rw [cpB_2_61_ne _ (by omega), cpA_2_61_ne _ (by omega)]
  have f13d : ∀ k, k < 6 → cpW_2_61 I 15 k = I 74 k := by
    intro k hk
    unfold cpW_2_61
    unfold cpC_2_61
    simp only [zcp_rd, zu_rd, Nat.reduceEqDiff, reduceIte]
    rw [cpy_in _ _ hk]
    try simp only [zcp_rd, zu_rd, Nat.reduceEqDiff, reduceIte]
    try rw [cpB_2_61_ne _ (by omega), cpA_2_61_ne _ (by omega)]
  refine ⟨f0.trans w0, f1.trans w1, f2.trans w2, f3.trans w3, f4.trans w4, fun c hc => (f5 c hc).trans (w5 c hc), fun i hi => (f6 i hi).trans (w6 i hi), fun h hh => ⟨(f7 h (by omega)).trans (w7 h hh).1, (f7b h (by omega)).trans (w7 h hh).2⟩, f8.trans w8, f9.trans w9, f10.trans w10, f11.trans w11, fun k hk => ⟨(f12a k (by omega)).trans (w12 k hk).1, (f12b k (by omega)).trans (w12 k hk).2.1, (f12c k (by omega)).trans (w12 k hk).2.2⟩, fun k hk => ⟨(f13a k (by omega)).trans (w13 k hk).1, (f13b k (by omega)).trans (w13 k hk).2.1, (f13c k (by omega)).trans (w13 k hk).2.2.1, (f13d k (by omega)).trans (w13 k hk).2.2.2⟩⟩
theorem p_copy_2_61_1 {I : ZI} {J : ZJ} (q : YQv) (hq : q (cpW_2_61 I) J) : u_X10_copyFrom [.ref 2, .ref 61] (shp 1) I J q := by
  rw [e_X10_copyFrom, e_X5_copyFrom_a]
  refine ⟨ck_16, ck_6, rfl, ?_⟩
  rw [e_X8_copyFrom_a]
  exact ⟨ck_8, ck_8, ck_8, rfl, ck_5, ck_5, ck_6, ck_6, ck_6, ck_6, rfl, hq⟩
theorem p_copy_2_61_2 {I : ZI} {J : ZJ} (q : YQv) (hq : q (cpW_2_61 I) J) : u_X10_copyFrom [.ref 2, .ref 61] (shp 2) I J q := by
  rw [e_X10_copyFrom_b, e_X5_copyFrom_b]
  refine ⟨ck_16, ck_6, rfl, ?_⟩
  rw [e_X8_copyFrom_b]
  exact ⟨ck_8, ck_8, ck_8, rfl, ck_5, ck_5, ck_6, ck_6, ck_6, ck_6, rfl, hq⟩
theorem p_copy_2_61_3 {I : ZI} {J : ZJ} (q : YQv) (hq : q (cpW_2_61 I) J) : u_X10_copyFrom [.ref 2, .ref 61] (shp 3) I J q := by
  rw [e_X10_copyFrom_c, e_X5_copyFrom_c]
  refine ⟨ck_16, ck_6, rfl, ?_⟩
  rw [e_X8_copyFrom_c]
  exact ⟨ck_8, ck_8, ck_8, rfl, ck_5, ck_5, ck_6, ck_6, ck_6, ck_6, rfl, hq⟩
theorem p_copy_2_61_4 {I : ZI} {J : ZJ} (q : YQv) (hq : q (cpW_2_61 I) J) : u_X10_copyFrom [.ref 2, .ref 61] (shp 4) I J q := by
  rw [e_X10_copyFrom_d, e_X5_copyFrom_d]
  refine ⟨ck_16, ck_6, rfl, ?_⟩
  rw [e_X8_copyFrom_d]
  exact ⟨ck_8, ck_8, ck_8, rfl, ck_5, ck_5, ck_6, ck_6, ck_6, ck_6, rfl, hq⟩
def cpA_2_75 (I : ZI) : ZI := zcp (zcp (zu (zu I 3 0 (I 76 0)) 3 1 (I 76 1)) 77 4 0 0 16) 78 5 0 0 6
def cpB_2_75 (I : ZI) : ZI := zcp (zcp (zcp (zu (zu (zu (zu (zu I 6 0 (I 79 0)) 6 1 (I 79 1)) 6 2 (I 79 2)) 6 3 (I 79 3)) 6 4 (I 79 4)) 80 7 0 0 8) 81 8 0 0 8) 82 9 0 0 8
def cpC_2_75 (I : ZI) : ZI := zcp (zcp (zcp (zcp (zu (zcp (zcp (zu I 2 2 (I 75 2)) 83 10 0 0 5) 84 11 0 0 5) 2 5 (I 75 5)) 85 12 0 0 6) 86 13 0 0 6) 87 14 0 0 6) 88 15 0 0 6
def cpW_2_75 (I : ZI) : ZI := cpC_2_75 (cpB_2_75 (cpA_2_75 I))
theorem cpA_2_75_ne (I : ZI) {a : Nat} (h : ¬ (3 ≤ a ∧ a ≤ 5)) : cpA_2_75 I a = I a := by unfold cpA_2_75; rw [zqp_ne _ (by omega), zqp_ne _ (by omega), zu_ne _ _ _ (by omega), zu_ne _ _ _ (by omega)]
theorem cpB_2_75_ne (I : ZI) {a : Nat} (h : ¬ (6 ≤ a ∧ a ≤ 9)) : cpB_2_75 I a = I a := by unfold cpB_2_75; rw [zqp_ne _ (by omega), zqp_ne _ (by omega), zqp_ne _ (by omega), zu_ne _ _ _ (by omega), zu_ne _ _ _ (by omega), zu_ne _ _ _ (by omega), zu_ne _ _ _ (by omega), zu_ne _ _ _ (by omega)]
theorem cpC_2_75_ne (I : ZI) {a : Nat} (h : ¬ (a = 2 ∨ (10 ≤ a ∧ a ≤ 15))) : cpC_2_75 I a = I a := by unfold cpC_2_75; rw [zqp_ne _ (by omega), zqp_ne _ (by omega), zqp_ne _ (by omega), zqp_ne _ (by omega), zu_ne _ _ _ (by omega), zqp_ne _ (by omega), zqp_ne _ (by omega), zu_ne _ _ _ (by omega)]
theorem cpW_2_75_ne (I : ZI) {a : Nat} (h : ¬ (2 ≤ a ∧ a ≤ 15)) : cpW_2_75 I a = I a := by unfold cpW_2_75; rw [cpC_2_75_ne _ (by omega), cpB_2_75_ne _ (by omega), cpA_2_75_ne _ (by omega)]
theorem cpW_2_75_Wd {I : ZI} {n : Nat → Int32} (hW : Wd 75 I n) (h2 : (n 2).toInt ≤ 5) (h3 : (n 3).toInt ≤ 6) (h4 : (n 4).toInt ≤ 8) : Wd 2 (cpW_2_75 I) n := by
  obtain ⟨w0, w1, w2, w3, w4, w5, w6, w7, w8, w9, w10, w11, w12, w13⟩ := hW
  have f0 : cpW_2_75 I 3 0 = I 76 0 := by
    unfold cpW_2_75
    rw [cpC_2_75_ne _ (by omega), cpB_2_75_ne _ (by omega)]
    unfold cpA_2_75
    simp only [zcp_rd, zu_rd, Nat.reduceEqDiff, reduceIte]
  have f1 : cpW_2_75 I 3 1 = I 76 1 := by
    unfold cpW_2_75
    rw [cpC_2_75_ne _ (by omega), cpB_2_75_ne _ (by omega)]
    unfold cpA_2_75
    simp only [zcp_rd, zu_rd, Nat.reduceEqDiff, reduceIte]
  have f2 : cpW_2_75 I 2 2 = I 75 2 := by
    unfold cpW_2_75
    unfold cpC_2_75
    simp only [zcp_rd, zu_rd, Nat.reduceEqDiff, reduceIte]
    try rw [cpB_2_75_ne _ (by omega), cpA_2_75_ne _ (by omega)]
  have f3 : cpW_2_75 I 2 5 = I 75 5 := by
    unfold cpW_2_75
    unfold cpC_2_75
    simp only [zcp_rd, zu_rd, Nat.reduceEqDiff, reduceIte]
    try rw [cpB_2_75_ne _ (by omega), cpA_2_75_ne _ (by omega)]
  have f4 : cpW_2_75 I 6 4 = I 79 4 := by
    unfold cpW_2_75
    rw [cpC_2_75_ne _ (by omega)]
    unfold cpB_2_75
    simp only [zcp_rd, zu_rd, Nat.reduceEqDiff, reduceIte]
    try rw [cpA_2_75_ne _ (by omega)]
  have f5 : ∀ k, k < 16 → cpW_2_75 I 4 k = I 77 k := by
    intro k hk
    unfold cpW_2_75
    rw [cpC_2_75_ne _ (by omega), cpB_2_75_ne _ (by omega)]
    unfold cpA_2_75
    simp only [zcp_rd, zu_rd, Nat.reduceEqDiff, reduceIte]
    rw [cpy_in _ _ hk]
    try simp only [zcp_rd, zu_rd, Nat.reduceEqDiff, reduceIte]
  have f6 : ∀ k, k < 6 → cpW_2_75 I 5 k = I 78 k := by
    intro k hk
    unfold cpW_2_75
    rw [cpC_2_75_ne _ (by omega), cpB_2_75_ne _ (by omega)]
    unfold cpA_2_75
    simp only [zcp_rd, zu_rd, Nat.reduceEqDiff, reduceIte]
    rw [cpy_in _ _ hk]
    try simp only [zcp_rd, zu_rd, Nat.reduceEqDiff, reduceIte]
  have f7 : ∀ k, k < 5 → cpW_2_75 I 10 k = I 83 k := by
    intro k hk
    unfold cpW_2_75
    unfold cpC_2_75
    simp only [zcp_rd, zu_rd, Nat.reduceEqDiff, reduceIte]
    rw [cpy_in _ _ hk]
    try simp only [zcp_rd, zu_rd, Nat.reduceEqDiff, reduceIte]
    try rw [cpB_2_75_ne _ (by omega), cpA_2_75_ne _ (by omega)]
  have f7b : ∀ k, k < 5 → cpW_2_75 I 11 k = I 84 k := by
    intro k hk
    unfold cpW_2_75
    unfold cpC_2_75
    simp only [zcp_rd, zu_rd, Nat.reduceEqDiff, reduceIte]
    rw [cpy_in _ _ hk]
    try simp only [zcp_rd, zu_rd, Nat.reduceEqDiff, reduceIte]
    try rw [cpB_2_75_ne _ (by omega), cpA_2_75_ne _ (by omega)]
  have f8 : cpW_2_75 I 6 0 = I 79 0 := by
    unfold cpW_2_75
    rw [cpC_2_75_ne _ (by omega)]
    unfold cpB_2_75
    simp only [zcp_rd, zu_rd, Nat.reduceEqDiff, reduceIte]
    try rw [cpA_2_75_ne _ (by omega)]
  have f9 : cpW_2_75 I 6 1 = I 79 1 := by
    unfold cpW_2_75
    rw [cpC_2_75_ne _ (by omega)]
    unfold cpB_2_75
    simp only [zcp_rd, zu_rd, Nat.reduceEqDiff, reduceIte]
    try rw [cpA_2_75_ne _ (by omega)]
  have f10 : cpW_2_75 I 6 2 = I 79 2 := by
    unfold cpW_2_75
    rw [cpC_2_75_ne _ (by omega)]
    unfold cpB_2_75
    simp only [zcp_rd, zu_rd, Nat.reduceEqDiff, reduceIte]
    try rw [cpA_2_75_ne _ (by omega)]
  have f11 : cpW_2_75 I 6 3 = I 79 3 := by
    unfold cpW_2_75
    rw [cpC_2_75_ne _ (by omega)]
    unfold cpB_2_75
    simp only [zcp_rd, zu_rd, Nat.reduceEqDiff, reduceIte]
    try rw [cpA_2_75_ne _ (by omega)]
  have f12a : ∀ k, k < 8 → cpW_2_75 I 7 k = I 80 k := by
    intro k hk
    unfold cpW_2_75
    rw [cpC_2_75_ne _ (by omega)]
    unfold cpB_2_75
    simp only [zcp_rd, zu_rd, Nat.reduceEqDiff, reduceIte]
    rw [cpy_in _ _ hk]
    try simp only [zcp_rd, zu_rd, Nat.reduceEqDiff, reduceIte]
    try rw [cpA_2_75_ne _ (by omega)]
  have f12b : ∀ k, k < 8 → cpW_2_75 I 8 k = I 81 k := by
    intro k hk
    unfold cpW_2_75
    rw [cpC_2_75_ne _ (by omega)]
    unfold cpB_2_75
    simp only [zcp_rd, zu_rd, Nat.reduceEqDiff, reduceIte]
    rw [cpy_in _ _ hk]
    try simp only [zcp_rd, zu_rd, Nat.reduceEqDiff, reduceIte]
    try rw [cpA_2_75_ne _ (by omega)]
  have f12c : ∀ k, k < 8 → cpW_2_75 I 9 k = I 82 k := by
    intro k hk
    unfold cpW_2_75
    rw [cpC_2_75_ne _ (by omega)]
    unfold cpB_2_75
    simp only [zcp_rd, zu_rd, Nat.reduceEqDiff, reduceIte]
    rw [cpy_in _ _ hk]
    try simp only [zcp_rd, zu_rd, Nat.reduceEqDiff, reduceIte]
    try rw [cpA_2_75_ne _ (by omega)]
  have f13a : ∀ k, k < 6 → cpW_2_75 I 12 k = I 85 k := by
    intro k hk
    unfold cpW_2_75
    unfold cpC_2_75
    simp only [zcp_rd, zu_rd, Nat.reduceEqDiff, reduceIte]
    rw [cpy_in _ _ hk]
    try simp only [zcp_rd, zu_rd, Nat.reduceEqDiff, reduceIte]
    try rw [cpB_2_75_ne _ (by omega), cpA_2_75_ne _ (by omega)]
  have f13b : ∀ k, k < 6 → cpW_2_75 I 13 k = I 86 k := by
    intro k hk
    unfold cpW_2_75
    unfold cpC_2_75
    simp only [zcp_rd, zu_rd, Nat.reduceEqDiff, reduceIte]
    rw [cpy_in _ _ hk]
    try simp only [zcp_rd, zu_rd, Nat.reduceEqDiff, reduceIte]
    try rw [cpB_2_75_ne _ (by omega), cpA_2_75_ne _ (by omega)]
  have f13c : ∀ k, k < 6 → cpW_2_75 I 14 k = I 87 k := by
    intro k hk
    unfold cpW_2_75
    unfold cpC_2_75
    simp only [zcp_rd, zu_rd, Nat.reduceEqDiff, reduceIte]
    rw [cpy_in _ _ hk]
    try simp only [zcp_rd, zu_rd, Nat.reduceEqDiff, reduceIte]
    try rw [cpB_2_75_ne _ (by omega), cpA_2_75_ne _ (by omega)]
  have f13d : ∀ k, k < 6 → cpW_2_75 I 15 k = I 88 k := by
    intro k hk
    unfold cpW_2_75
    unfold cpC_2_75
    simp only [zcp_rd, zu_rd, Nat.reduceEqDiff, reduceIte]
    rw [cpy_in _ _ hk]
    try simp only [zcp_rd, zu_rd, Nat.reduceEqDiff, reduceIte]
    try rw [cpB_2_75_ne _ (by omega), cpA_2_75_ne _ (by omega)]
  refine ⟨f0.trans w0, f1.trans w1, f2.trans w2, f3.trans w3, f4.trans w4, fun c hc => (f5 c hc).trans (w5 c hc), fun i hi => (f6 i hi).trans (w6 i hi), fun h hh => ⟨(f7 h (by omega)).trans (w7 h hh).1, (f7b h (by omega)).trans (w7 h hh).2⟩, f8.trans w8, f9.trans w9, f10.trans w10, f11.trans w11, fun k hk => ⟨(f12a k (by omega)).trans (w12 k hk).1, (f12b k (by omega)).trans (w12 k hk).2.1, (f12c k (by omega)).trans (w12 k hk).2.2⟩, fun k hk => ⟨(f13a k (by omega)).trans (w13 k hk).1, (f13b k (by omega)).trans (w13 k hk).2.1, (f13c k (by omega)).trans (w13 k hk).2.2.1, (f13d k (by omega)).trans (w13 k hk).2.2.2⟩⟩
theorem p_copy_2_75_3 {I : ZI} {J : ZJ} (q : YQv) (hq : q (cpW_2_75 I) J) : u_X10_copyFrom [.ref 2, .ref 75] (shp 3) I J q := by
  rw [e_X10_copyFrom_e, e_X5_copyFrom_e]
  refine ⟨ck_16, ck_6, rfl, ?_⟩
  rw [e_X8_copyFrom_e]
  exact ⟨ck_8, ck_8, ck_8, rfl, ck_5, ck_5, ck_6, ck_6, ck_6, ck_6, rfl, hq⟩
theorem p_copy_2_75_4 {I : ZI} {J : ZJ} (q : YQv) (hq : q (cpW_2_75 I) J) : u_X10_copyFrom [.ref 2, .ref 75] (shp 4) I J q := by
  rw [e_X10_copyFrom_f, e_X5_copyFrom_f]
  refine ⟨ck_16, ck_6, rfl, ?_⟩
  rw [e_X8_copyFrom_f]
  exact ⟨ck_8, ck_8, ck_8, rfl, ck_5, ck_5, ck_6, ck_6, ck_6, ck_6, rfl, hq⟩
def cpA_61_2 (I : ZI) : ZI := zcp (zcp (zu (zu I 62 0 (I 3 0)) 62 1 (I 3 1)) 4 63 0 0 16) 5 64 0 0 6
def cpB_61_2 (I : ZI) : ZI := zcp (zcp (zcp (zu (zu (zu (zu (zu I 65 0 (I 6 0)) 65 1 (I 6 1)) 65 2 (I 6 2)) 65 3 (I 6 3)) 65 4 (I 6 4)) 7 66 0 0 8) 8 67 0 0 8) 9 68 0 0 8
def cpC_61_2 (I : ZI) : ZI := zcp (zcp (zcp (zcp (zu (zcp (zcp (zu I 61 2 (I 2 2)) 10 69 0 0 5) 11 70 0 0 5) 61 5 (I 2 5)) 12 71 0 0 6) 13 72 0 0 6) 14 73 0 0 6) 15 74 0 0 6
def cpW_61_2 (I : ZI) : ZI := cpC_61_2 (cpB_61_2 (cpA_61_2 I))
theorem cpA_61_2_ne (I : ZI) {a : Nat} (h : ¬ (62 ≤ a ∧ a ≤ 64)) : cpA_61_2 I a = I a := by unfold cpA_61_2; rw [zqp_ne _ (by omega), zqp_ne _ (by omega), zu_ne _ _ _ (by omega), zu_ne _ _ _ (by omega)]
theorem cpB_61_2_ne (I : ZI) {a : Nat} (h : ¬ (65 ≤ a ∧ a ≤ 68)) : cpB_61_2 I a = I a := by unfold cpB_61_2; rw [zqp_ne _ (by omega), zqp_ne _ (by omega), zqp_ne _ (by omega), zu_ne _ _ _ (by omega), zu_ne _ _ _ (by omega), zu_ne _ _ _ (by omega), zu_ne _ _ _ (by omega), zu_ne _ _ _ (by omega)]
theorem cpC_61_2_ne (I : ZI) {a : Nat} (h : ¬ (a = 61 ∨ (69 ≤ a ∧ a ≤ 74))) : cpC_61_2 I a = I a := by unfold cpC_61_2; rw [zqp_ne _ (by omega), zqp_ne _ (by omega), zqp_ne _ (by omega), zqp_ne _ (by omega), zu_ne _ _ _ (by omega), zqp_ne _ (by omega), zqp_ne _ (by omega), zu_ne _ _ _ (by omega)]
theorem cpW_61_2_ne (I : ZI) {a : Nat} (h : ¬ (61 ≤ a ∧ a ≤ 74)) : cpW_61_2 I a = I a := by unfold cpW_61_2; rw [cpC_61_2_ne _ (by omega), cpB_61_2_ne _ (by omega), cpA_61_2_ne _ (by omega)]
theorem cpW_61_2_Wd {I : ZI} {n : Nat → Int32} (hW : Wd 2 I n) (h2 : (n 2).toInt ≤ 5) (h3 : (n 3).toInt ≤ 6) (h4 : (n 4).toInt ≤ 8) : Wd 61 (cpW_61_2 I) n := by
  obtain ⟨w0, w1, w2, w3, w4, w5, w6, w7, w8, w9, w10, w11, w12, w13⟩ := hW
  have f0 : cpW_61_2 I 62 0 = I 3 0 := by
    unfold cpW_61_2
    rw [cpC_61_2_ne _ (by omega), cpB_61_2_ne _ (by omega)]
    unfold cpA_61_2
    simp only [zcp_rd, zu_rd, Nat.reduceEqDiff, reduceIte]
  have f1 : cpW_61_2 I 62 1 = I 3 1 := by
    unfold cpW_61_2
    rw [cpC_61_2_ne _ (by omega), cpB_61_2_ne _ (by omega)]
    unfold cpA_61_2
    simp only [zcp_rd, zu_rd, Nat.reduceEqDiff, reduceIte]
  have f2 : cpW_61_2 I 61 2 = I 2 2 := by
    unfold cpW_61_2
    unfold cpC_61_2
    simp only [zcp_rd, zu_rd, Nat.reduceEqDiff, reduceIte]
    try rw [cpB_61_2_ne _ (by omega), cpA_61_2_ne _ (by omega)]
  have f3 : cpW_61_2 I 61 5 = I 2 5 := by
    unfold cpW_61_2
    unfold cpC_61_2
    simp only [zcp_rd, zu_rd, Nat.reduceEqDiff, reduceIte]
    try rw [cpB_61_2_ne _ (by omega), cpA_61_2_ne _ (by omega)]
  have f4 : cpW_61_2 I 65 4 = I 6 4 := by
    unfold cpW_61_2
    rw [cpC_61_2_ne _ (by omega)]
    unfold cpB_61_2
    simp only [zcp_rd, zu_rd, Nat.reduceEqDiff, reduceIte]
    try rw [cpA_61_2_ne _ (by omega)]
  have f5 : ∀ k, k < 16 → cpW_61_2 I 63 k = I 4 k := by
    intro k hk
    unfold cpW_61_2
    rw [cpC_61_2_ne _ (by omega), cpB_61_2_ne _ (by omega)]
    unfold cpA_61_2
    simp only [zcp_rd, zu_rd, Nat.reduceEqDiff, reduceIte]
    rw [cpy_in _ _ hk]
    try simp only [zcp_rd, zu_rd, Nat.reduceEqDiff, reduceIte]
  have f6 : ∀ k, k < 6 → cpW_61_2 I 64 k = I 5 k := by
    intro k hk
    unfold cpW_61_2
    rw [cpC_61_2_ne _ (by omega), cpB_61_2_ne _ (by omega)]
    unfold cpA_61_2
    simp only [zcp_rd, zu_rd, Nat.reduceEqDiff, reduceIte]
    rw [cpy_in _ _ hk]
    try simp only [zcp_rd, zu_rd, Nat.reduceEqDiff, reduceIte]
  have f7 : ∀ k, k < 5 → cpW_61_2 I 69 k = I 10 k := by
    intro k hk
    unfold cpW_61_2
    unfold cpC_61_2
    simp only [zcp_rd, zu_rd, Nat.reduceEqDiff, reduceIte]
    rw [cpy_in _ _ hk]
    try simp only [zcp_rd, zu_rd, Nat.reduceEqDiff, reduceIte]
    try rw [cpB_61_2_ne _ (by omega), cpA_61_2_ne _ (by omega)]
  have f7b : ∀ k, k < 5 → cpW_61_2 I 70 k = I 11 k := by
    intro k hk
    unfold cpW_61_2
    unfold cpC_61_2
    simp only [zcp_rd, zu_rd, Nat.reduceEqDiff, reduceIte]
    rw [cpy_in _ _ hk]
    try simp only [zcp_rd, zu_rd, Nat.reduceEqDiff, reduceIte]
    try rw [cpB_61_2_ne _ (by omega), cpA_61_2_ne _ (by omega)]
  have f8 : cpW_61_2 I 65 0 = I 6 0 := by
    unfold cpW_61_2
    rw [cpC_61_2_ne _ (by omega)]
    unfold cpB_61_2
    simp only [zcp_rd, zu_rd, Nat.reduceEqDiff, reduceIte]
    try rw [cpA_61_2_ne _ (by omega)]
  have f9 : cpW_61_2 I 65 1 = I 6 1 := by
    unfold cpW_61_2
    rw [cpC_61_2_ne _ (by omega)]
    unfold cpB_61_2
    simp only [zcp_rd, zu_rd, Nat.reduceEqDiff, reduceIte]
    try rw [cpA_61_2_ne _ (by omega)]
  have f10 : cpW_61_2 I 65 2 = I 6 2 := by
    unfold cpW_61_2
    rw [cpC_61_2_ne _ (by omega)]
    unfold cpB_61_2
    simp only [zcp_rd, zu_rd, Nat.reduceEqDiff, reduceIte]
    try rw [cpA_61_2_ne _ (by omega)]
  have f11 : cpW_61_2 I 65 3 = I 6 3 := by
    unfold cpW_61_2
    rw [cpC_61_2_ne _ (by omega)]
    unfold cpB_61_2
    simp only [zcp_rd, zu_rd, Nat.reduceEqDiff, reduceIte]
    try rw [cpA_61_2_ne _ (by omega)]
  have f12a : ∀ k, k < 8 → cpW_61_2 I 66 k = I 7 k := by
    intro k hk
    unfold cpW_61_2
    rw [cpC_61_2_ne _ (by omega)]
    unfold cpB_61_2
    simp only [zcp_rd, zu_rd, Nat.reduceEqDiff, reduceIte]
    rw [cpy_in _ _ hk]
    try simp only [zcp_rd, zu_rd, Nat.reduceEqDiff, reduceIte]
    try rw [cpA_61_2_ne _ (by omega)]
  have f12b : ∀ k, k < 8 → cpW_61_2 I 67 k = I 8 k := by
    intro k hk
    unfold cpW_61_2
    rw [cpC_61_2_ne _ (by omega)]
    unfold cpB_61_2
    simp only [zcp_rd, zu_rd, Nat.reduceEqDiff, reduceIte]
    rw [cpy_in _ _ hk]
    try simp only [zcp_rd, zu_rd, Nat.reduceEqDiff, reduceIte]
    try rw [cpA_61_2_ne _ (by omega)]
  have f12c : ∀ k, k < 8 → cpW_61_2 I 68 k = I 9 k := by
    intro k hk
    unfold cpW_61_2
    rw [cpC_61_2_ne _ (by omega)]
    unfold cpB_61_2
    simp only [zcp_rd, zu_rd, Nat.reduceEqDiff, reduceIte]
    rw [cpy_in _ _ hk]
    try simp only [zcp_rd, zu_rd, Nat.reduceEqDiff, reduceIte]
    try rw [cpA_61_2_ne _ (by omega)]
  have f13a : ∀ k, k < 6 → cpW_61_2 I 71 k = I 12 k := by
    intro k hk
    unfold cpW_61_2
    unfold cpC_61_2
    simp only [zcp_rd, zu_rd, Nat.reduceEqDiff, reduceIte]
    rw [cpy_in _ _ hk]
    try simp only [zcp_rd, zu_rd, Nat.reduceEqDiff, reduceIte]
    try rw [cpB_61_2_ne _ (by omega), cpA_61_2_ne _ (by omega)]
  have f13b : ∀ k, k < 6 → cpW_61_2 I 72 k = I 13 k := by
    intro k hk
    unfold cpW_61_2
    unfold cpC_61_2
    simp only [zcp_rd, zu_rd, Nat.reduceEqDiff, reduceIte]
    rw [cpy_in _ _ hk]
    try simp only [zcp_rd, zu_rd, Nat.reduceEqDiff, reduceIte]
    try rw [cpB_61_2_ne _ (by omega), cpA_61_2_ne _ (by omega)]
  have f13c : ∀ k, k < 6 → cpW_61_2 I 73 k = I 14 k := by
    intro k hk
    unfold cpW_61_2
    unfold cpC_61_2
    simp only [zcp_rd, zu_rd, Nat.reduceEqDiff, reduceIte]
    rw [cpy_in _ _ hk]
    try simp only [zcp_rd, zu_rd, Nat.reduceEqDiff, reduceIte]
    try rw [cpB_61_2_ne _ (by omega), cpA_61_2_ne _ (by omega)]
  have f13d : ∀ k, k < 6 → cpW_61_2 I 74 k = I 15 k := by
    intro k hk
    unfold cpW_61_2
    unfold cpC_61_2
    simp only [zcp_rd, zu_rd, Nat.reduceEqDiff, reduceIte]
    rw [cpy_in _ _ hk]
    try simp only [zcp_rd, zu_rd, Nat.reduceEqDiff, reduceIte]
    try rw [cpB_61_2_ne _ (by omega), cpA_61_2_ne _ (by omega)]
  refine ⟨f0.trans w0, f1.trans w1, f2.trans w2, f3.trans w3, f4.trans w4, fun c hc => (f5 c hc).trans (w5 c hc), fun i hi => (f6 i hi).trans (w6 i hi), fun h hh => ⟨(f7 h (by omega)).trans (w7 h hh).1, (f7b h (by omega)).trans (w7 h hh).2⟩, f8.trans w8, f9.trans w9, f10.trans w10, f11.trans w11, fun k hk => ⟨(f12a k (by omega)).trans (w12 k hk).1, (f12b k (by omega)).trans (w12 k hk).2.1, (f12c k (by omega)).trans (w12 k hk).2.2⟩, fun k hk => ⟨(f13a k (by omega)).trans (w13 k hk).1, (f13b k (by omega)).trans (w13 k hk).2.1, (f13c k (by omega)).trans (w13 k hk).2.2.1, (f13d k (by omega)).trans (w13 k hk).2.2.2⟩⟩
theorem p_copy_61_2_1 {I : ZI} {J : ZJ} (q : YQv) (hq : q (cpW_61_2 I) J) : u_X10_copyFrom [.ref 61, .ref 2] (shp 1) I J q := by
  rw [e_X10_copyFrom_g, e_X5_copyFrom_g]
  refine ⟨ck_16, ck_6, rfl, ?_⟩
  rw [e_X8_copyFrom_g]
  exact ⟨ck_8, ck_8, ck_8, rfl, ck_5, ck_5, ck_6, ck_6, ck_6, ck_6, rfl, hq⟩
theorem p_copy_61_2_2 {I : ZI} {J : ZJ} (q : YQv) (hq : q (cpW_61_2 I) J) : u_X10_copyFrom [.ref 61, .ref 2] (shp 2) I J q := by
  rw [e_X10_copyFrom_h, e_X5_copyFrom_h]
  refine ⟨ck_16, ck_6, rfl, ?_⟩
  rw [e_X8_copyFrom_h]
  exact ⟨ck_8, ck_8, ck_8, rfl, ck_5, ck_5, ck_6, ck_6, ck_6, ck_6, rfl, hq⟩
theorem p_copy_61_2_3 {I : ZI} {J : ZJ} (q : YQv) (hq : q (cpW_61_2 I) J) : u_X10_copyFrom [.ref 61, .ref 2] (shp 3) I J q := by
  rw [e_X10_copyFrom_j, e_X5_copyFrom_j]
  refine ⟨ck_16, ck_6, rfl, ?_⟩
  rw [e_X8_copyFrom_j]
  exact ⟨ck_8, ck_8, ck_8, rfl, ck_5, ck_5, ck_6, ck_6, ck_6, ck_6, rfl, hq⟩
theorem p_copy_61_2_4 {I : ZI} {J : ZJ} (q : YQv) (hq : q (cpW_61_2 I) J) : u_X10_copyFrom [.ref 61, .ref 2] (shp 4) I J q := by
  rw [e_X10_copyFrom_k, e_X5_copyFrom_k]
  refine ⟨ck_16, ck_6, rfl, ?_⟩
  rw [e_X8_copyFrom_k]
  exact ⟨ck_8, ck_8, ck_8, rfl, ck_5, ck_5, ck_6, ck_6, ck_6, ck_6, rfl, hq⟩
def cpA_75_2 (I : ZI) : ZI := zcp (zcp (zu (zu I 76 0 (I 3 0)) 76 1 (I 3 1)) 4 77 0 0 16) 5 78 0 0 6
def cpB_75_2 (I : ZI) : ZI := zcp (zcp (zcp (zu (zu (zu (zu (zu I 79 0 (I 6 0)) 79 1 (I 6 1)) 79 2 (I 6 2)) 79 3 (I 6 3)) 79 4 (I 6 4)) 7 80 0 0 8) 8 81 0 0 8) 9 82 0 0 8
def cpC_75_2 (I : ZI) : ZI := zcp (zcp (zcp (zcp (zu (zcp (zcp (zu I 75 2 (I 2 2)) 10 83 0 0 5) 11 84 0 0 5) 75 5 (I 2 5)) 12 85 0 0 6) 13 86 0 0 6) 14 87 0 0 6) 15 88 0 0 6
def cpW_75_2 (I : ZI) : ZI := cpC_75_2 (cpB_75_2 (cpA_75_2 I))
theorem cpA_75_2_ne (I : ZI) {a : Nat} (h : ¬ (76 ≤ a ∧ a ≤ 78)) : cpA_75_2 I a = I a := by unfold cpA_75_2; rw [zqp_ne _ (by omega), zqp_ne _ (by omega), zu_ne _ _ _ (by omega), zu_ne _ _ _ (by omega)]
theorem cpB_75_2_ne (I : ZI) {a : Nat} (h : ¬ (79 ≤ a ∧ a ≤ 82)) : cpB_75_2 I a = I a := by unfold cpB_75_2; rw [zqp_ne _ (by omega), zqp_ne _ (by omega), zqp_ne _ (by omega), zu_ne _ _ _ (by omega), zu_ne _ _ _ (by omega), zu_ne _ _ _ (by omega), zu_ne _ _ _ (by omega), zu_ne _ _ _ (by omega)]
theorem cpC_75_2_ne (I : ZI) {a : Nat} (h : ¬ (a = 75 ∨ (83 ≤ a ∧ a ≤ 88))) : cpC_75_2 I a = I a := by unfold cpC_75_2; rw [zqp_ne _ (by omega), zqp_ne _ (by omega), zqp_ne _ (by omega), zqp_ne _ (by omega), zu_ne _ _ _ (by omega), zqp_ne _ (by omega), zqp_ne _ (by omega), zu_ne _ _ _ (by omega)]
theorem cpW_75_2_ne (I : ZI) {a : Nat} (h : ¬ (75 ≤ a ∧ a ≤ 88)) : cpW_75_2 I a = I a := by unfold cpW_75_2; rw [cpC_75_2_ne _ (by omega), cpB_75_2_ne _ (by omega), cpA_75_2_ne _ (by omega)]
theorem cpW_75_2_Wd {I : ZI} {n : Nat → Int32} (hW : Wd 2 I n) (h2 : (n 2).toInt ≤ 5) (h3 : (n 3).toInt ≤ 6) (h4 : (n 4).toInt ≤ 8) : Wd 75 (cpW_75_2 I) n := by
  obtain ⟨w0, w1, w2, w3, w4, w5, w6, w7, w8, w9, w10, w11, w12, w13⟩ := hW
  have f0 : cpW_75_2 I 76 0 = I 3 0 := by
    unfold cpW_75_2
    rw [cpC_75_2_ne _ (by omega), cpB_75_2_ne _ (by omega)]
    unfold cpA_75_2
    simp only [zcp_rd, zu_rd, Nat.reduceEqDiff, reduceIte]
  have f1 : cpW_75_2 I 76 1 = I 3 1 := by
    unfold cpW_75_2
    rw [cpC_75_2_ne _ (by omega), cpB_75_2_ne _ (by omega)]
    unfold cpA_75_2
    simp only [zcp_rd, zu_rd, Nat.reduceEqDiff, reduceIte]
  have f2 : cpW_75_2 I 75 2 = I 2 2 := by
    unfold cpW_75_2
    unfold cpC_75_2
    simp only [zcp_rd, zu_rd, Nat.reduceEqDiff, reduceIte]
    try rw [cpB_75_2_ne _ (by omega), cpA_75_2_ne _ (by omega)]
  have f3 : cpW_75_2 I 75 5 = I 2 5 := by
    unfold cpW_75_2
    unfold cpC_75_2
    simp only [zcp_rd, zu_rd, Nat.reduceEqDiff, reduceIte]
    try rw [cpB_75_2_ne _ (by omega), cpA_75_2_ne _ (by omega)]
  have f4 : cpW_75_2 I 79 4 = I 6 4 := by
    unfold cpW_75_2
    rw [cpC_75_2_ne _ (by omega)]
    unfold cpB_75_2
    simp only [zcp_rd, zu_rd, Nat.reduceEqDiff, reduceIte]
    try rw [cpA_75_2_ne _ (by omega)]
  have f5 : ∀ k, k < 16 → cpW_75_2 I 77 k = I 4 k := by
    intro k hk
    unfold cpW_75_2
    rw [cpC_75_2_ne _ (by omega), cpB_75_2_ne _ (by omega)]
    unfold cpA_75_2
    simp only [zcp_rd, zu_rd, Nat.reduceEqDiff, reduceIte]
    rw [cpy_in _ _ hk]
    try simp only [zcp_rd, zu_rd, Nat.reduceEqDiff, reduceIte]
  have f6 : ∀ k, k < 6 → cpW_75_2 I 78 k = I 5 k := by
    intro k hk
    unfold cpW_75_2
    rw [cpC_75_2_ne _ (by omega), cpB_75_2_ne _ (by omega)]
    unfold cpA_75_2
    simp only [zcp_rd, zu_rd, Nat.reduceEqDiff, reduceIte]
    rw [cpy_in _ _ hk]
    try simp only [zcp_rd, zu_rd, Nat.reduceEqDiff, reduceIte]
  have f7 : ∀ k, k < 5 → cpW_75_2 I 83 k = I 10 k := by
    intro k hk
    unfold cpW_75_2
    unfold cpC_75_2
    simp only [zcp_rd, zu_rd, Nat.reduceEqDiff, reduceIte]
    rw [cpy_in _ _ hk]
    try simp only [zcp_rd, zu_rd, Nat.reduceEqDiff, reduceIte]
    try rw [cpB_75_2_ne _ (by omega), cpA_75_2_ne _ (by omega)]
  have f7b : ∀ k, k < 5 → cpW_75_2 I 84 k = I 11 k := by
    intro k hk
    unfold cpW_75_2
    unfold cpC_75_2
    simp only [zcp_rd, zu_rd, Nat.reduceEqDiff, reduceIte]
    rw [cpy_in _ _ hk]
    try simp only [zcp_rd, zu_rd, Nat.reduceEqDiff, reduceIte]
    try rw [cpB_75_2_ne _ (by omega), cpA_75_2_ne _ (by omega)]
  have f8 : cpW_75_2 I 79 0 = I 6 0 := by
    unfold cpW_75_2
    rw [cpC_75_2_ne _ (by omega)]
    unfold cpB_75_2
    simp only [zcp_rd, zu_rd, Nat.reduceEqDiff, reduceIte]
    try rw [cpA_75_2_ne _ (by omega)]
  have f9 : cpW_75_2 I 79 1 = I 6 1 := by
    unfold cpW_75_2
    rw [cpC_75_2_ne _ (by omega)]
    unfold cpB_75_2
    simp only [zcp_rd, zu_rd, Nat.reduceEqDiff, reduceIte]
    try rw [cpA_75_2_ne _ (by omega)]
  have f10 : cpW_75_2 I 79 2 = I 6 2 := by
    unfold cpW_75_2
    rw [cpC_75_2_ne _ (by omega)]
    unfold cpB_75_2
    simp only [zcp_rd, zu_rd, Nat.reduceEqDiff, reduceIte]
    try rw [cpA_75_2_ne _ (by omega)]
  have f11 : cpW_75_2 I 79 3 = I 6 3 := by
    unfold cpW_75_2
    rw [cpC_75_2_ne _ (by omega)]
    unfold cpB_75_2
    simp only [zcp_rd, zu_rd, Nat.reduceEqDiff, reduceIte]
    try rw [cpA_75_2_ne _ (by omega)]
  have f12a : ∀ k, k < 8 → cpW_75_2 I 80 k = I 7 k := by
    intro k hk
    unfold cpW_75_2
    rw [cpC_75_2_ne _ (by omega)]
    unfold cpB_75_2
    simp only [zcp_rd, zu_rd, Nat.reduceEqDiff, reduceIte]
    rw [cpy_in _ _ hk]
    try simp only [zcp_rd, zu_rd, Nat.reduceEqDiff, reduceIte]
    try rw [cpA_75_2_ne _ (by omega)]
  have f12b : ∀ k, k < 8 → cpW_75_2 I 81 k = I 8 k := by
    intro k hk
    unfold cpW_75_2
    rw [cpC_75_2_ne _ (by omega)]
    unfold cpB_75_2
    simp only [zcp_rd, zu_rd, Nat.reduceEqDiff, reduceIte]
    rw [cpy_in _ _ hk]
    try simp only [zcp_rd, zu_rd, Nat.reduceEqDiff, reduceIte]
    try rw [cpA_75_2_ne _ (by omega)]
  have f12c : ∀ k, k < 8 → cpW_75_2 I 82 k = I 9 k := by
    intro k hk
    unfold cpW_75_2
    rw [cpC_75_2_ne _ (by omega)]
    unfold cpB_75_2
    simp only [zcp_rd, zu_rd, Nat.reduceEqDiff, reduceIte]
    rw [cpy_in _ _ hk]
    try simp only [zcp_rd, zu_rd, Nat.reduceEqDiff, reduceIte]
    try rw [cpA_75_2_ne _ (by omega)]
  have f13a : ∀ k, k < 6 → cpW_75_2 I 85 k = I 12 k := by
    intro k hk
    unfold cpW_75_2
    unfold cpC_75_2
    simp only [zcp_rd, zu_rd, Nat.reduceEqDiff, reduceIte]
    rw [cpy_in _ _ hk]
    try simp only [zcp_rd, zu_rd, Nat.reduceEqDiff, reduceIte]
    try rw [cpB_75_2_ne _ (by omega), cpA_75_2_ne _ (by omega)]
  have f13b : ∀ k, k < 6 → cpW_75_2 I 86 k = I 13 k := by
    intro k hk
    unfold cpW_75_2
    unfold cpC_75_2
    simp only [zcp_rd, zu_rd, Nat.reduceEqDiff, reduceIte]
    rw [cpy_in _ _ hk]
    try simp only [zcp_rd, zu_rd, Nat.reduceEqDiff, reduceIte]
    try rw [cpB_75_2_ne _ (by omega), cpA_75_2_ne _ (by omega)]
  have f13c : ∀ k, k < 6 → cpW_75_2 I 87 k = I 14 k := by
    intro k hk
    unfold cpW_75_2
    unfold cpC_75_2
    simp only [zcp_rd, zu_rd, Nat.reduceEqDiff, reduceIte]
    rw [cpy_in _ _ hk]
    try simp only [zcp_rd, zu_rd, Nat.reduceEqDiff, reduceIte]
    try rw [cpB_75_2_ne _ (by omega), cpA_75_2_ne _ (by omega)]
  have f13d : ∀ k, k < 6 → cpW_75_2 I 88 k = I 15 k := by
    intro k hk
    unfold cpW_75_2
    unfold cpC_75_2
    simp only [zcp_rd, zu_rd, Nat.reduceEqDiff, reduceIte]
    rw [cpy_in _ _ hk]
    try simp only [zcp_rd, zu_rd, Nat.reduceEqDiff, reduceIte]
    try rw [cpB_75_2_ne _ (by omega), cpA_75_2_ne _ (by omega)]
  refine ⟨f0.trans w0, f1.trans w1, f2.trans w2, f3.trans w3, f4.trans w4, fun c hc => (f5 c hc).trans (w5 c hc), fun i hi => (f6 i hi).trans (w6 i hi), fun h hh => ⟨(f7 h (by omega)).trans (w7 h hh).1, (f7b h (by omega)).trans (w7 h hh).2⟩, f8.trans w8, f9.trans w9, f10.trans w10, f11.trans w11, fun k hk => ⟨(f12a k (by omega)).trans (w12 k hk).1, (f12b k (by omega)).trans (w12 k hk).2.1, (f12c k (by omega)).trans (w12 k hk).2.2⟩, fun k hk => ⟨(f13a k (by omega)).trans (w13 k hk).1, (f13b k (by omega)).trans (w13 k hk).2.1, (f13c k (by omega)).trans (w13 k hk).2.2.1, (f13d k (by omega)).trans (w13 k hk).2.2.2⟩⟩
theorem p_copy_75_2_3 {I : ZI} {J : ZJ} (q : YQv) (hq : q (cpW_75_2 I) J) : u_X10_copyFrom [.ref 75, .ref 2] (shp 3) I J q := by
  rw [e_X10_copyFrom_l, e_X5_copyFrom_l]
  refine ⟨ck_16, ck_6, rfl, ?_⟩
  rw [e_X8_copyFrom_l]
  exact ⟨ck_8, ck_8, ck_8, rfl, ck_5, ck_5, ck_6, ck_6, ck_6, ck_6, rfl, hq⟩
theorem p_copy_75_2_4 {I : ZI} {J : ZJ} (q : YQv) (hq : q (cpW_75_2 I) J) : u_X10_copyFrom [.ref 75, .ref 2] (shp 4) I J q := by
  rw [e_X10_copyFrom_m, e_X5_copyFrom_m]
  refine ⟨ck_16, ck_6, rfl, ?_⟩
  rw [e_X8_copyFrom_m]
  exact ⟨ck_8, ck_8, ck_8, rfl, ck_5, ck_5, ck_6, ck_6, ck_6, ck_6, rfl, hq⟩
