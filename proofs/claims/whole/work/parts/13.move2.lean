/-! ===== one step of a trial ===== -/
variable (u : Nat) (I : ZI) (J : ZJ)
theorem i_ix {x : Int32} {a b : Nat} (h : 0 ≤ x.toInt ∧ x.toInt ≤ 40) (ha : a < 1000) (hb : b < 1000) : (nI a + nI b * x).toInt = a + b * x.toInt.toNat := by
  rw [mI_of h.1, mI_mul, mI_add]
  have e : (nI x.toInt.toNat).toInt.toNat = x.toInt.toNat := by rw [← mI_of h.1]
  have hx : x.toInt.toNat ≤ 40 := by omega
  have hm : b * x.toInt.toNat ≤ 1000 * 40 := Nat.mul_le_mul (by omega) hx
  rw [e, i_nI _ (by omega)]; simp
theorem p_X12_kindOf {x : Int32} (h : 0 ≤ x.toInt ∧ x.toInt ≤ 4) (q : YQi) : u_X12_kindOf [.ref 48, .int x] (shp u) I J q = q I J (I 49 (27 + 2 * x.toInt.toNat)) := by
  have e1 : ((27 : Int32) + ((2 : Int32) * x)).toInt = 27 + 2 * x.toInt.toNat := i_ix (a := 27) (b := 2) ⟨h.1, by omega⟩ (by omega) (by omega)
  have hv : vp_in ((27 : Int32) + ((2 : Int32) * x)) 98 := by rw [i_vp, e1]; omega
  have hn : ((27 : Int32) + ((2 : Int32) * x)).toNatClampNeg = 27 + 2 * x.toInt.toNat := by rw [i_nat, e1]; omega
  simp only [e_X12_kindOf, eq_self, true_and, hv, hn]
theorem p_X12_setOf {x : Int32} (h : 0 ≤ x.toInt ∧ x.toInt ≤ 4) (q : YQi) : u_X12_setOf [.ref 48, .int x] (shp u) I J q = q I J (I 49 (28 + 2 * x.toInt.toNat)) := by
  have e1 : ((27 : Int32) + ((2 : Int32) * x)).toInt = 27 + 2 * x.toInt.toNat := i_ix (a := 27) (b := 2) ⟨h.1, by omega⟩ (by omega) (by omega)
  have e2 : (((27 : Int32) + ((2 : Int32) * x)) + 1).toInt = 28 + 2 * x.toInt.toNat := by
    rw [i_add, e1]; have : (1 : Int32).toInt = 1 := rfl
    rw [this]; omega
  have hv : vp_in (((27 : Int32) + ((2 : Int32) * x)) + 1) 98 := by rw [i_vp, e2]; omega
  have hn : (((27 : Int32) + ((2 : Int32) * x)) + 1).toNatClampNeg = 28 + 2 * x.toInt.toNat := by rw [i_nat, e2]; omega
  simp only [e_X12_setOf, eq_self, true_and, hv, hn]
theorem p_X12_leanBehind {kd c p t : Int32} (hk : 0 ≤ kd.toInt ∧ kd.toInt ≤ 5) (hc : 0 ≤ (cel (I 49 0) c p).toInt ∧ (cel (I 49 0) c p).toInt ≤ 15) (ht : 0 ≤ t.toInt) (l : Int32) (q : YQi) :
    u_X12_leanBehind [.ref 48, .int kd, .int c, .int l, .int t, .int p] (shp u) I J q = q I J (lb kd l (I 53 (cel (I 49 0) c p).toInt.toNat) (I 49 (21 + wn t)) p) := by
  have e1 := rem_6 ht
  have e2 : ((21 : Int32) + (t - t / 6 * 6)).toInt = 21 + t.toInt % 6 := by
    rw [i_add, e1]; have : (21 : Int32).toInt = 21 := rfl
    rw [this]; omega
  have hv : vp_in ((21 : Int32) + (t - t / 6 * 6)) 98 := by rw [i_vp, e2]; omega
  have hn : ((21 : Int32) + (t - t / 6 * 6)).toNatClampNeg = 21 + wn t := by rw [i_nat, e2]; unfold wn; omega
  have hw : vp_in (cel (I 49 0) c p) 16 := by rw [i_vp]; omega
  have h6 : ¬ ((6 : Int32) = 0) := by decide
  simp only [e_X12_leanBehind, p_X12_cellBy, p_X12_leanBy _ _ _ hk, eq_self, true_and, hv, hn, hw, h6, not_false_iff, i_nat]
theorem p_X12_goStep {kd p t : Int32} (hk : 0 ≤ kd.toInt ∧ kd.toInt ≤ 5) (hc : 0 ≤ (cel (I 49 0) (I 48 7) p).toInt ∧ (cel (I 49 0) (I 48 7) p).toInt ≤ 15) (ht : 0 ≤ (t + I 48 9).toInt) (b : Int32) (q : YQv) :
    u_X12_goStep [.ref 48, .int kd, .int t, .int p, .int b] (shp u) I J q = q (zu (zu (zu I 48 8 (lb kd (I 48 8) (I 53 (cel (I 49 0) (I 48 7) p).toInt.toNat) (I 49 (21 + wn (t + I 48 9))) p + b)) 48 7 (cel (I 49 0) (I 48 7) p)) 48 9 (I 48 9 + 1)) J := by
  simp only [e_X12_goStep, p_X12_leanBehind u I J hk hc ht, p_X12_cellBy, eq_self, true_and]
  simp only [zu, Nat.reduceEqDiff, if_false, if_true, reduceIte]
theorem p_X12_isOver (q : YQi) : u_X12_isOver [.ref 48] (shp u) I J q = q I J (bI (fel (I 49 1) (I 48 8) ∨ I 48 7 = I 49 0)) := by
  simp only [e_X12_isOver, g_X12_isOver_22, g_X12_isOver_27, p_X12_falls, p_X12_fountain, eq_self, true_and, true_or, or_true, bI_0]
  by_cases h1 : fel (I 49 1) (I 48 8)
  · rw [bI_t (Or.inl h1)]; simp only [h1, not_true, not_false_iff, Classical.not_not, true_implies, false_implies, and_true, true_and, and_self, if_true, if_false]
  · by_cases h2 : I 48 7 = I 49 0
    · rw [bI_t (Or.inr h2)]; simp only [h1, h2, not_true, not_false_iff, Classical.not_not, true_implies, false_implies, and_true, true_and, and_self, if_true, if_false]
    · rw [bI_f (fun h => h.elim h1 h2)]; simp only [h1, h2, not_true, not_false_iff, Classical.not_not, true_implies, false_implies, and_true, true_and, and_self, if_true, if_false]
theorem p_X12_fellIn (q : YQi) : (fel (I 49 1) (I 48 8) → q I J (I 48 7)) → (¬ fel (I 49 1) (I 48 8) → q I J (-1)) → u_X12_fellIn [.ref 48] (shp u) I J q := by
  intro h1 h2
  simp only [e_X12_fellIn, g_X12_fellIn_19, p_X12_falls, eq_self, true_and, bI_0]
  exact ⟨h2, fun h => h1 (Classical.not_not.mp h)⟩
theorem p_X8_isFallen (q : YQi) : u_X8_isFallen [.ref 33, .ref 3] (shp u) I J q = q I J (bI (fel (I 3 1) (I 33 3))) := by
  simp only [e_X8_isFallen_a, e_X8_isFallen, p_X5_fells, eq_self, true_and, bI_01]
theorem p_X8_isFallen6 (q : YQi) : u_X8_isFallen [.ref 6, .ref 3] (shp u) I J q = q I J (bI (fel (I 3 1) (I 6 3))) := by
  simp only [e_X8_isFallen_a, e_X8_isFallen, p_X5_fells, eq_self, true_and, bI_01]
theorem p_X8_isOver (q : YQi) : u_X8_isOver [.ref 33, .ref 3] (shp u) I J q = q I J (bI (I 3 0 ≤ I 33 1 ∨ fel (I 3 1) (I 33 3))) := by
  simp only [e_X8_isOver_a, g_X8_isOver_a_19, g_X8_isOver_a_24, e_X8_isOver, g_X8_isOver_19, g_X8_isOver_24, p_X8_isFallen, eq_self, true_and, true_or, or_true, bI_0]
  by_cases h1 : I 3 0 ≤ I 33 1
  · rw [bI_t (Or.inl h1)]; simp only [h1, not_true, not_false_iff, Classical.not_not, true_implies, false_implies, and_true, true_and, and_self, if_true, if_false]
  · by_cases h2 : fel (I 3 1) (I 33 3)
    · rw [bI_t (Or.inr h2)]; simp only [h1, h2, not_true, not_false_iff, Classical.not_not, true_implies, false_implies, and_true, true_and, and_self, if_true, if_false]
    · rw [bI_f (fun h => h.elim h1 h2)]; simp only [h1, h2, not_true, not_false_iff, Classical.not_not, true_implies, false_implies, and_true, true_and, and_self, if_true, if_false]
theorem p_X8_isOver6 (q : YQi) : u_X8_isOver [.ref 6, .ref 3] (shp u) I J q = q I J (bI (I 3 0 ≤ I 6 1 ∨ fel (I 3 1) (I 6 3))) := by
  simp only [e_X8_isOver_a, g_X8_isOver_a_19, g_X8_isOver_a_24, e_X8_isOver, g_X8_isOver_19, g_X8_isOver_24, p_X8_isFallen6, eq_self, true_and, true_or, or_true, bI_0]
  by_cases h1 : I 3 0 ≤ I 6 1
  · rw [bI_t (Or.inl h1)]; simp only [h1, not_true, not_false_iff, Classical.not_not, true_implies, false_implies, and_true, true_and, and_self, if_true, if_false]
  · by_cases h2 : fel (I 3 1) (I 6 3)
    · rw [bI_t (Or.inr h2)]; simp only [h1, h2, not_true, not_false_iff, Classical.not_not, true_implies, false_implies, and_true, true_and, and_self, if_true, if_false]
    · rw [bI_f (fun h => h.elim h1 h2)]; simp only [h1, h2, not_true, not_false_iff, Classical.not_not, true_implies, false_implies, and_true, true_and, and_self, if_true, if_false]
theorem p_X8_isThrough (q : YQi) : u_X8_isThrough [.ref 33, .ref 3] (shp u) I J q = q I J (bI (I 3 0 ≤ I 33 1 ∧ ¬ fel (I 3 1) (I 33 3))) := by
  simp only [e_X8_isThrough_a, g_X8_isThrough_a_23, g_X8_isThrough_a_24, e_X8_isThrough, g_X8_isThrough_23, g_X8_isThrough_24, p_X8_isFallen, eq_self, true_and, true_or, or_true, bI_0]
  have e : (I 33 1 < I 3 0) = ¬ (I 3 0 ≤ I 33 1) := by rw [i_lt, i_le]; apply propext; omega
  rw [e]
  by_cases h1 : I 3 0 ≤ I 33 1
  · by_cases h2 : fel (I 3 1) (I 33 3)
    · rw [bI_f (fun h => h.2 h2)]; simp only [h1, h2, not_true, not_false_iff, Classical.not_not, true_implies, false_implies, and_true, true_and, and_self, if_true, if_false]
    · rw [bI_t ⟨h1, h2⟩]; simp only [h1, h2, not_true, not_false_iff, Classical.not_not, true_implies, false_implies, and_true, true_and, and_self, if_true, if_false]
  · rw [bI_f (fun h => h1 h.1)]; simp only [h1, not_true, not_false_iff, Classical.not_not, true_implies, false_implies, and_true, true_and, and_self, if_true, if_false]
theorem p_X8_isThrough6 (q : YQi) : u_X8_isThrough [.ref 6, .ref 3] (shp u) I J q = q I J (bI (I 3 0 ≤ I 6 1 ∧ ¬ fel (I 3 1) (I 6 3))) := by
  simp only [e_X8_isThrough_a, g_X8_isThrough_a_23, g_X8_isThrough_a_24, e_X8_isThrough, g_X8_isThrough_23, g_X8_isThrough_24, p_X8_isFallen6, eq_self, true_and, true_or, or_true, bI_0]
  have e : (I 6 1 < I 3 0) = ¬ (I 3 0 ≤ I 6 1) := by rw [i_lt, i_le]; apply propext; omega
  rw [e]
  by_cases h1 : I 3 0 ≤ I 6 1
  · by_cases h2 : fel (I 3 1) (I 6 3)
    · rw [bI_f (fun h => h.2 h2)]; simp only [h1, h2, not_true, not_false_iff, Classical.not_not, true_implies, false_implies, and_true, true_and, and_self, if_true, if_false]
    · rw [bI_t ⟨h1, h2⟩]; simp only [h1, h2, not_true, not_false_iff, Classical.not_not, true_implies, false_implies, and_true, true_and, and_self, if_true, if_false]
  · rw [bI_f (fun h => h1 h.1)]; simp only [h1, not_true, not_false_iff, Classical.not_not, true_implies, false_implies, and_true, true_and, and_self, if_true, if_false]
theorem p_X8_fellIn (q : YQi) : (fel (I 3 1) (I 33 3) → q I J (I 33 1)) → (¬ fel (I 3 1) (I 33 3) → q I J (-1)) → u_X8_fellIn [.ref 33, .ref 3] (shp u) I J q := by
  intro h1 h2
  simp only [e_X8_fellIn, g_X8_fellIn_16, p_X8_isFallen, eq_self, true_and, bI_0]
  exact ⟨h2, fun h => h1 (Classical.not_not.mp h)⟩
theorem p_X8_go {kd p : Int32} (hk : 0 ≤ kd.toInt ∧ kd.toInt ≤ 5) (hc : 0 ≤ (cel (I 3 0) (I 33 1) p).toInt ∧ (cel (I 3 0) (I 33 1) p).toInt ≤ 15) (ht : 0 ≤ (I 33 2).toInt) (b : Int32) (q : YQv) :
    u_X8_go [.ref 33, .ref 3, .ref (42 + kd.toInt.toNat), .int p, .int b] (shp u) I J q = q (zu (zu (zu I 33 1 (cel (I 3 0) (I 33 1) p)) 33 3 (lb kd (I 33 3) (I 4 (cel (I 3 0) (I 33 1) p).toInt.toNat) (I 5 (wn (I 33 2))) p + b)) 33 2 (I 33 2 + 1)) J := by
  have hz : (zu I 33 1 (cel (I 3 0) (I 33 1) p)) 33 2 = I 33 2 := by simp only [zu, Nat.reduceEqDiff, if_false, if_true, reduceIte]
  have ht' : 0 ≤ ((zu I 33 1 (cel (I 3 0) (I 33 1) p)) 33 2).toInt := by rw [hz]; exact ht
  simp only [e_X8_go, e_X8_go_a, p_X5_cellBehind, p_X5_cobbleOf _ _ _ hc, p_X5_windIn _ _ _ ht', p_LB _ _ _ hk, eq_self, true_and]
  simp only [zu, Nat.reduceEqDiff, if_false, if_true, reduceIte]
theorem p_X8_go6 {kd p : Int32} (hk : 0 ≤ kd.toInt ∧ kd.toInt ≤ 5) (hc : 0 ≤ (cel (I 3 0) (I 6 1) p).toInt ∧ (cel (I 3 0) (I 6 1) p).toInt ≤ 15) (ht : 0 ≤ (I 6 2).toInt) (b : Int32) (q : YQv) :
    u_X8_go [.ref 6, .ref 3, .ref (42 + kd.toInt.toNat), .int p, .int b] (shp u) I J q = q (zu (zu (zu I 6 1 (cel (I 3 0) (I 6 1) p)) 6 3 (lb kd (I 6 3) (I 4 (cel (I 3 0) (I 6 1) p).toInt.toNat) (I 5 (wn (I 6 2))) p + b)) 6 2 (I 6 2 + 1)) J := by
  have hz : (zu I 6 1 (cel (I 3 0) (I 6 1) p)) 6 2 = I 6 2 := by simp only [zu, Nat.reduceEqDiff, if_false, if_true, reduceIte]
  have ht' : 0 ≤ ((zu I 6 1 (cel (I 3 0) (I 6 1) p)) 6 2).toInt := by rw [hz]; exact ht
  simp only [e_X8_go, e_X8_go_a, p_X5_cellBehind, p_X5_cobbleOf _ _ _ hc, p_X5_windIn _ _ _ ht', p_LB _ _ _ hk, eq_self, true_and]
  simp only [zu, Nat.reduceEqDiff, if_false, if_true, reduceIte]
