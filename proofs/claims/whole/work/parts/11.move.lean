/-! ===== what the methods of one step say ===== -/
variable (u : Nat) (I : ZI) (J : ZJ)
theorem i_nw {x : Int32} {a b : Int} (h : a ≤ x.toInt ∧ x.toInt ≤ b) : a ≤ x.toInt ∧ x.toInt ≤ b := h
theorem p_X10_setOf {x : Int32} (h : 0 ≤ x.toInt ∧ x.toInt ≤ 4) (q : YQi) : u_X10_setOf [.ref 2, .int x] (shp u) I J q = q I J (I 11 x.toInt.toNat) := by
  have hv : vp_in x 5 := by rw [i_vp]; omega
  simp only [e_X10_setOf, g_X10_setOf_19, p_X11_within, eq_self, true_and, bI_0, Int32.reduceToInt, h, hv, not_true, not_false_iff, Classical.not_not, true_implies, false_implies, and_true, true_and, and_self, if_true, if_false, i_nat]
theorem p_X10_kindOf {x : Int32} (h : 0 ≤ x.toInt ∧ x.toInt ≤ 4) (q : YQi) : u_X10_kindOf [.ref 2, .int x] (shp u) I J q = q I J (I 10 x.toInt.toNat) := by
  have hv : vp_in x 5 := by rw [i_vp]; omega
  simp only [e_X10_kindOf, g_X10_kindOf_19, p_X11_within, eq_self, true_and, bI_0, Int32.reduceToInt, h, hv, not_true, not_false_iff, Classical.not_not, true_implies, false_implies, and_true, true_and, and_self, if_true, if_false, i_nat]
theorem p_X5_cobbleOf {x : Int32} (h : 0 ≤ x.toInt ∧ x.toInt ≤ 15) (q : YQi) : u_X5_cobbleOf [.ref 3, .int x] (shp u) I J q = q I J (I 4 x.toInt.toNat) := by
  have hv : vp_in x 16 := by rw [i_vp]; omega
  have h16 : (nI 16 - 1).toInt = 15 := by decide
  simp only [e_X5_cobbleOf, g_X5_cobbleOf_25, p_X11_within, h16, eq_self, true_and, bI_0, Int32.reduceToInt, h, hv, not_true, not_false_iff, Classical.not_not, true_implies, false_implies, and_true, true_and, and_self, if_true, if_false, i_nat]
theorem i_xor6 {t : Int32} (h : 0 ≤ t.toInt) : (0 : Int32) ≤ t ^^^ 6 := by
  have e1 : t.toBitVec.msb = false := by
    rw [BitVec.msb_eq_toInt]
    exact decide_eq_false (by show ¬ t.toInt < 0; omega)
  rw [i_le]
  show (0 : Int) ≤ (t.toBitVec ^^^ (6#32)).toInt
  have e2 : (t.toBitVec ^^^ (6#32)).msb = false := by rw [BitVec.msb_xor, e1]; rfl
  rw [BitVec.msb_eq_toInt] at e2
  have e4 := of_decide_eq_false e2
  omega
theorem zfm_6 {t : Int32} (h : 0 ≤ t.toInt) : (zfm t 6).toInt = t.toInt % 6 := by
  unfold zfm
  rw [if_pos (i_xor6 h)]
  have hd : (t / 6).toInt = t.toInt / 6 := i_div h (by decide)
  have hr := i_rg t
  rw [i_sub, i_mul, hd]
  have h6 : (6 : Int32).toInt = 6 := rfl
  rw [h6]; omega
theorem rem_6 {t : Int32} (h : 0 ≤ t.toInt) : (t - t / 6 * 6).toInt = t.toInt % 6 := by
  have hd : (t / 6).toInt = t.toInt / 6 := i_div h (by decide)
  have hr := i_rg t
  rw [i_sub, i_mul, hd]
  have h6 : (6 : Int32).toInt = 6 := rfl
  rw [h6]; omega
def wn (t : Int32) : Nat := t.toInt.toNat % 6
theorem p_X5_windIn {t : Int32} (h : 0 ≤ t.toInt) (q : YQi) : u_X5_windIn [.ref 3, .int t] (shp u) I J q = q I J (I 5 (wn t)) := by
  have h1 := zfm_6 h
  have hv : vp_in (zfm t 6) 6 := by rw [i_vp, h1]; omega
  have hn : (zfm t 6).toNatClampNeg = wn t := by rw [i_nat, h1]; unfold wn; omega
  have h6 : ¬ ((6 : Int32) = 0) := by decide
  simp only [e_X5_windIn, eq_self, true_and, hv, hn, h6, not_false_iff]
theorem p_X11_kind {x : Int32} (h : 0 ≤ x.toInt ∧ x.toInt ≤ 5) (q : YQr) : u_X11_kind [.ref 0, .int x] (shp u) I J q = q I J (42 + x.toInt.toNat) := by
  have hv : vp_in x 6 := by rw [i_vp]; omega
  have hz : zrf (shp u) 1 x.toNatClampNeg = some (42 + x.toInt.toNat) := by
    rw [i_nat]
    have : x.toInt.toNat = 0 ∨ x.toInt.toNat = 1 ∨ x.toInt.toNat = 2 ∨ x.toInt.toNat = 3 ∨ x.toInt.toNat = 4 ∨ x.toInt.toNat = 5 := by omega
    rcases this with e | e | e | e | e | e <;> rw [e] <;> rfl
  simp only [e_X11_kind, g_X11_kind_18, p_X11_within, eq_self, true_and, bI_0, Int32.reduceToInt, h, hv, not_true, not_false_iff, Classical.not_not, true_implies, false_implies, and_true, true_and, and_self, if_true, if_false, hz, zcO]
theorem p_X3a (o : Nat) (l k w p : Int32) (q : YQi) : u_X3_leanBehind [.ref 42, .int l, .int k, .int w, .int p] (shp u) I J q = q I J (l + k + w) := by
  simp only [e_X3_leanBehind, e_X3_leanBehind_a, e_X3_leanBehind_b, e_X3_leanBehind_c, e_X3_leanBehind_d, e_X3_leanBehind_e, eq_self, true_and]
theorem stf_cases {s : Int32} {q : Int32 → Prop} : ((s ≤ 0 → ((0 ≤ s → q 0) ∧ (¬ 0 ≤ s → q (s + 1)))) ∧ (¬ s ≤ 0 → q (s - 1))) = q (stf s) := by
  unfold stf
  simp only [i_le, i_lt, Int32.reduceToInt]
  by_cases h1 : s.toInt ≤ 0
  · have : ¬ 0 < s.toInt := by omega
    simp only [h1, this, if_false, true_implies, not_true, false_implies, and_true]
    by_cases h2 : 0 ≤ s.toInt
    · have : ¬ s.toInt < 0 := by omega
      simp only [h2, this, if_false, true_implies, not_true, false_implies, and_true]
    · have : s.toInt < 0 := by omega
      simp only [h2, this, if_true, true_implies, not_false_iff, false_implies, true_and]
  · have : 0 < s.toInt := by omega
    simp only [h1, this, if_true, true_implies, not_false_iff, false_implies, true_and]
theorem p_X12_stiff (s : Int32) (q : YQi) : u_X12_stiff [.int s] (shp u) I J q = q I J (stf s) := by
  simp only [e_X12_stiff, g_X12_stiff_21, eq_self, true_and]
  exact stf_cases (q := fun x => q I J x)
theorem p_LB {kd : Int32} (h : 0 ≤ kd.toInt ∧ kd.toInt ≤ 5) (l k w p : Int32) (q : YQi) : zcO (zkd (shp u) (42 + kd.toInt.toNat)) (fun ck => zLBy ck [.ref (42 + kd.toInt.toNat), .int l, .int k, .int w, .int p] (shp u) I J q) False = q I J (lb kd l k w p) := by
  have hk : kd = 0 ∨ kd = 1 ∨ kd = 2 ∨ kd = 3 ∨ kd = 4 ∨ kd = 5 := by simp only [i_eq, Int32.reduceToInt]; omega
  rcases hk with e | e | e | e | e | e
  · subst e
    show u_X3_leanBehind [.ref 42, .int l, .int k, .int w, .int p] (shp u) I J q = q I J (l + k + w)
    simp only [e_X3_leanBehind, e_X3_leanBehind_a, e_X3_leanBehind_b, e_X3_leanBehind_c, e_X3_leanBehind_d, e_X3_leanBehind_e, eq_self, true_and]
  · subst e
    show u_X7_leanBehind [.ref 43, .int l, .int k, .int w, .int p] (shp u) I J q = q I J (stf (l + k + w))
    simp only [e_X7_leanBehind, g_X7_leanBehind_34, e_X7_leanBehind_a, g_X7_leanBehind_a_34, e_X7_leanBehind_b, g_X7_leanBehind_b_34, e_X3_leanBehind, e_X3_leanBehind_a, e_X3_leanBehind_b, e_X3_leanBehind_c, e_X3_leanBehind_d, e_X3_leanBehind_e, eq_self, true_and]
    exact stf_cases (q := fun x => q I J x)
  · subst e
    show u_X6_leanBehind [.ref 44, .int l, .int k, .int w, .int p] (shp u) I J q = q I J (l + (if p = 3 then 2 * k else k) + w)
    simp only [e_X6_leanBehind, g_X6_leanBehind_13, e_X6_leanBehind_a, g_X6_leanBehind_a_13, e_X3_leanBehind, e_X3_leanBehind_a, e_X3_leanBehind_b, e_X3_leanBehind_c, e_X3_leanBehind_d, e_X3_leanBehind_e, eq_self, true_and]
    by_cases hp : p = 3
    · simp only [hp, not_true, true_implies, false_implies, true_and, and_true, if_true]
    · simp only [hp, not_false_iff, true_implies, false_implies, true_and, and_true, if_false]
  · subst e
    show u_X0_leanBehind [.ref 45, .int l, .int k, .int w, .int p] (shp u) I J q = q I J (stf (l + k + w) + 1)
    simp only [e_X0_leanBehind, e_X7_leanBehind, g_X7_leanBehind_34, e_X7_leanBehind_a, g_X7_leanBehind_a_34, e_X7_leanBehind_b, g_X7_leanBehind_b_34, e_X3_leanBehind, e_X3_leanBehind_a, e_X3_leanBehind_b, e_X3_leanBehind_c, e_X3_leanBehind_d, e_X3_leanBehind_e, eq_self, true_and]
    exact stf_cases (q := fun x => q I J (x + 1))
  · subst e
    show u_X2_leanBehind [.ref 46, .int l, .int k, .int w, .int p] (shp u) I J q = q I J (if p = 2 then - stf (l + k + w) else stf (l + k + w))
    simp only [e_X2_leanBehind, g_X2_leanBehind_25, e_X7_leanBehind, g_X7_leanBehind_34, e_X7_leanBehind_a, g_X7_leanBehind_a_34, e_X7_leanBehind_b, g_X7_leanBehind_b_34, e_X3_leanBehind, e_X3_leanBehind_a, e_X3_leanBehind_b, e_X3_leanBehind_c, e_X3_leanBehind_d, e_X3_leanBehind_e, eq_self, true_and]
    rw [stf_cases (q := fun x => (¬ p = 2 → q I J x) ∧ (p = 2 → q I J (-x)))]
    by_cases hp : p = 2
    · simp only [hp, not_true, true_implies, false_implies, true_and, and_true, if_true]
    · simp only [hp, not_false_iff, true_implies, false_implies, true_and, and_true, if_false]
  · subst e
    show u_X1_leanBehind [.ref 47, .int l, .int k, .int w, .int p] (shp u) I J q = q I J (l + (if p = 3 then 2 * k else k) + 0)
    simp only [e_X1_leanBehind, e_X6_leanBehind, g_X6_leanBehind_13, e_X6_leanBehind_a, g_X6_leanBehind_a_13, e_X3_leanBehind, e_X3_leanBehind_a, e_X3_leanBehind_b, e_X3_leanBehind_c, e_X3_leanBehind_d, e_X3_leanBehind_e, eq_self, true_and]
    by_cases hp : p = 3
    · simp only [hp, not_true, true_implies, false_implies, true_and, and_true, if_true]
    · simp only [hp, not_false_iff, true_implies, false_implies, true_and, and_true, if_false]
theorem p_X12_leanBy {kd : Int32} (h : 0 ≤ kd.toInt ∧ kd.toInt ≤ 5) (l k w p : Int32) (q : YQi) : u_X12_leanBy [.int kd, .int l, .int k, .int w, .int p] (shp u) I J q = q I J (lb kd l k w p) := by
  have hk : kd = 0 ∨ kd = 1 ∨ kd = 2 ∨ kd = 3 ∨ kd = 4 ∨ kd = 5 := by simp only [i_eq, Int32.reduceToInt]; omega
  simp only [e_X12_leanBy, g_X12_leanBy_16, g_X12_leanBy_22, g_X12_leanBy_23, g_X12_leanBy_39, g_X12_leanBy_106, g_X12_leanBy_107, p_X12_stiff, eq_self, true_and]
  by_cases hp : p = 3
  · rcases hk with e | e | e | e | e | e <;> subst e <;> simp [hp, lb]
  · by_cases hp2 : p = 2
    · rcases hk with e | e | e | e | e | e <;> subst e <;> simp [hp2, lb]
    · rcases hk with e | e | e | e | e | e <;> subst e <;> simp [hp, hp2, lb]
