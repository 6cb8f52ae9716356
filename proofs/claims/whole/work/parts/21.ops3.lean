/-! ===== the simple calls, on ===== -/
theorem ix_in {x : Int32} {a n : Nat} (h : 0 ≤ x.toInt ∧ x.toInt ≤ 200) (ha : a + x.toInt.toNat < n) (hn : n < 10000) : vp_in (nI a + x) n := by
  rw [mI_of h.1, mI_add]; exact mI_in ha (by omega)
theorem ix_at {x : Int32} {a : Nat} (h : 0 ≤ x.toInt ∧ x.toInt ≤ 200) (ha : a < 1000) : (nI a + x).toNatClampNeg = a + x.toInt.toNat := by
  have e : nI a + x = nI (a + x.toInt.toNat) := by rw [← mI_add, ← mI_of h.1]
  rw [e, mI_nat (by omega)]
variable {u : Nat} {I : ZI} {J : ZJ}
theorem o_cobble (hR : Rl u I J) (x y : Int32) (Q : ZI → ZJ → Int32 → Int32 → Prop) (hQ : ∀ I' J' v, Rl u I' J' → Q I' J' v v) :
    u_X11_cobble [.ref 0, .int x, .int y] (shp u) I J (fun I1 J1 v1 => u_X12_cobble [.ref 48, .int x, .int y] (shp u) I1 J1 (fun I2 J2 v2 => Q I2 J2 v1 v2)) := by
  have w0 : I 3 0 = I 49 0 := hR.1.1
  have n0 := hR.2.1.1
  have h16 : (nI 16 - 1).toInt = 15 := by decide
  by_cases h1 : 0 ≤ x.toInt ∧ x.toInt ≤ (I 49 0).toInt
  · by_cases h2 : -4 ≤ y.toInt ∧ y.toInt ≤ 4
    · have hc : 0 ≤ x.toInt ∧ x.toInt ≤ 15 := by omega
      have hv : vp_in x 16 := by rw [i_vp]; omega
      have hi : vp_in ((5 : Int32) + x) 98 := ix_in (a := 5) ⟨hc.1, by omega⟩ (by omega) (by omega)
      have ha : ((5 : Int32) + x).toNatClampNeg = 5 + x.toInt.toNat := ix_at (a := 5) ⟨hc.1, by omega⟩ (by omega)
      have h4 : I 4 x.toInt.toNat = I 49 (5 + x.toInt.toNat) := hR.1.2.2.2.2.2.1 _ (by omega)
      simp only [e_X11_cobble, g_X11_cobble_18, e_X12_cobble, g_X12_cobble_22, e_X5_layCobble_a, g_X5_layCobble_a_22, e_X5_layCobble, g_X5_layCobble_22, p_X11_isCell, p_X11_within, p_X12_isCell, p_X12_in, p_X5_cobbleOf _ _ _ hc, bI_0, ij_to, Int64.reduceToInt, Int32.reduceToInt, eq_self, zu_rd, Nat.reduceEqDiff, reduceIte, w0, h1, h2, hc, hv, hi, h16, i_nat, not_true, not_false_iff, Classical.not_not, true_implies, false_implies, and_true, true_and, and_self, if_true, if_false]
      rw [i_nat] at ha
      rw [ha, h4]
      exact hQ _ _ _ (Rl_cob hR (by omega) y)
    · simp only [e_X11_cobble, g_X11_cobble_18, e_X12_cobble, g_X12_cobble_22, p_X11_isCell, p_X11_within, p_X12_isCell, p_X12_in, p_X11_bad, p_X12_bad, bI_0, ij_to, Int64.reduceToInt, Int32.reduceToInt, eq_self, zu_rd, Nat.reduceEqDiff, reduceIte, w0, h1, h2, not_true, not_false_iff, Classical.not_not, true_implies, false_implies, and_true, true_and, and_self, if_true, if_false]
      exact hQ _ _ _ (Rl_bad hR)
  · simp only [e_X11_cobble, g_X11_cobble_18, e_X12_cobble, g_X12_cobble_22, p_X11_isCell, p_X11_within, p_X12_isCell, p_X12_in, p_X11_bad, p_X12_bad, bI_0, ij_to, Int64.reduceToInt, Int32.reduceToInt, eq_self, zu_rd, Nat.reduceEqDiff, reduceIte, w0, h1, not_true, not_false_iff, Classical.not_not, true_implies, false_implies, and_true, true_and, and_self, if_true, if_false]
    exact hQ _ _ _ (Rl_bad hR)
theorem o_wind (hR : Rl u I J) (x y : Int32) (Q : ZI → ZJ → Int32 → Int32 → Prop) (hQ : ∀ I' J' v, Rl u I' J' → Q I' J' v v) :
    u_X11_wind [.ref 0, .int x, .int y] (shp u) I J (fun I1 J1 v1 => u_X12_wind [.ref 48, .int x, .int y] (shp u) I1 J1 (fun I2 J2 v2 => Q I2 J2 v1 v2)) := by
  by_cases h1 : 0 ≤ x.toInt ∧ x.toInt ≤ 5
  · by_cases h2 : -3 ≤ y.toInt ∧ y.toInt ≤ 3
    · have hz := zfm_6 h1.1
      have hv : vp_in (zfm x 6) 6 := by rw [i_vp, hz]; omega
      have hn : (zfm x 6).toInt.toNat = x.toInt.toNat := by rw [hz]; omega
      have hw : wn x = x.toInt.toNat := by unfold wn; omega
      have h6 : ¬ ((6 : Int32) = 0) := by decide
      have hi : vp_in ((21 : Int32) + x) 98 := ix_in (a := 21) ⟨h1.1, by omega⟩ (by omega) (by omega)
      have ha : ((21 : Int32) + x).toNatClampNeg = 21 + x.toInt.toNat := ix_at (a := 21) ⟨h1.1, by omega⟩ (by omega)
      have h4 : I 5 x.toInt.toNat = I 49 (21 + x.toInt.toNat) := hR.1.2.2.2.2.2.2.1 _ (by omega)
      simp only [e_X11_wind, g_X11_wind_19, e_X12_wind, g_X12_wind_26, e_X5_setWind_a, e_X5_setWind, p_X11_within, p_X12_in, p_X5_windIn _ _ _ h1.1, bI_0, ij_to, Int64.reduceToInt, Int32.reduceToInt, eq_self, zu_rd, Nat.reduceEqDiff, reduceIte, h1, h2, hv, hi, hw, h6, i_nat, hn, not_true, not_false_iff, Classical.not_not, true_implies, false_implies, and_true, true_and, and_self, if_true, if_false]
      rw [i_nat] at ha
      rw [ha, h4]
      exact hQ _ _ _ (Rl_win hR (by omega) y)
    · simp only [e_X11_wind, g_X11_wind_19, e_X12_wind, g_X12_wind_26, p_X11_within, p_X12_in, p_X11_bad, p_X12_bad, bI_0, ij_to, Int64.reduceToInt, Int32.reduceToInt, eq_self, zu_rd, Nat.reduceEqDiff, reduceIte, h1, h2, not_true, not_false_iff, Classical.not_not, true_implies, false_implies, and_true, true_and, and_self, if_true, if_false]
      exact hQ _ _ _ (Rl_bad hR)
  · simp only [e_X11_wind, g_X11_wind_19, e_X12_wind, g_X12_wind_26, p_X11_within, p_X12_in, p_X11_bad, p_X12_bad, bI_0, ij_to, Int64.reduceToInt, Int32.reduceToInt, eq_self, zu_rd, Nat.reduceEqDiff, reduceIte, h1, not_true, not_false_iff, Classical.not_not, true_implies, false_implies, and_true, true_and, and_self, if_true, if_false]
    exact hQ _ _ _ (Rl_bad hR)
theorem o_of (hR : Rl u I J) (x y : Int32) (Q : ZI → ZJ → Int32 → Int32 → Prop) (hQ : ∀ I' J' v, Rl u I' J' → Q I' J' v v) :
    u_X11_of [.ref 0, .int x, .int y] (shp u) I J (fun I1 J1 v1 => u_X12_of [.ref 48, .int x, .int y] (shp u) I1 J1 (fun I2 J2 v2 => Q I2 J2 v1 v2)) := by
  have w2 : I 2 2 = I 49 2 := hR.1.2.2.1
  have n2 := hR.2.1.2.2.1
  have hm : (I 49 2 - 1).toInt = (I 49 2).toInt - 1 := by rw [i_sub]; have : (1 : Int32).toInt = 1 := rfl
                                                          omega
  by_cases h1 : 0 ≤ x.toInt ∧ x.toInt ≤ (I 49 2 - 1).toInt
  · by_cases h2 : 0 ≤ y.toInt ∧ y.toInt ≤ 1
    · have hc : 0 ≤ x.toInt ∧ x.toInt ≤ 4 := by omega
      have h4 := hR.1.2.2.2.2.2.2.2.1 x.toInt.toNat (by omega)
      simp only [e_X11_of, g_X11_of_17, g_X11_of_47, e_X12_of, g_X12_of_18, g_X12_of_44, p_X11_isHead, p_X11_within, p_X12_isHead, p_X12_in, p_X10_setOf _ _ _ hc, p_X10_kindOf _ _ _ hc, p_X12_setOf _ _ _ hc, p_X12_kindOf _ _ _ hc, bI_0, ij_to, Int64.reduceToInt, Int32.reduceToInt, eq_self, w2, h1, h2, not_true, not_false_iff, Classical.not_not, true_implies, false_implies, and_true, true_and, and_self, if_true, if_false]
      have hk : I 10 x.toInt.toNat = I 49 (27 + 2 * x.toInt.toNat) := h4.1
      have hs : I 11 x.toInt.toNat = I 49 (28 + 2 * x.toInt.toNat) := h4.2
      by_cases hy : y = 0
      · simp only [hy, hk, not_true, not_false_iff, Classical.not_not, true_implies, false_implies, and_true, true_and, and_self, if_true, if_false]; exact hQ _ _ _ hR
      · simp only [hy, hs, not_true, not_false_iff, Classical.not_not, true_implies, false_implies, and_true, true_and, and_self, if_true, if_false]; exact hQ _ _ _ hR
    · simp only [e_X11_of, g_X11_of_17, g_X11_of_47, e_X12_of, g_X12_of_18, g_X12_of_44, p_X11_isHead, p_X11_within, p_X12_isHead, p_X12_in, p_X11_bad, p_X12_bad, bI_0, ij_to, Int64.reduceToInt, Int32.reduceToInt, eq_self, zu_rd, Nat.reduceEqDiff, reduceIte, w2, h1, h2, not_true, not_false_iff, Classical.not_not, true_implies, false_implies, and_true, true_and, and_self, if_true, if_false]
      exact hQ _ _ _ (Rl_bad hR)
  · simp only [e_X11_of, g_X11_of_17, g_X11_of_47, e_X12_of, g_X12_of_18, g_X12_of_44, p_X11_isHead, p_X11_within, p_X12_isHead, p_X12_in, p_X11_bad, p_X12_bad, bI_0, ij_to, Int64.reduceToInt, Int32.reduceToInt, eq_self, zu_rd, Nat.reduceEqDiff, reduceIte, w2, h1, not_true, not_false_iff, Classical.not_not, true_implies, false_implies, and_true, true_and, and_self, if_true, if_false]
    exact hQ _ _ _ (Rl_bad hR)
