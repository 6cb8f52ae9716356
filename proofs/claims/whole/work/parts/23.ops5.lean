/-! ===== head ===== -/
variable {u : Nat} {I : ZI} {J : ZJ}
theorem Rl_head (hR : Rl u I J) {x y : Int32} (hx : 0 ≤ x.toInt ∧ x.toInt ≤ 5) (hn : (I 49 2).toInt < 5) {I' : ZI} {h : Nat} (hh : h = (I 49 2).toInt.toNat)
    (f1 : ∀ a, a ≠ 2 → a ≠ 10 → a ≠ 11 → a ≠ 49 → I' a = I a) (f2 : I' 2 2 = I 49 2 + 1) (f2' : ∀ g, g ≠ 2 → I' 2 g = I 2 g)
    (f10 : I' 10 h = x) (g10 : ∀ g, g ≠ h → I' 10 g = I 10 g) (f11 : I' 11 h = y) (g11 : ∀ g, g ≠ h → I' 11 g = I 11 g)
    (f49 : ∀ k, k ≠ 2 → k ≠ 27 + 2 * h → k ≠ 28 + 2 * h → I' 49 k = I 49 k) (g27 : I' 49 (27 + 2 * h) = x) (g28 : I' 49 (28 + 2 * h) = y) (g2 : I' 49 2 = I 49 2 + 1) : Rl u I' J := by
  obtain ⟨w0, w1, w2, w3, w4, w5, w6, w7, w8, w9, w10, w11, w12, w13⟩ := hR.1
  obtain ⟨v0, v1, v2, v3, v4, v5, v6, v7, v8, v9, v10, v11⟩ := hR.2.1
  have hs : (I 49 2 + 1).toInt = (I 49 2).toInt + 1 := by rw [i_add]; have : (1 : Int32).toInt = 1 := rfl
                                                          omega
  refine Rl_w hR (fun a ha h9 => f1 a (by omega) (by omega) (by omega) h9) ?_ ?_
  · unfold Wd
    rw [f49 0 (by omega) (by omega) (by omega), f49 1 (by omega) (by omega) (by omega), g2, f49 3 (by omega) (by omega) (by omega), f49 4 (by omega) (by omega) (by omega), f49 37 (by omega) (by omega) (by omega), f49 38 (by omega) (by omega) (by omega), f49 39 (by omega) (by omega) (by omega), f49 40 (by omega) (by omega) (by omega)]
    rw [f1 (2 + 1) (by decide) (by decide) (by decide) (by decide), f1 (2 + 4) (by decide) (by decide) (by decide) (by decide), f2, f2' 5 (by decide)]
    refine ⟨w0, w1, rfl, w3, w4, fun c hc => ?_, fun i hi => ?_, fun g hg => ?_, w8, w9, w10, w11, fun k hk => ?_, fun k hk => ?_⟩
    · rw [f1 (2 + 2) (by decide) (by decide) (by decide) (by decide), f49 _ (by omega) (by omega) (by omega)]; exact w5 c hc
    · rw [f1 (2 + 3) (by decide) (by decide) (by decide) (by decide), f49 _ (by omega) (by omega) (by omega)]; exact w6 i hi
    · by_cases e : g = h
      · subst e; rw [g27, g28]; exact ⟨f10, f11⟩
      · rw [f49 (27 + 2 * g) (by omega) (by omega) (by omega), f49 (28 + 2 * g) (by omega) (by omega) (by omega)]
        have := w7 g (by omega)
        exact ⟨(g10 g e).trans this.1, (g11 g e).trans this.2⟩
    · rw [f1 (2 + 5) (by decide) (by decide) (by decide) (by decide), f1 (2 + 6) (by decide) (by decide) (by decide) (by decide), f1 (2 + 7) (by decide) (by decide) (by decide) (by decide), f49 (66 + 4 * k) (by omega) (by omega) (by omega), f49 (67 + 4 * k) (by omega) (by omega) (by omega), f49 (68 + 4 * k) (by omega) (by omega) (by omega)]; exact w12 k hk
    · rw [f1 (2 + 10) (by decide) (by decide) (by decide) (by decide), f1 (2 + 11) (by decide) (by decide) (by decide) (by decide), f1 (2 + 12) (by decide) (by decide) (by decide) (by decide), f1 (2 + 13) (by decide) (by decide) (by decide) (by decide), f49 (42 + 4 * k) (by omega) (by omega) (by omega), f49 (43 + 4 * k) (by omega) (by omega) (by omega), f49 (44 + 4 * k) (by omega) (by omega) (by omega), f49 (45 + 4 * k) (by omega) (by omega) (by omega)]; exact w13 k hk
  · unfold Vd
    rw [f49 0 (by omega) (by omega) (by omega), f49 1 (by omega) (by omega) (by omega), g2, f49 3 (by omega) (by omega) (by omega), f49 4 (by omega) (by omega) (by omega), f49 37 (by omega) (by omega) (by omega), f49 38 (by omega) (by omega) (by omega), f49 39 (by omega) (by omega) (by omega), f49 40 (by omega) (by omega) (by omega), f49 41 (by omega) (by omega) (by omega)]
    refine ⟨v0, v1, by omega, v3, v4, fun g hg => ?_, by omega, v7, v8, v9, fun k hk => ?_, fun k hk => ?_⟩
    · by_cases e : g = h
      · subst e; rw [g27]; exact hx
      · rw [f49 (27 + 2 * g) (by omega) (by omega) (by omega)]; exact v5 g (by omega)
    · rw [f49 (66 + 4 * k) (by omega) (by omega) (by omega), f49 (67 + 4 * k) (by omega) (by omega) (by omega), f49 (68 + 4 * k) (by omega) (by omega) (by omega), f49 (69 + 4 * k) (by omega) (by omega) (by omega)]; exact v10 k hk
    · rw [f49 (43 + 4 * k) (by omega) (by omega) (by omega), f49 (44 + 4 * k) (by omega) (by omega) (by omega)]; exact v11 k hk
theorem p_X12_layHead (u : Nat) (I : ZI) (J : ZJ) (hn : 0 ≤ (I 49 2).toInt ∧ (I 49 2).toInt ≤ 4) (x y : Int32) (q : YQv) : u_X12_layHead [.ref 49, .int x, .int y] (shp u) I J q = q (zu (zu (zu I 49 (27 + 2 * (I 49 2).toInt.toNat) x) 49 (28 + 2 * (I 49 2).toInt.toNat) y) 49 2 (I 49 2 + 1)) J := by
  have e1 : ((27 : Int32) + ((2 : Int32) * I 49 2)).toInt = 27 + 2 * (I 49 2).toInt.toNat := i_ix (a := 27) (b := 2) ⟨hn.1, by omega⟩ (by omega) (by omega)
  have e2 : (((27 : Int32) + ((2 : Int32) * I 49 2)) + 1).toInt = 28 + 2 * (I 49 2).toInt.toNat := by
    rw [i_add, e1]; have : (1 : Int32).toInt = 1 := rfl
    rw [this]; omega
  have hv1 : vp_in ((27 : Int32) + ((2 : Int32) * I 49 2)) 98 := by rw [i_vp, e1]; omega
  have hv2 : vp_in (((27 : Int32) + ((2 : Int32) * I 49 2)) + 1) 98 := by rw [i_vp, e2]; omega
  have n1 : ((27 : Int32) + ((2 : Int32) * I 49 2)).toNatClampNeg = 27 + 2 * (I 49 2).toInt.toNat := by rw [i_nat, e1]; omega
  have n2 : (((27 : Int32) + ((2 : Int32) * I 49 2)) + 1).toNatClampNeg = 28 + 2 * (I 49 2).toInt.toNat := by rw [i_nat, e2]; omega
  have z1 : ¬ 2 = 27 + 2 * (I 49 2).toInt.toNat := by omega
  have z2 : ¬ 2 = 28 + 2 * (I 49 2).toInt.toNat := by omega
  simp only [e_X12_layHead, n1, n2, hv1, hv2, zu_rd, z1, z2, eq_self, not_true, not_false_iff, Classical.not_not, true_implies, false_implies, and_true, true_and, and_self, if_true, if_false]
theorem o_head (hR : Rl u I J) (x y : Int32) (Q : ZI → ZJ → Int32 → Int32 → Prop) (hQ : ∀ I' J' v, Rl u I' J' → Q I' J' v v) :
    u_X11_head [.ref 0, .int x, .int y] (shp u) I J (fun I1 J1 v1 => u_X12_head [.ref 48, .int x, .int y] (shp u) I1 J1 (fun I2 J2 v2 => Q I2 J2 v1 v2)) := by
  have w2 : I 2 2 = I 49 2 := hR.1.2.2.1
  have n2 := hR.2.1.2.2.1
  by_cases h1 : 0 ≤ x.toInt ∧ x.toInt ≤ 5
  · by_cases h2 : -12 ≤ y.toInt ∧ y.toInt ≤ 12
    · by_cases h3 : (I 49 2).toInt < 5
      · have hl : I 49 2 < (5 : Int32) := by rw [i_lt]; exact h3
        have hq : ¬ I 49 2 = (5 : Int32) := by rw [i_eq]; have e : (5 : Int32).toInt = 5 := rfl
                                               omega
        have hv : vp_in (I 49 2) 5 := by rw [i_vp]; omega
        have hw : 0 ≤ (I 49 2).toInt ∧ (I 49 2).toInt ≤ 4 := by omega
        simp only [e_X11_head, g_X11_head_20, e_X12_head, g_X12_head_26, e_X10_addHead_a, g_X10_addHead_a_42, e_X10_addHead, g_X10_addHead_42, p_X11_within, p_X12_in, bI_0, ij_to, Int64.reduceToInt, Int32.reduceToInt, eq_self, zu_rd, Nat.reduceEqDiff, reduceIte, h1, h2, w2, hl, hq, hv, hw, not_true, not_false_iff, Classical.not_not, true_implies, false_implies, and_true, true_and, and_self, if_true, if_false]
        rw [p_X12_layHead u _ J (by simp only [zu_rd, Nat.reduceEqDiff, reduceIte]; exact hw)]
        simp only [zu_rd, Nat.reduceEqDiff, reduceIte]
        have z1 : ∀ m : Nat, (27 + m = 28 + m) = False := fun m => by simp
        refine hQ _ _ _ (Rl_head hR h1 h3 (h := (I 49 2).toInt.toNat) (x := x) (y := y) rfl (fun a a1 a2 a3 a4 => ?_) ?_ (fun g hg => ?_) ?_ (fun g hg => ?_) ?_ (fun g hg => ?_) (fun k k1 k2 k3 => ?_) ?_ ?_ ?_)
        · rw [zu_ne _ _ _ a4, zu_ne _ _ _ a4, zu_ne _ _ _ a4, zu_ne _ _ _ a1, zu_ne _ _ _ a3, zu_ne _ _ _ a2]
        · simp only [zu_rd, Nat.reduceEqDiff, reduceIte]
        · simp only [zu_rd, Nat.reduceEqDiff, reduceIte, hg]
        · simp only [zu_rd, Nat.reduceEqDiff, reduceIte, i_nat]
        · simp only [zu_rd, Nat.reduceEqDiff, reduceIte, i_nat, hg]
        · simp only [zu_rd, Nat.reduceEqDiff, reduceIte, i_nat]
        · simp only [zu_rd, Nat.reduceEqDiff, reduceIte, i_nat, hg]
        · simp only [zu_rd, Nat.reduceEqDiff, reduceIte, k1, k2, k3]
        · have z : ¬ 27 + 2 * (I 49 2).toInt.toNat = 2 := by omega
          have z' : ¬ 27 + 2 * (I 49 2).toInt.toNat = 28 + 2 * (I 49 2).toInt.toNat := by omega
          simp only [zu_rd, Nat.reduceEqDiff, reduceIte, z, z']
        · have z : ¬ 28 + 2 * (I 49 2).toInt.toNat = 2 := by omega
          simp only [zu_rd, Nat.reduceEqDiff, reduceIte, z]
        · simp only [zu_rd, Nat.reduceEqDiff, reduceIte]
      · have hl : ¬ I 49 2 < (5 : Int32) := by rw [i_lt]; exact h3
        have hq : I 49 2 = (5 : Int32) := by rw [i_eq]; have e : (5 : Int32).toInt = 5 := rfl
                                             omega
        simp only [e_X11_head, g_X11_head_20, e_X12_head, g_X12_head_26, p_X11_within, p_X12_in, p_X11_full, p_X12_full, bI_0, ij_to, Int64.reduceToInt, Int32.reduceToInt, eq_self, zu_rd, Nat.reduceEqDiff, reduceIte, h1, h2, w2, hl, not_true, not_false_iff, Classical.not_not, true_implies, false_implies, and_true, true_and, and_self, if_true, if_false]
        simp only [hq, Int32.reduceLT, not_true, not_false_iff, Classical.not_not, true_implies, false_implies, and_true, true_and, and_self, if_true, if_false]
        exact hQ _ _ _ (Rl_full hR)
    · simp only [e_X11_head, g_X11_head_20, e_X12_head, g_X12_head_26, p_X11_within, p_X12_in, p_X11_bad, p_X12_bad, bI_0, ij_to, Int64.reduceToInt, Int32.reduceToInt, eq_self, zu_rd, Nat.reduceEqDiff, reduceIte, h1, h2, not_true, not_false_iff, Classical.not_not, true_implies, false_implies, and_true, true_and, and_self, if_true, if_false]
      exact hQ _ _ _ (Rl_bad hR)
  · simp only [e_X11_head, g_X11_head_20, e_X12_head, g_X12_head_26, p_X11_within, p_X12_in, p_X11_bad, p_X12_bad, bI_0, ij_to, Int64.reduceToInt, Int32.reduceToInt, eq_self, zu_rd, Nat.reduceEqDiff, reduceIte, h1, not_true, not_false_iff, Classical.not_not, true_implies, false_implies, and_true, true_and, and_self, if_true, if_false]
    exact hQ _ _ _ (Rl_bad hR)
