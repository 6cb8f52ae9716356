/-! ===== the simple calls, on ===== -/
variable {u : Nat} {I : ZI} {J : ZJ}
theorem o_now (hR : Rl u I J) (x : Int32) (Q : ZI → ZJ → Int32 → Int32 → Prop) (hQ : ∀ I' J' v, Rl u I' J' → Q I' J' v v) :
    u_X11_now [.ref 0, .int x] (shp u) I J (fun I1 J1 v1 => u_X12_now [.ref 48, .int x] (shp u) I1 J1 (fun I2 J2 v2 => Q I2 J2 v1 v2)) := by
  have w1 : I 3 1 = I 49 1 := hR.1.2.1
  have w37 : I 6 0 = I 49 37 := hR.1.2.2.2.2.2.2.2.2.1
  have w38 : I 6 1 = I 49 38 := hR.1.2.2.2.2.2.2.2.2.2.1
  have w39 : I 6 2 = I 49 39 := hR.1.2.2.2.2.2.2.2.2.2.2.1
  have w40 : I 6 3 = I 49 40 := hR.1.2.2.2.2.2.2.2.2.2.2.2.1
  have v41 : I 49 41 = bI (fel (I 49 1) (I 49 40)) := hR.2.1.2.2.2.2.2.2.2.2.2.1
  by_cases h1 : 0 ≤ x.toInt ∧ x.toInt ≤ 4
  · have hi : vp_in ((37 : Int32) + x) 98 := ix_in (a := 37) ⟨h1.1, by omega⟩ (by omega) (by omega)
    have ha : ((37 : Int32) + x).toNatClampNeg = 37 + x.toInt.toNat := ix_at (a := 37) ⟨h1.1, by omega⟩ (by omega)
    simp only [e_X11_now, e_X12_now, g_X12_now_30, p_X11_within, p_X12_in, p_X8_isFallen6, p_X11_bit, bI_0, ij_to, Int64.reduceToInt, Int32.reduceToInt, eq_self, h1, hi, ha, w1, w37, w38, w39, w40, not_true, not_false_iff, Classical.not_not, true_implies, false_implies, and_true, true_and, and_self, if_true, if_false]
    have hx : x = 0 ∨ x = 1 ∨ x = 2 ∨ x = 3 ∨ x = 4 := by simp only [i_eq, Int32.reduceToInt]; omega
    rcases hx with e | e | e | e | e <;> subst e
    · simp; exact hQ _ _ _ hR
    · simp; exact hQ _ _ _ hR
    · simp; exact hQ _ _ _ hR
    · simp; exact hQ _ _ _ hR
    · simp; rw [v41]; exact hQ _ _ _ hR
  · simp only [e_X11_now, e_X12_now, g_X12_now_30, p_X11_within, p_X12_in, p_X11_bad, p_X12_bad, bI_0, ij_to, Int64.reduceToInt, Int32.reduceToInt, eq_self, zu_rd, Nat.reduceEqDiff, reduceIte, h1, not_true, not_false_iff, Classical.not_not, true_implies, false_implies, and_true, true_and, and_self, if_true, if_false]
    exact hQ _ _ _ (Rl_bad hR)
theorem o_count (hR : Rl u I J) (x : Int32) (Q : ZI → ZJ → Int32 → Int32 → Prop) (hQ : ∀ I' J' v, Rl u I' J' → Q I' J' v v) :
    u_X11_count [.ref 0, .int x] (shp u) I J (fun I1 J1 v1 => u_X12_count [.ref 48, .int x] (shp u) I1 J1 (fun I2 J2 v2 => Q I2 J2 v1 v2)) := by
  have w0 : I 3 0 = I 49 0 := hR.1.1
  have w1 : I 3 1 = I 49 1 := hR.1.2.1
  have w2 : I 2 2 = I 49 2 := hR.1.2.2.1
  have w3 : I 2 5 = I 49 3 := hR.1.2.2.2.1
  have w4 : I 6 4 = I 49 4 := hR.1.2.2.2.2.1
  have wt : I 31 1 = I 48 15 := hR.2.2.2.2.1.1
  by_cases h1 : 0 ≤ x.toInt ∧ x.toInt ≤ 5
  · simp only [e_X11_count, e_X12_count, g_X12_count_26, e_X12_counted, p_X12_in, bI_0, ij_to, Int64.reduceToInt, Int32.reduceToInt, eq_self, h1, w0, w1, w2, w3, w4, wt, not_true, not_false_iff, Classical.not_not, true_implies, false_implies, and_true, true_and, and_self, if_true, if_false]
    have hx : x = 0 ∨ x = 1 ∨ x = 2 ∨ x = 3 ∨ x = 4 ∨ x = 5 := by simp only [i_eq, Int32.reduceToInt]; omega
    rcases hx with e | e | e | e | e | e <;> subst e
    · simp; exact hQ _ _ _ hR
    · simp; exact hQ _ _ _ hR
    · simp; exact hQ _ _ _ hR
    · simp; exact hQ _ _ _ hR
    · simp; exact hQ _ _ _ hR
    · simp; exact hQ _ _ _ hR
  · have h0 : ¬ x = 0 := by simp only [i_eq, Int32.reduceToInt]; omega
    have ha : ¬ x = 1 := by simp only [i_eq, Int32.reduceToInt]; omega
    have hb : ¬ x = 2 := by simp only [i_eq, Int32.reduceToInt]; omega
    have hc : ¬ x = 3 := by simp only [i_eq, Int32.reduceToInt]; omega
    have hd : ¬ x = 4 := by simp only [i_eq, Int32.reduceToInt]; omega
    have he : ¬ x = 5 := by simp only [i_eq, Int32.reduceToInt]; omega
    simp only [e_X11_count, e_X12_count, g_X12_count_26, p_X12_in, p_X11_bad, p_X12_bad, bI_0, ij_to, Int64.reduceToInt, Int32.reduceToInt, eq_self, zu_rd, Nat.reduceEqDiff, reduceIte, h1, h0, ha, hb, hc, hd, he, not_true, not_false_iff, Classical.not_not, true_implies, false_implies, and_true, true_and, and_self, if_true, if_false]
    exact hQ _ _ _ (Rl_bad hR)
theorem o_part (hR : Rl u I J) (x : Int32) (Q : ZI → ZJ → Int64 → Int64 → Prop) (hQ : ∀ I' J' v, Rl u I' J' → Q I' J' v v) :
    u_X11_part [.ref 0, .int x] (shp u) I J (fun I1 J1 v1 => u_X12_part [.ref 48, .int x] (shp u) I1 J1 (fun I2 J2 v2 => Q I2 J2 v1 v2)) := by
  obtain ⟨p1, p2⟩ := hR.2.2.2.1
  by_cases h1 : 0 ≤ x.toInt ∧ x.toInt ≤ 1
  · simp only [e_X11_part, g_X11_part_32, e_X12_part, g_X12_part_30, p_X11_within, bI_0, Int32.reduceToInt, eq_self, h1, p1, p2, not_true, not_false_iff, Classical.not_not, true_implies, false_implies, and_true, true_and, and_self, if_true, if_false]
    have hx : x = 0 ∨ x = 1 := by simp only [i_eq, Int32.reduceToInt]; omega
    rcases hx with e | e <;> subst e
    · simp; exact hQ _ _ _ hR
    · simp; exact hQ _ _ _ hR
  · have h0 : ¬ x = 0 := by simp only [i_eq, Int32.reduceToInt]; omega
    have ha : ¬ x = 1 := by simp only [i_eq, Int32.reduceToInt]; omega
    simp only [e_X11_part, g_X11_part_32, e_X12_part, g_X12_part_30, p_X11_within, p_X11_bad, p_X12_bad, bI_0, Int32.reduceToInt, eq_self, zu_rd, Nat.reduceEqDiff, reduceIte, h1, h0, ha, not_true, not_false_iff, Classical.not_not, true_implies, false_implies, and_true, true_and, and_self, if_true, if_false]
    exact hQ _ _ _ (Rl_bad hR)
theorem Rl_tx {I' : ZI} (h : Rl u I J) (hf : ∀ a, a ≠ 31 → a ≠ 32 → a ≠ 48 → a ≠ 58 → I' a = I a) (hT : Tx I') : Rl u I' J := by
  obtain ⟨hW, hV, hC, hP, _, hI, hu⟩ := h
  have e49 := hf 49 (by decide) (by decide) (by decide) (by decide)
  refine ⟨?_, ?_, ?_, hP, hT, ?_, hu⟩
  · rw [e49]; exact Wd_fr hW (fun a h1 h2 => hf a (by omega) (by omega) (by omega) (by omega))
  · rw [e49]; exact hV
  · rw [hf 0 (by decide) (by decide) (by decide) (by decide), hf 52 (by decide) (by decide) (by decide) (by decide)]; exact hC
  · exact Im_fr hI (hf 50 (by decide) (by decide) (by decide) (by decide)) (hf 51 (by decide) (by decide) (by decide) (by decide)) (fun a ha => hf a (by omega) (by omega) (by omega) (by omega))
theorem o_clear (hR : Rl u I J) (Q : ZI → ZJ → Int32 → Int32 → Prop) (hQ : ∀ I' J' v, Rl u I' J' → Q I' J' v v) :
    u_X11_clear [.ref 0] (shp u) I J (fun I1 J1 v1 => u_X12_clear [.ref 48] (shp u) I1 J1 (fun I2 J2 v2 => Q I2 J2 v1 v2)) := by
  obtain ⟨t1, t2, t3⟩ := hR.2.2.2.2.1
  simp only [e_X11_clear, e_X12_clear, eq_self, zu_rd, Nat.reduceEqDiff, reduceIte, t1, not_true, not_false_iff, Classical.not_not, true_implies, false_implies, and_true, true_and, and_self, if_true, if_false]
  refine hQ _ _ _ (Rl_tx hR (fun a h1 h2 h3 h4 => by rw [zu_ne _ _ _ h3, zu_ne _ _ _ h1]) ⟨rfl, (show 0 ≤ (0 : Int32).toInt ∧ (0 : Int32).toInt ≤ 150 from by decide), fun i hi => ?_⟩)
  have e1 : zu (zu I 31 1 0) 48 15 0 32 i = I 32 i := rfl
  have e2 : zu (zu I 31 1 0) 48 15 0 58 i = I 58 i := rfl
  rw [e1, e2]; exact t3 i hi
theorem o_type (hR : Rl u I J) (x : Int32) (Q : ZI → ZJ → Int32 → Int32 → Prop) (hQ : ∀ I' J' v, Rl u I' J' → Q I' J' v v) :
    u_X11_type [.ref 0, .int x] (shp u) I J (fun I1 J1 v1 => u_X12_type [.ref 48, .int x] (shp u) I1 J1 (fun I2 J2 v2 => Q I2 J2 v1 v2)) := by
  obtain ⟨t1, t2, t3⟩ := hR.2.2.2.2.1
  by_cases h1 : 0 ≤ x.toInt ∧ x.toInt ≤ 127
  · by_cases h2 : (I 48 15).toInt < 150
    · rw [t1] at t2
      have hl : I 48 15 < (150 : Int32) := by rw [i_lt]; exact h2
      have hq : ¬ I 48 15 = (150 : Int32) := by rw [i_eq]; have e : (150 : Int32).toInt = 150 := by decide
                                                omega
      have hv : vp_in (I 48 15) 150 := by rw [i_vp]; omega
      have hw : 0 ≤ (I 48 15).toInt ∧ (I 48 15).toInt ≤ 149 := by omega
      simp only [e_X11_type, e_X12_type, e_X4_add, g_X4_add_34, p_X11_within, p_X12_in, bI_0, ij_to, Int64.reduceToInt, Int32.reduceToInt, eq_self, zu_rd, Nat.reduceEqDiff, reduceIte, h1, t1, hl, hq, hv, hw, not_true, not_false_iff, Classical.not_not, true_implies, false_implies, and_true, true_and, and_self, if_true, if_false]
      have hs : (I 48 15 + 1).toInt = (I 48 15).toInt + 1 := by rw [i_add]; have : (1 : Int32).toInt = 1 := rfl
                                                                omega
      refine hQ _ _ _ (Rl_tx hR (fun a g1 g2 g3 g4 => by rw [zu_ne _ _ _ g3, zu_ne _ _ _ g4, zu_ne _ _ _ g1, zu_ne _ _ _ g2]) ⟨?_, ?_, fun i hi => ?_⟩)
      · simp only [zu_rd, Nat.reduceEqDiff, reduceIte]
      · simp only [zu_rd, Nat.reduceEqDiff, reduceIte]; omega
      · simp only [zu_rd, Nat.reduceEqDiff, reduceIte]
        by_cases hi2 : i = (I 48 15).toNatClampNeg
        · simp only [hi2, not_true, not_false_iff, Classical.not_not, true_implies, false_implies, and_true, true_and, and_self, if_true, if_false]; exact h1
        · simp only [hi2, not_true, not_false_iff, Classical.not_not, true_implies, false_implies, and_true, true_and, and_self, if_true, if_false]; exact t3 i hi
    · have he : (I 48 15).toInt = 150 := by rw [t1] at t2; omega
      have hl : ¬ I 48 15 < (150 : Int32) := by rw [i_lt]; exact h2
      have hq : I 48 15 = (150 : Int32) := by rw [i_eq]; have e : (150 : Int32).toInt = 150 := by decide
                                              omega
      simp only [e_X11_type, e_X12_type, p_X11_within, p_X12_in, p_X11_full, p_X12_full, bI_0, ij_to, Int64.reduceToInt, Int32.reduceToInt, eq_self, zu_rd, Nat.reduceEqDiff, reduceIte, h1, t1, hl, hq, not_true, not_false_iff, Classical.not_not, true_implies, false_implies, and_true, true_and, and_self, if_true, if_false]
      simp
      exact hQ _ _ _ (Rl_full hR)
  · simp only [e_X11_type, e_X12_type, p_X11_within, p_X12_in, p_X11_bad, p_X12_bad, bI_0, ij_to, Int64.reduceToInt, Int32.reduceToInt, eq_self, zu_rd, Nat.reduceEqDiff, reduceIte, h1, not_true, not_false_iff, Classical.not_not, true_implies, false_implies, and_true, true_and, and_self, if_true, if_false]
    exact hQ _ _ _ (Rl_bad hR)
