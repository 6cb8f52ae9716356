/-! ===== forget, walk ===== -/
variable {u : Nat} {I : ZI} {J : ZJ}
theorem Rl_walk (hR : Rl u I J) {I' : ZI} (f1 : ∀ a, ¬ (6 ≤ a ∧ a ≤ 9) → a ≠ 49 → I' a = I a) (f49 : ∀ k, k ≠ 4 → ¬ (37 ≤ k ∧ k ≤ 41) → k < 66 → I' 49 k = I 49 k)
    (g4 : I' 6 4 = I' 49 4) (g0 : I' 6 0 = I' 49 37) (g1 : I' 6 1 = I' 49 38) (g2 : I' 6 2 = I' 49 39) (g3 : I' 6 3 = I' 49 40)
    (gk : ∀ k : Nat, (k : Int) < (I' 49 4).toInt → I' 7 k = I' 49 (66 + 4 * k) ∧ I' 8 k = I' 49 (67 + 4 * k) ∧ I' 9 k = I' 49 (68 + 4 * k))
    (b4 : 0 ≤ (I' 49 4).toInt ∧ (I' 49 4).toInt ≤ 8) (b37 : -1 ≤ (I' 49 37).toInt ∧ (I' 49 37).toInt < (I 49 2).toInt) (b38 : 0 ≤ (I' 49 38).toInt ∧ (I' 49 38).toInt ≤ (I 49 0).toInt) (b39 : 0 ≤ (I' 49 39).toInt ∧ (I' 49 39).toInt ≤ (I' 49 38).toInt)
    (b41 : I' 49 41 = bI (fel (I 49 1) (I' 49 40)))
    (bk : ∀ k : Nat, (k : Int) < (I' 49 4).toInt → (0 ≤ (I' 49 (66 + 4 * k)).toInt ∧ (I' 49 (66 + 4 * k)).toInt ≤ (I 49 0).toInt) ∧ (0 ≤ (I' 49 (67 + 4 * k)).toInt ∧ (I' 49 (67 + 4 * k)).toInt ≤ (I' 49 (66 + 4 * k)).toInt) ∧ I' 49 (69 + 4 * k) = bI (fel (I 49 1) (I' 49 (68 + 4 * k)))) : Rl u I' J := by
  obtain ⟨w0, w1, w2, w3, w4, w5, w6, w7, w8, w9, w10, w11, w12, w13⟩ := hR.1
  obtain ⟨v0, v1, v2, v3, v4, v5, v6, v7, v8, v9, v10, v11⟩ := hR.2.1
  have e0 := f49 0 (by omega) (by omega) (by omega)
  have e1 := f49 1 (by omega) (by omega) (by omega)
  have e2 := f49 2 (by omega) (by omega) (by omega)
  have e3 := f49 3 (by omega) (by omega) (by omega)
  refine Rl_w hR (fun a ha h9 => f1 a (by omega) h9) ?_ ?_
  · unfold Wd
    rw [e0, e1, e2, e3, f1 2 (by decide) (by decide), f1 (2 + 1) (by decide) (by decide)]
    refine ⟨w0, w1, w2, w3, g4, fun c hc => ?_, fun i hi => ?_, fun g hg => ?_, g0, g1, g2, g3, gk, fun k hk => ?_⟩
    · rw [f1 (2 + 2) (by decide) (by decide), f49 _ (by omega) (by omega) (by omega)]; exact w5 c hc
    · rw [f1 (2 + 3) (by decide) (by decide), f49 _ (by omega) (by omega) (by omega)]; exact w6 i hi
    · rw [f1 (2 + 8) (by decide) (by decide), f1 (2 + 9) (by decide) (by decide), f49 (27 + 2 * g) (by omega) (by omega) (by omega), f49 (28 + 2 * g) (by omega) (by omega) (by omega)]; exact w7 g hg
    · rw [f1 (2 + 10) (by decide) (by decide), f1 (2 + 11) (by decide) (by decide), f1 (2 + 12) (by decide) (by decide), f1 (2 + 13) (by decide) (by decide), f49 (42 + 4 * k) (by omega) (by omega) (by omega), f49 (43 + 4 * k) (by omega) (by omega) (by omega), f49 (44 + 4 * k) (by omega) (by omega) (by omega), f49 (45 + 4 * k) (by omega) (by omega) (by omega)]; exact w13 k hk
  · unfold Vd
    rw [e0, e1, e2, e3]
    refine ⟨v0, v1, v2, v3, b4, fun g hg => ?_, b37, b38, b39, b41, bk, fun k hk => ?_⟩
    · rw [f49 (27 + 2 * g) (by omega) (by omega) (by omega)]; exact v5 g hg
    · rw [f49 (43 + 4 * k) (by omega) (by omega) (by omega), f49 (44 + 4 * k) (by omega) (by omega) (by omega)]; exact v11 k hk
theorem Rl_forget (hR : Rl u I J) : Rl u (zu (zu I 2 5 0) 49 3 0) J := by
  obtain ⟨w0, w1, w2, w3, w4, w5, w6, w7, w8, w9, w10, w11, w12, w13⟩ := hR.1
  obtain ⟨v0, v1, v2, v3, v4, v5, v6, v7, v8, v9, v10, v11⟩ := hR.2.1
  have e : ∀ k, k ≠ 3 → (zu (zu I 2 5 0) 49 3 0) 49 k = I 49 k := fun k hk => by simp only [zu_rd, Nat.reduceEqDiff, reduceIte, hk]
  have e3 : (zu (zu I 2 5 0) 49 3 0) 49 3 = 0 := rfl
  have f1 : ∀ a, a ≠ 2 → a ≠ 49 → (zu (zu I 2 5 0) 49 3 0) a = I a := fun a h1 h2 => by rw [zu_ne _ _ _ h2, zu_ne _ _ _ h1]
  have z : (0 : Int32).toInt = 0 := rfl
  refine Rl_w hR (fun a ha h9 => f1 a (by omega) h9) ?_ ?_
  · unfold Wd
    rw [e 0 (by decide), e 1 (by decide), e 2 (by decide), e3, e 4 (by decide), e 37 (by decide), e 38 (by decide), e 39 (by decide), e 40 (by decide), f1 (2 + 1) (by decide) (by decide), f1 (2 + 4) (by decide) (by decide)]
    refine ⟨w0, w1, w2, rfl, w4, fun c hc => ?_, fun i hi => ?_, fun g hg => ?_, w8, w9, w10, w11, fun k hk => ?_, fun k hk => by omega⟩
    · rw [f1 (2 + 2) (by decide) (by decide), e _ (by omega)]; exact w5 c hc
    · rw [f1 (2 + 3) (by decide) (by decide), e _ (by omega)]; exact w6 i hi
    · rw [f1 (2 + 8) (by decide) (by decide), f1 (2 + 9) (by decide) (by decide), e (27 + 2 * g) (by omega), e (28 + 2 * g) (by omega)]; exact w7 g hg
    · rw [f1 (2 + 5) (by decide) (by decide), f1 (2 + 6) (by decide) (by decide), f1 (2 + 7) (by decide) (by decide), e (66 + 4 * k) (by omega), e (67 + 4 * k) (by omega), e (68 + 4 * k) (by omega)]; exact w12 k hk
  · unfold Vd
    rw [e 0 (by decide), e 1 (by decide), e 2 (by decide), e3, e 4 (by decide), e 37 (by decide), e 38 (by decide), e 39 (by decide), e 40 (by decide), e 41 (by decide)]
    refine ⟨v0, v1, v2, by omega, v4, fun g hg => ?_, v6, v7, v8, v9, fun k hk => ?_, fun k hk => by omega⟩
    · rw [e (27 + 2 * g) (by omega)]; exact v5 g hg
    · rw [e (66 + 4 * k) (by omega), e (67 + 4 * k) (by omega), e (68 + 4 * k) (by omega), e (69 + 4 * k) (by omega)]; exact v10 k hk
theorem o_forget (hR : Rl u I J) (Q : ZI → ZJ → Int32 → Int32 → Prop) (hQ : ∀ I' J' v, Rl u I' J' → Q I' J' v v) :
    u_X11_forget [.ref 0] (shp u) I J (fun I1 J1 v1 => u_X12_forget [.ref 48] (shp u) I1 J1 (fun I2 J2 v2 => Q I2 J2 v1 v2)) := by
  have w3 : I 2 5 = I 49 3 := hR.1.2.2.2.1
  simp only [e_X11_forget, e_X12_forget, eq_self, zu_rd, Nat.reduceEqDiff, reduceIte, w3, not_true, not_false_iff, Classical.not_not, true_implies, false_implies, and_true, true_and, and_self, if_true, if_false]
  exact hQ _ _ _ (Rl_forget hR)
theorem o_walk (hR : Rl u I J) (x : Int32) (Q : ZI → ZJ → Int32 → Int32 → Prop) (hQ : ∀ I' J' v, Rl u I' J' → Q I' J' v v) :
    u_X11_walk [.ref 0, .int x] (shp u) I J (fun I1 J1 v1 => u_X12_walk [.ref 48, .int x] (shp u) I1 J1 (fun I2 J2 v2 => Q I2 J2 v1 v2)) := by
  have w1 : I 3 1 = I 49 1 := hR.1.2.1
  have w2 : I 2 2 = I 49 2 := hR.1.2.2.1
  have n0 := hR.2.1.1
  have n2 := hR.2.1.2.2.1
  have hm : (I 49 2 - 1).toInt = (I 49 2).toInt - 1 := by rw [i_sub]; have : (1 : Int32).toInt = 1 := rfl
                                                          omega
  by_cases h1 : 0 ≤ x.toInt ∧ x.toInt ≤ (I 49 2 - 1).toInt
  · have hc : 0 ≤ x.toInt ∧ x.toInt ≤ 4 := by omega
    have h4 := (hR.1.2.2.2.2.2.2.2.1 x.toInt.toNat (by omega)).2
    have hs : I 11 x.toInt.toNat = I 49 (28 + 2 * x.toInt.toNat) := h4
    have hv : vp_in (41 : Int32) 98 := by rw [i_vp]; decide
    have hn : (41 : Int32).toNatClampNeg = 41 := rfl
    have z37 : ¬ 28 + 2 * x.toInt.toNat = 37 := by omega
    have z38 : ¬ 28 + 2 * x.toInt.toNat = 38 := by omega
    have z39 : ¬ 28 + 2 * x.toInt.toNat = 39 := by omega
    have z40 : ¬ 28 + 2 * x.toInt.toNat = 40 := by omega
    simp only [e_X11_walk, e_X12_walk, g_X12_walk_74, e_X8_begin_b, e_X8_begin, e_X8_begin_a, p_X11_isHead, p_X12_isHead, p_X10_setOf _ _ _ hc, p_X12_setOf _ _ _ hc, p_X8_isFallen6, p_X12_falls, p_X11_bit, bI_0, eq_self, zu_rd, Nat.reduceEqDiff, reduceIte, w1, w2, h1, hs, hv, hn, z37, z38, z39, z40, not_true, not_false_iff, Classical.not_not, true_implies, false_implies, and_true, true_and, and_self, if_true, if_false]
    have z : (0 : Int32).toInt = 0 := rfl
    have key : ∀ b : Int32, b = bI (fel (I 49 1) (I 49 (28 + 2 * x.toInt.toNat))) → Rl u (zu (zu (zu (zu (zu (zu (zu (zu (zu (zu (zu I 6 0 x) 6 1 0) 6 2 0) 6 3 (I 49 (28 + 2 * x.toInt.toNat))) 6 4 0) 49 37 x) 49 38 0) 49 39 0) 49 40 (I 49 (28 + 2 * x.toInt.toNat))) 49 41 b) 49 4 0) J := by
      intro b hb
      refine Rl_walk hR (fun a a1 a2 => ?_) (fun k k1 k2 k3 => ?_) ?_ ?_ ?_ ?_ ?_ (fun k hk => ?_) ?_ ?_ ?_ ?_ ?_ (fun k hk => ?_)
      · have : ¬ a = 6 := by omega
        rw [zu_ne _ _ _ a2, zu_ne _ _ _ a2, zu_ne _ _ _ a2, zu_ne _ _ _ a2, zu_ne _ _ _ a2, zu_ne _ _ _ a2, zu_ne _ _ _ this, zu_ne _ _ _ this, zu_ne _ _ _ this, zu_ne _ _ _ this, zu_ne _ _ _ this]
      · have y1 : ¬ k = 37 := by omega
        have y2 : ¬ k = 38 := by omega
        have y3 : ¬ k = 39 := by omega
        have y4 : ¬ k = 40 := by omega
        have y5 : ¬ k = 41 := by omega
        simp only [zu_rd, Nat.reduceEqDiff, reduceIte, k1, y1, y2, y3, y4, y5]
      · rfl
      · rfl
      · rfl
      · rfl
      · rfl
      · exact absurd (show (k : Int) < (0 : Int32).toInt from hk) (by omega)
      · exact (show 0 ≤ (0 : Int32).toInt ∧ (0 : Int32).toInt ≤ 8 from by decide)
      · exact (show -1 ≤ x.toInt ∧ x.toInt < _ from by omega)
      · exact (show 0 ≤ (0 : Int32).toInt ∧ (0 : Int32).toInt ≤ (I 49 0).toInt from by omega)
      · exact (show 0 ≤ (0 : Int32).toInt ∧ (0 : Int32).toInt ≤ (0 : Int32).toInt from by decide)
      · exact hb
      · exact absurd (show (k : Int) < (0 : Int32).toInt from hk) (by omega)
    by_cases hf : fel (I 49 1) (I 49 (28 + 2 * x.toInt.toNat))
    · simp only [hf, not_true, not_false_iff, Classical.not_not, true_implies, false_implies, and_true, true_and, and_self, if_true, if_false]
      rw [bI_t trivial]
      exact hQ _ _ _ (key 1 (bI_t hf).symm)
    · simp only [hf, not_true, not_false_iff, Classical.not_not, true_implies, false_implies, and_true, true_and, and_self, if_true, if_false]
      rw [bI_f (fun h => h)]
      exact hQ _ _ _ (key 0 (bI_f hf).symm)
  · simp only [e_X11_walk, e_X12_walk, g_X12_walk_74, p_X11_isHead, p_X12_isHead, p_X11_bad, p_X12_bad, bI_0, eq_self, zu_rd, Nat.reduceEqDiff, reduceIte, w2, h1, not_true, not_false_iff, Classical.not_not, true_implies, false_implies, and_true, true_and, and_self, if_true, if_false]
    exact hQ _ _ _ (Rl_bad hR)
