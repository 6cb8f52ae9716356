/-! ===== hand, undo ===== -/
variable {u : Nat} {I : ZI} {J : ZJ}
theorem past_ok (hR : Rl u I J) {k m d : Nat} (hk : I 49 4 = nI k) (hm : k = m + d) (hk8 : k ≤ 8) {I3 : ZI}
    (a1 : ∀ i, i < m → I3 7 i = I 7 (i + d) ∧ I3 8 i = I 8 (i + d) ∧ I3 9 i = I 9 (i + d)) (a2 : I3 7 m = I 6 1 ∧ I3 8 m = I 6 2 ∧ I3 9 m = I 6 3)
    (b1 : ∀ j, j < 4 → I3 49 (66 + 4 * m + j) = I 49 (38 + j)) (b2 : ∀ i, i < 4 * m → I3 49 (66 + i) = I 49 (66 + 4 * d + i)) (e4 : I3 49 4 = nI (m + 1)) :
    (∀ k : Nat, (k : Int) < (I3 49 4).toInt → I3 7 k = I3 49 (66 + 4 * k) ∧ I3 8 k = I3 49 (67 + 4 * k) ∧ I3 9 k = I3 49 (68 + 4 * k)) ∧
    (∀ k : Nat, (k : Int) < (I3 49 4).toInt → (0 ≤ (I3 49 (66 + 4 * k)).toInt ∧ (I3 49 (66 + 4 * k)).toInt ≤ (I 49 0).toInt) ∧ (0 ≤ (I3 49 (67 + 4 * k)).toInt ∧ (I3 49 (67 + 4 * k)).toInt ≤ (I3 49 (66 + 4 * k)).toInt) ∧ I3 49 (69 + 4 * k) = bI (fel (I 49 1) (I3 49 (68 + 4 * k)))) := by
  obtain ⟨w0, w1, w2, w3, w4, w5, w6, w7, w8, w9, w10, w11, w12, w13⟩ := hR.1
  obtain ⟨v0, v1, v2, v3, v4, v5, v6, v7, v8, v9, v10, v11⟩ := hR.2.1
  have t4 : (I 49 4).toInt = k := by rw [hk, i_nI k (by omega)]
  have t5 : (I3 49 4).toInt = (m + 1 : Nat) := by rw [e4, i_nI _ (by omega)]
  have old : ∀ i j : Nat, i < m → j < 4 → I3 49 (66 + j + 4 * i) = I 49 (66 + j + 4 * (i + d)) := by
    intro i j hi hj
    have := b2 (j + 4 * i) (by omega)
    have x1 : 66 + (j + 4 * i) = 66 + j + 4 * i := by omega
    have x2 : 66 + 4 * d + (j + 4 * i) = 66 + j + 4 * (i + d) := by omega
    rw [x1, x2] at this; exact this
  have new : ∀ j : Nat, j < 4 → I3 49 (66 + j + 4 * m) = I 49 (38 + j) := by
    intro j hj
    have := b1 j hj
    have x1 : 66 + 4 * m + j = 66 + j + 4 * m := by omega
    rw [x1] at this; exact this
  constructor
  · intro i hi
    by_cases h : i < m
    · obtain ⟨p1, p2, p3⟩ := a1 i h
      obtain ⟨r1, r2, r3⟩ := w12 (i + d) (by omega)
      rw [p1, p2, p3]
      exact ⟨r1.trans (old i 0 h (by omega)).symm, r2.trans (old i 1 h (by omega)).symm, r3.trans (old i 2 h (by omega)).symm⟩
    · have : i = m := by omega
      subst this
      rw [a2.1, a2.2.1, a2.2.2]
      exact ⟨w9.trans (new 0 (by omega)).symm, w10.trans (new 1 (by omega)).symm, w11.trans (new 2 (by omega)).symm⟩
  · intro i hi
    by_cases h : i < m
    · have e0 : I3 49 (66 + 4 * i) = I 49 (66 + 4 * (i + d)) := old i 0 h (by omega)
      have e1 : I3 49 (67 + 4 * i) = I 49 (67 + 4 * (i + d)) := old i 1 h (by omega)
      have e2 : I3 49 (68 + 4 * i) = I 49 (68 + 4 * (i + d)) := old i 2 h (by omega)
      have e3 : I3 49 (69 + 4 * i) = I 49 (69 + 4 * (i + d)) := old i 3 h (by omega)
      rw [e0, e1, e2, e3]
      exact v10 (i + d) (by omega)
    · have : i = m := by omega
      subst this
      have e0 : I3 49 (66 + 4 * i) = I 49 38 := new 0 (by omega)
      have e1 : I3 49 (67 + 4 * i) = I 49 39 := new 1 (by omega)
      have e2 : I3 49 (68 + 4 * i) = I 49 40 := new 2 (by omega)
      have e3 : I3 49 (69 + 4 * i) = I 49 41 := new 3 (by omega)
      rw [e0, e1, e2, e3]
      exact ⟨v7, v8, v9⟩
theorem kmd (hR : Rl u I J) : ∃ k m d : Nat, I 49 4 = nI k ∧ I 6 4 = nI k ∧ k = m + d ∧ k ≤ 8 ∧ ((d = 0 ∧ m < 8) ∨ (d = 1 ∧ m = 7)) := by
  have w4 : I 6 4 = I 49 4 := hR.1.2.2.2.2.1
  have v4 := hR.2.1.2.2.2.2.1
  have e := mI_of v4.1
  by_cases h : (I 49 4).toInt.toNat < 8
  · exact ⟨(I 49 4).toInt.toNat, (I 49 4).toInt.toNat, 0, e, w4.trans e, rfl, by omega, Or.inl ⟨rfl, h⟩⟩
  · exact ⟨(I 49 4).toInt.toNat, 7, 1, e, w4.trans e, by omega, by omega, Or.inr ⟨rfl, rfl⟩⟩
theorem p_X12_isWalk (u : Nat) (I : ZI) (J : ZJ) (q : YQi) : u_X12_isWalk [.ref 48] (shp u) I J q = q I J (bI (¬ I 49 37 = -1)) := by
  simp only [e_X12_isWalk, g_X12_isWalk_16, eq_self, true_or, or_true, not_true, not_false_iff, Classical.not_not, true_implies, false_implies, and_true, true_and, and_self, if_true, if_false]
  by_cases h : I 49 37 = -1
  · rw [bI_f (fun h2 => h2 h)]; simp only [h, not_true, not_false_iff, Classical.not_not, true_implies, false_implies, and_true, true_and, and_self, if_true, if_false]
  · rw [bI_t h]; simp only [h, not_true, not_false_iff, Classical.not_not, true_implies, false_implies, and_true, true_and, and_self, if_true, if_false]
theorem p_X12_isThere (u : Nat) (I : ZI) (J : ZJ) (q : YQi) : u_X12_isThere [.ref 48] (shp u) I J q = q I J (bI (I 49 38 = I 49 0)) := by
  simp only [e_X12_isThere, g_X12_isThere_19, p_X12_fountain, eq_self, true_or, or_true, not_true, not_false_iff, Classical.not_not, true_implies, false_implies, and_true, true_and, and_self, if_true, if_false]
  by_cases h : I 49 38 = I 49 0
  · rw [bI_t h]; simp only [h, not_true, not_false_iff, Classical.not_not, true_implies, false_implies, and_true, true_and, and_self, if_true, if_false]
  · rw [bI_f h]; simp only [h, not_true, not_false_iff, Classical.not_not, true_implies, false_implies, and_true, true_and, and_self, if_true, if_false]
theorem o_hand (hR : Rl u I J) (Q : ZI → ZJ → Int32 → Int32 → Prop) (hQ : ∀ I' J' v, Rl u I' J' → Q I' J' v v) :
    u_X11_hand [.ref 0] (shp u) I J (fun I1 J1 v1 => u_X12_hand [.ref 48] (shp u) I1 J1 (fun I2 J2 v2 => Q I2 J2 v1 v2)) := by
  obtain ⟨k, m, d, k1, k2, k3, k4, k5⟩ := kmd hR
  have w0 : I 3 0 = I 49 0 := hR.1.1
  have w1 : I 3 1 = I 49 1 := hR.1.2.1
  have w37 : I 6 0 = I 49 37 := hR.1.2.2.2.2.2.2.2.2.1
  have w38 : I 6 1 = I 49 38 := hR.1.2.2.2.2.2.2.2.2.2.1
  have w39 : I 6 2 = I 49 39 := hR.1.2.2.2.2.2.2.2.2.2.2.1
  have w40 : I 6 3 = I 49 40 := hR.1.2.2.2.2.2.2.2.2.2.2.2.1
  obtain ⟨v0, v1, v2, v3, v4, v5, v6, v7, v8, v9, v10, v11⟩ := hR.2.1
  have hth : (I 49 0 ≤ I 49 38) = (I 49 38 = I 49 0) := by rw [i_le, i_eq]; apply propext; omega
  by_cases h1 : I 49 37 = -1
  · simp only [e_X11_hand, g_X11_hand_30, e_X12_hand, g_X12_hand_24, g_X12_hand_31, p_X11_no, p_X12_no, p_X12_isWalk, bI_0, eq_self, zu_rd, Nat.reduceEqDiff, reduceIte, w37, h1, not_true, not_false_iff, Classical.not_not, true_implies, false_implies, and_true, true_and, and_self, if_true, if_false]
    exact hQ _ _ _ (Rl_no hR)
  · by_cases h2 : I 49 38 = I 49 0 ∧ ¬ fel (I 49 1) (I 49 40)
    · have h41 : I 49 41 = 0 := by rw [v9]; exact bI_f h2.2
      simp only [e_X11_hand, g_X11_hand_30, e_X12_hand, g_X12_hand_24, g_X12_hand_31, p_X11_no, p_X12_no, p_X12_isWalk, p_X12_isThere, p_X8_isThrough6, bI_0, eq_self, zu_rd, Nat.reduceEqDiff, reduceIte, w0, w1, w37, w38, w40, hth, h1, h2, h41, not_true, not_false_iff, Classical.not_not, true_implies, false_implies, and_true, true_and, and_self, if_true, if_false]
      exact ⟨fun h => absurd (show I 49 0 ≤ I 49 0 by rw [i_le]; exact Int.le_refl _) h, fun _ => hQ _ _ _ (Rl_no hR)⟩
    · rw [e_X11_hand]
      simp only [w37, h1, p_X8_isThrough6, bI_0, w0, w1, w38, w40, hth, h2, eq_self, not_true, not_false_iff, Classical.not_not, true_implies, false_implies, and_true, true_and, and_self, if_true, if_false]
      refine p_X8_keep u I J k2 k3 k5 _ (fun I1 hK => ?_)
      obtain ⟨c1, c2, c3, c4, c5, c6, c7⟩ := hK
      have e49 : zu I1 6 3 0 49 = I 49 := by rw [zu_ne _ _ _ (by decide), c1 49 (by omega)]
      rw [e_X12_hand, p_X12_isWalk, e49, bI_0, p_X12_isThere, e49, bI_0]
      have fin : b_X12_hand_31 u_X12_isWalk u_X12_isThere u_X12_no u_X12_keep (qi (shp u) (fun I2 J2 v2 => Q I2 J2 (I1 6 3) v2)) [some (.ref 48), none] [] (shp u) (zu I1 6 3 0) J := by
        rw [g_X12_hand_31]
        refine p_X12_keep u _ J (by rw [e49]; exact k1) k3 k5 _ (fun I2 hM => ⟨rfl, ?_⟩)
        obtain ⟨m1, m2, m3, m4, m5⟩ := hM
        have h63 : I1 6 3 = I 49 40 := by rw [c2 3 (by decide), w40]
        rw [e49, h63]
        have n49 : ∀ g, g ≠ 40 → g ≠ 41 → zu (zu I2 49 40 0) 49 41 0 49 g = I2 49 g := fun g g1 g2 => by simp only [zu_rd, Nat.reduceEqDiff, reduceIte, g1, g2]
        have nx : ∀ a, a ≠ 49 → zu (zu I2 49 40 0) 49 41 0 a = zu I1 6 3 0 a := fun a ha => by rw [zu_ne _ _ _ ha, zu_ne _ _ _ ha, m1 a ha]
        have n7 : ∀ a, a ≠ 49 → a ≠ 6 → zu (zu I2 49 40 0) 49 41 0 a = I1 a := fun a ha h6 => by rw [nx a ha, zu_ne _ _ _ h6]
        obtain ⟨pk, pb⟩ := past_ok hR k1 k3 k4 (I3 := zu (zu I2 49 40 0) 49 41 0)
          (fun i hi => by rw [n7 7 (by decide) (by decide), n7 8 (by decide) (by decide), n7 9 (by decide) (by decide)]; exact c7 i hi)
          (by rw [n7 7 (by decide) (by decide), n7 8 (by decide) (by decide), n7 9 (by decide) (by decide)]; exact ⟨c4, c5, c6⟩)
          (fun j hj => by rw [n49 _ (by omega) (by omega), m4 j hj, e49])
          (fun i hi => by rw [n49 _ (by omega) (by omega), m5 i hi, e49])
          (by rw [n49 4 (by decide) (by decide), m3])
        have z : (0 : Int32).toInt = 0 := rfl
        refine hQ _ _ _ (Rl_walk hR (fun a a1 a2 => by rw [n7 a a2 (by omega), c1 a a1]) (fun g g1 g2 g3 => by rw [n49 g (by omega) (by omega), m2 g g1 g3, e49]) ?_ ?_ ?_ ?_ ?_ pk ?_ ?_ ?_ ?_ ?_ pb)
        · rw [nx 6 (by decide), n49 4 (by decide) (by decide), m3]
          show zu I1 6 3 0 6 4 = _
          rw [zu_rd, if_pos rfl, if_neg (by decide), c3]
        · rw [nx 6 (by decide), n49 37 (by decide) (by decide), m2 37 (by decide) (by decide), e49, zu_rd, if_pos rfl, if_neg (by decide), c2 0 (by decide), w37]
        · rw [nx 6 (by decide), n49 38 (by decide) (by decide), m2 38 (by decide) (by decide), e49, zu_rd, if_pos rfl, if_neg (by decide), c2 1 (by decide), w38]
        · rw [nx 6 (by decide), n49 39 (by decide) (by decide), m2 39 (by decide) (by decide), e49, zu_rd, if_pos rfl, if_neg (by decide), c2 2 (by decide), w39]
        · rw [nx 6 (by decide), zu_rd, if_pos rfl, if_pos rfl]; rfl
        · rw [n49 4 (by decide) (by decide), m3, i_nI _ (by omega)]; omega
        · rw [n49 37 (by decide) (by decide), m2 37 (by decide) (by decide), e49]; exact v6
        · rw [n49 38 (by decide) (by decide), m2 38 (by decide) (by decide), e49]; exact v7
        · rw [n49 39 (by decide) (by decide), n49 38 (by decide) (by decide), m2 39 (by decide) (by decide), m2 38 (by decide) (by decide), e49]; exact v8
        · have : ¬ fel (I 49 1) 0 := by
            unfold fel; rw [i_neg, z]; omega
          show (0 : Int32) = bI (fel (I 49 1) 0)
          rw [bI_f this]
      simp only [h1, not_true, not_false_iff, Classical.not_not, true_implies, false_implies, and_true, true_and, and_self, if_true, if_false]
      refine ⟨fun _ => fin, fun hx => ⟨fun _ => fin, fun h0 => ?_⟩⟩
      · exfalso
        rw [v9, bI_0] at h0
        exact h2 ⟨hx, h0⟩
