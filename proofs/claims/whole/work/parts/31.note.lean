/-! ===== note ===== -/
variable {u : Nat} {I : ZI} {J : ZJ}
theorem o_note (hR : Rl u I J) (x1 x2 x3 x4 : Int32) (Q : ZI → ZJ → Int32 → Int32 → Prop) (hQ : ∀ I' J' v, Rl u I' J' → Q I' J' v v) :
    u_X11_note [.ref 0, .int x1, .int x2, .int x3, .int x4] (shp u) I J (fun I1 J1 v1 => u_X12_note [.ref 48, .int x1, .int x2, .int x3, .int x4] (shp u) I1 J1 (fun I2 J2 v2 => Q I2 J2 v1 v2)) := by
  obtain ⟨w0, w1, w2, w3, w4, w5, w6, w7, w8, w9, w10, w11, w12, w13⟩ := hR.1
  obtain ⟨v0, v1, v2, v3, v4, v5, v6, v7, v8, v9, v10, v11⟩ := hR.2.1
  have w0' : I 3 0 = I 49 0 := w0
  have w2' : I 2 2 = I 49 2 := w2
  have w3' : I 2 5 = I 49 3 := w3
  have no : ∀ z1 z2 z3 z4 z5 : Option Value, ¬ ((0 ≤ x1.toInt ∧ x1.toInt ≤ (I 49 2 - 1).toInt) ∧ (0 ≤ x2.toInt ∧ x2.toInt ≤ 5) ∧ vr x3 ∧ (-1 ≤ x4.toInt ∧ x4.toInt ≤ (I 49 0).toInt)) →
      (u_X12_note [.ref 48, .int x1, .int x2, .int x3, .int x4] (shp u) (zu I 0 10 (I 0 10 + 1)) J (fun I2 J2 v2 => Q I2 J2 (-2) v2)) := by
    intro z1 z2 z3 z4 z5 h
    have e49 : zu I 0 10 (I 0 10 + 1) 49 = I 49 := zu_ne _ _ _ (by decide)
    have fin := hQ _ _ (-2) (Rl_bad hR)
    have fin2 : ∀ o1 o2 o3 o4 o5 : Option Value, b_X12_note_39 u_X12_isHead u_X12_isStep u_X12_isRow u_X12_fountain u_X12_in u_X12_bad u_X12_full (qi (shp u) (fun I2 J2 v2 => Q I2 J2 (-2) v2)) [some (.ref 48), o1, o2, o3, o4, o5] [] (shp u) (zu I 0 10 (I 0 10 + 1)) J := by
      intro o1 o2 o3 o4 o5
      rw [g_X12_note_39, p_X12_bad]
      exact ⟨rfl, fin⟩
    rw [e_X12_note, p_X12_isHead, e49]
    refine ⟨fun _ => fin2 _ _ _ _ _, fun h1 => ?_⟩
    rw [p_X12_isStep]
    refine ⟨fun _ => fin2 _ _ _ _ _, fun h2 => ?_⟩
    refine p_X12_isRow _ _ _ _ _ ?_
    refine ⟨fun _ => fin2 _ _ _ _ _, fun h3 => ?_⟩
    rw [p_X12_fountain, e49, p_X12_in]
    refine ⟨fun h4 => ?_, fun _ => fin2 _ _ _ _ _⟩
    exfalso
    rw [bI_0, Classical.not_not] at h1 h2 h3 h4
    rw [ij_to, ij_to] at h4
    exact h ⟨h1, h2, h3, h4⟩
  by_cases hg : (0 ≤ x1.toInt ∧ x1.toInt ≤ (I 49 2 - 1).toInt) ∧ (0 ≤ x2.toInt ∧ x2.toInt ≤ 5) ∧ vr x3 ∧ (-1 ≤ x4.toInt ∧ x4.toInt ≤ (I 49 0).toInt)
  · obtain ⟨g1, g2, g3, g4⟩ := hg
    have go : b_X11_note_51 u_X11_isHead u_X11_isStep u_X11_isRow u_X11_bad u_X11_isCell u_X11_full u_X10_addNote (qi (shp u) (fun I1 J1 v1 => u_X12_note [.ref 48, .int x1, .int x2, .int x3, .int x4] (shp u) I1 J1 (fun I2 J2 v2 => Q I2 J2 v1 v2))) [some (.ref 0), some (.int x1), some (.int x2), some (.int x3), some (.int x4)] [] (shp u) I J := by
      rw [g_X11_note_51]
      have z6 : (6 : Int32).toInt = 6 := rfl
      have mm : ∀ (I1 : ZI) (qq : YQi), I1 49 = I 49 → (¬ I 49 3 = 6 → qq (zu (zu (zu (zu (zu I1 49 (42 + 4 * (I 49 3).toInt.toNat) x1) 49 (43 + 4 * (I 49 3).toInt.toNat) x2) 49 (44 + 4 * (I 49 3).toInt.toNat) x3) 49 (45 + 4 * (I 49 3).toInt.toNat) x4) 49 3 (I 49 3 + 1)) J (I 49 3 + 1)) → (I 49 3 = 6 → u_X12_full [.ref 48] (shp u) I1 J (fun I6 J6 v6 => ((shp u) = (shp u) ∧ qq I6 J6 v6))) → u_X12_note [.ref 48, .int x1, .int x2, .int x3, .int x4] (shp u) I1 J qq := by
        intro I1 qq e49 hy hn
        rw [e_X12_note, p_X12_isHead, e49]
        refine ⟨fun h => absurd g1 (by rw [bI_0] at h; exact h), fun _ => ?_⟩
        rw [p_X12_isStep]
        refine ⟨fun h => absurd g2 (by rw [bI_0] at h; exact h), fun _ => ?_⟩
        refine p_X12_isRow _ _ _ _ _ ?_
        refine ⟨fun h => absurd g3 (by rw [bI_0] at h; exact h), fun _ => ?_⟩
        rw [p_X12_fountain, e49, p_X12_in, ij_to, ij_to, e49]
        refine ⟨fun _ => ⟨fun h6 => ?_, hn⟩, fun h => absurd g4 (by rw [bI_0] at h; exact h)⟩
        have hs : (I 49 3).toInt ≤ 5 := by
          rcases Int.lt_or_le (I 49 3).toInt 6 with z | z
          · omega
          · exact absurd (i_ext (show (I 49 3).toInt = (6 : Int32).toInt by rw [z6]; omega)) h6
        obtain ⟨m, hm, hm6⟩ : ∃ m : Nat, I 49 3 = nI m ∧ m ≤ 5 := ⟨_, mI_of v3.1, by omega⟩
        have tm : (I 49 3).toInt.toNat = m := by rw [hm, i_nI _ (by omega)]; rfl
        have y1 : (42 : Int32) + ((4 : Int32) * (I 49 3)) = nI (42 + 4 * m) := by
          rw [hm]
          have a1 : (4 : Int32) * nI m = nI (4 * m) := mI_mul 4 m
          have a2 : (42 : Int32) + nI (4 * m) = nI (42 + 4 * m) := mI_add 42 (4 * m)
          rw [a1, a2]
        have y2 : nI (42 + 4 * m) + 1 = nI (43 + 4 * m) := (mI_add _ 1).trans (congrArg nI (by omega))
        have y3 : nI (42 + 4 * m) + 2 = nI (44 + 4 * m) := (mI_add _ 2).trans (congrArg nI (by omega))
        have y4 : nI (42 + 4 * m) + 3 = nI (45 + 4 * m) := (mI_add _ 3).trans (congrArg nI (by omega))
        rw [y1, y2, y3, y4, mI_nat (by omega), mI_nat (by omega), mI_nat (by omega), mI_nat (by omega)]
        refine ⟨mI_in (by omega) (by omega), mI_in (by omega) (by omega), mI_in (by omega) (by omega), mI_in (by omega) (by omega), rfl, ?_⟩
        have r3 : zu (zu (zu (zu I1 49 (42 + 4 * m) x1) 49 (43 + 4 * m) x2) 49 (44 + 4 * m) x3) 49 (45 + 4 * m) x4 49 3 = I 49 3 := by
          have b1 : (3 : Nat) ≠ 42 + 4 * m := by omega
          have b2 : (3 : Nat) ≠ 43 + 4 * m := by omega
          have b3 : (3 : Nat) ≠ 44 + 4 * m := by omega
          have b4 : (3 : Nat) ≠ 45 + 4 * m := by omega
          simp only [zu_rd, reduceIte, b1, b2, b3, b4, e49]
        rw [r3]
        rw [tm] at hy
        exact hy h6
      refine ⟨fun h => ?_, fun h => ?_⟩
      · have hs : (I 49 3).toInt ≤ 5 := by rw [w3', i_lt, z6] at h; omega
        have h6 : ¬ I 49 3 = 6 := fun z => by rw [z, z6] at hs; omega
        rw [e_X10_addNote, p_X11_within]
        have hb : (0 : Int32).toInt ≤ (I 2 5).toInt ∧ (I 2 5).toInt ≤ (5 : Int32).toInt := by rw [w3']; exact ⟨v3.1, hs⟩
        refine ⟨fun z => absurd hb (by rw [bI_0] at z; exact z), fun _ => ?_⟩
        have hv : vp_in (I 2 5) 6 := by rw [w3', i_vp]; omega
        refine ⟨hv, hv, hv, hv, ?_⟩
        rw [g_X10_addNote_63]
        refine ⟨rfl, rfl, ?_⟩
        rw [w3', i_nat]
        generalize hn : (I 49 3).toInt.toNat = m
        have hm6 : m ≤ 5 := by omega
        have hmn : (m : Int) = (I 49 3).toInt := by omega
        generalize hI1 : zu (zu (zu (zu (zu I 12 m x1) 13 m x2) 14 m x3) 15 m x4) 2 5 (I 49 3 + 1) = I1
        have c25 : I1 2 5 = I 49 3 + 1 := by rw [← hI1]; simp only [zu_rd, Nat.reduceEqDiff, reduceIte]
        have c22 : I1 2 2 = I 2 2 := by rw [← hI1]; simp only [zu_rd, Nat.reduceEqDiff, reduceIte]
        have c12 : I1 12 m = x1 ∧ ∀ k, k ≠ m → I1 12 k = I 12 k := by rw [← hI1]; refine ⟨by simp only [zu_rd, Nat.reduceEqDiff, reduceIte], fun k hk => by simp only [zu_rd, Nat.reduceEqDiff, reduceIte, hk]⟩
        have c13 : I1 13 m = x2 ∧ ∀ k, k ≠ m → I1 13 k = I 13 k := by rw [← hI1]; refine ⟨by simp only [zu_rd, Nat.reduceEqDiff, reduceIte], fun k hk => by simp only [zu_rd, Nat.reduceEqDiff, reduceIte, hk]⟩
        have c14 : I1 14 m = x3 ∧ ∀ k, k ≠ m → I1 14 k = I 14 k := by rw [← hI1]; refine ⟨by simp only [zu_rd, Nat.reduceEqDiff, reduceIte], fun k hk => by simp only [zu_rd, Nat.reduceEqDiff, reduceIte, hk]⟩
        have c15 : I1 15 m = x4 ∧ ∀ k, k ≠ m → I1 15 k = I 15 k := by rw [← hI1]; refine ⟨by simp only [zu_rd, Nat.reduceEqDiff, reduceIte], fun k hk => by simp only [zu_rd, Nat.reduceEqDiff, reduceIte, hk]⟩
        have cn : ∀ a, a ≠ 2 → ¬ (12 ≤ a ∧ a ≤ 15) → I1 a = I a := fun a a1 a2 => by
          rw [← hI1, zu_ne _ _ _ a1, zu_ne _ _ _ (show a ≠ 15 by omega), zu_ne _ _ _ (show a ≠ 14 by omega), zu_ne _ _ _ (show a ≠ 13 by omega), zu_ne _ _ _ (show a ≠ 12 by omega)]
        clear hI1
        rw [c25]
        refine mm I1 _ (cn 49 (by decide) (by omega)) (fun _ => ?_) (fun z => absurd z h6)
        rw [hn]
        refine hQ _ _ _ ?_
        generalize hI2 : zu (zu (zu (zu (zu I1 49 (42 + 4 * m) x1) 49 (43 + 4 * m) x2) 49 (44 + 4 * m) x3) 49 (45 + 4 * m) x4) 49 3 (I 49 3 + 1) = I2
        have d3 : I2 49 3 = I 49 3 + 1 := by rw [← hI2]; simp only [zu_rd, reduceIte]
        have d42 : I2 49 (42 + 4 * m) = x1 := by
          have b1 : 42 + 4 * m ≠ 43 + 4 * m := by omega
          have b2 : 42 + 4 * m ≠ 44 + 4 * m := by omega
          have b3 : 42 + 4 * m ≠ 45 + 4 * m := by omega
          have b4 : 42 + 4 * m ≠ 3 := by omega
          rw [← hI2]; simp only [zu_rd, reduceIte, b1, b2, b3, b4]
        have d43 : I2 49 (43 + 4 * m) = x2 := by
          have b2 : 43 + 4 * m ≠ 44 + 4 * m := by omega
          have b3 : 43 + 4 * m ≠ 45 + 4 * m := by omega
          have b4 : 43 + 4 * m ≠ 3 := by omega
          rw [← hI2]; simp only [zu_rd, reduceIte, b2, b3, b4]
        have d44 : I2 49 (44 + 4 * m) = x3 := by
          have b3 : 44 + 4 * m ≠ 45 + 4 * m := by omega
          have b4 : 44 + 4 * m ≠ 3 := by omega
          rw [← hI2]; simp only [zu_rd, reduceIte, b3, b4]
        have d45 : I2 49 (45 + 4 * m) = x4 := by
          have b4 : 45 + 4 * m ≠ 3 := by omega
          rw [← hI2]; simp only [zu_rd, reduceIte, b4]
        have dn : ∀ g, g ≠ 3 → g ≠ 42 + 4 * m → g ≠ 43 + 4 * m → g ≠ 44 + 4 * m → g ≠ 45 + 4 * m → I2 49 g = I 49 g := fun g b1 b2 b3 b4 b5 => by
          rw [← hI2]; simp only [zu_rd, reduceIte, b1, b2, b3, b4, b5]; rw [cn 49 (by decide) (by omega)]
        have en : ∀ a, a ≠ 49 → I2 a = I1 a := fun a ha => by rw [← hI2, zu_ne _ _ _ ha, zu_ne _ _ _ ha, zu_ne _ _ _ ha, zu_ne _ _ _ ha, zu_ne _ _ _ ha]
        clear hI2
        have t3 : (I 49 3 + 1).toInt = (I 49 3).toInt + 1 := by
          have a1 : (1 : Int32).toInt = 1 := rfl
          rw [i_add, a1]; omega
        have n0 : I2 49 0 = I 49 0 := dn 0 (by omega) (by omega) (by omega) (by omega) (by omega)
        have n1 : I2 49 1 = I 49 1 := dn 1 (by omega) (by omega) (by omega) (by omega) (by omega)
        have n2 : I2 49 2 = I 49 2 := dn 2 (by omega) (by omega) (by omega) (by omega) (by omega)
        have n4 : I2 49 4 = I 49 4 := dn 4 (by omega) (by omega) (by omega) (by omega) (by omega)
        have n37 : I2 49 37 = I 49 37 := dn _ (by omega) (by omega) (by omega) (by omega) (by omega)
        have n38 : I2 49 38 = I 49 38 := dn _ (by omega) (by omega) (by omega) (by omega) (by omega)
        have n39 : I2 49 39 = I 49 39 := dn _ (by omega) (by omega) (by omega) (by omega) (by omega)
        have n40 : I2 49 40 = I 49 40 := dn _ (by omega) (by omega) (by omega) (by omega) (by omega)
        have n41 : I2 49 41 = I 49 41 := dn _ (by omega) (by omega) (by omega) (by omega) (by omega)
        refine Rl_w hR (fun a a1 a2 => by rw [en a a2, cn a (by omega) (by omega)]) ?_ ?_
        · unfold Wd
          simp only [Nat.reduceAdd]
          rw [en 2 (by decide), en 3 (by decide), en 4 (by decide), en 5 (by decide), en 6 (by decide), en 7 (by decide), en 8 (by decide), en 9 (by decide), en 10 (by decide), en 11 (by decide), en 12 (by decide), en 13 (by decide), en 14 (by decide), en 15 (by decide),
            cn 3 (by decide) (by decide), cn 4 (by decide) (by decide), cn 5 (by decide) (by decide), cn 6 (by decide) (by decide), cn 7 (by decide) (by decide), cn 8 (by decide) (by decide), cn 9 (by decide) (by decide), cn 10 (by decide) (by decide), cn 11 (by decide) (by decide),
            n0, n1, n2, d3, n4, n37, n38, n39, n40, c25, c22, t3]
          refine ⟨w0, w1, w2, rfl, w4, fun c hc => ?_, fun i hi => ?_, fun h hh => ?_, w8, w9, w10, w11, fun k hk => ?_, fun k hk => ?_⟩
          · rw [dn _ (by omega) (by omega) (by omega) (by omega) (by omega)]; exact w5 c hc
          · rw [dn _ (by omega) (by omega) (by omega) (by omega) (by omega)]; exact w6 i hi
          · rw [dn (27 + 2 * h) (by omega) (by omega) (by omega) (by omega) (by omega), dn (28 + 2 * h) (by omega) (by omega) (by omega) (by omega) (by omega)]; exact w7 h hh
          · rw [dn (66 + 4 * k) (by omega) (by omega) (by omega) (by omega) (by omega), dn (67 + 4 * k) (by omega) (by omega) (by omega) (by omega) (by omega), dn (68 + 4 * k) (by omega) (by omega) (by omega) (by omega) (by omega)]; exact w12 k hk
          · by_cases hkm : k = m
            · subst hkm
              rw [c12.1, c13.1, c14.1, c15.1, d42, d43, d44, d45]
              exact ⟨rfl, rfl, rfl, rfl⟩
            · rw [c12.2 k hkm, c13.2 k hkm, c14.2 k hkm, c15.2 k hkm, dn (42 + 4 * k) (by omega) (by omega) (by omega) (by omega) (by omega), dn (43 + 4 * k) (by omega) (by omega) (by omega) (by omega) (by omega), dn (44 + 4 * k) (by omega) (by omega) (by omega) (by omega) (by omega), dn (45 + 4 * k) (by omega) (by omega) (by omega) (by omega) (by omega)]
              exact w13 k (by omega)
        · unfold Vd
          rw [n0, n1, n2, d3, n4, n37, n38, n39, n40, n41, t3]
          refine ⟨v0, v1, v2, by omega, v4, fun h hh => ?_, v6, v7, v8, v9, fun k hk => ?_, fun k hk => ?_⟩
          · rw [dn (27 + 2 * h) (by omega) (by omega) (by omega) (by omega) (by omega)]; exact v5 h hh
          · rw [dn (66 + 4 * k) (by omega) (by omega) (by omega) (by omega) (by omega), dn (67 + 4 * k) (by omega) (by omega) (by omega) (by omega) (by omega), dn (68 + 4 * k) (by omega) (by omega) (by omega) (by omega) (by omega), dn (69 + 4 * k) (by omega) (by omega) (by omega) (by omega) (by omega)]; exact v10 k hk
          · by_cases hkm : k = m
            · subst hkm
              rw [d43, d44]
              exact ⟨g2, g3⟩
            · rw [dn (43 + 4 * k) (by omega) (by omega) (by omega) (by omega) (by omega), dn (44 + 4 * k) (by omega) (by omega) (by omega) (by omega) (by omega)]
              exact v11 k (by omega)
      · have h6 : I 49 3 = 6 := by
          rw [w3', i_lt, z6] at h
          exact i_ext (by rw [z6]; omega)
        rw [p_X11_full]
        refine ⟨rfl, ?_⟩
        refine mm _ _ (zu_ne _ _ _ (by decide)) (fun z => absurd h6 z) (fun _ => ?_)
        rw [p_X12_full]
        exact ⟨rfl, hQ _ _ _ (Rl_full hR)⟩
    rw [e_X11_note, p_X11_isHead, w2']
    refine ⟨fun h => absurd g1 (by rw [bI_0] at h; exact h), fun _ => ?_⟩
    rw [p_X11_isStep]
    refine ⟨fun h => absurd g2 (by rw [bI_0] at h; exact h), fun _ => ?_⟩
    refine p_X11_isRow _ _ _ _ _ ?_
    refine ⟨fun _ => ⟨fun _ => go, fun h4 => ?_⟩, fun h => absurd g3 (by rw [bI_0] at h; exact h)⟩
    rw [p_X11_isCell, w0']
    refine ⟨fun _ => go, fun h => ?_⟩
    exfalso
    rw [bI_0] at h
    have zm : (-1 : Int32).toInt = -1 := rfl
    refine h ⟨?_, g4.2⟩
    rcases Int.lt_or_le x4.toInt 0 with z | z
    · exact absurd (i_ext (show x4.toInt = (-1 : Int32).toInt by rw [zm]; omega)) h4
    · exact z
  · have fin : ∀ o1 o2 o3 o4 : Option Value, b_X11_note_22 u_X11_isHead u_X11_isStep u_X11_isRow u_X11_bad u_X11_isCell u_X11_full u_X10_addNote (qi (shp u) (fun I1 J1 v1 => u_X12_note [.ref 48, .int x1, .int x2, .int x3, .int x4] (shp u) I1 J1 (fun I2 J2 v2 => Q I2 J2 v1 v2))) [some (.ref 0), o1, o2, o3, o4] [] (shp u) I J := by
      intro o1 o2 o3 o4
      rw [g_X11_note_22, p_X11_bad]
      exact ⟨rfl, no o1 o1 o1 o1 o1 hg⟩
    rw [e_X11_note, p_X11_isHead, w2']
    refine ⟨fun h => fin _ _ _ _, fun h1 => ?_⟩
    rw [p_X11_isStep]
    refine ⟨fun h => fin _ _ _ _, fun h2 => ?_⟩
    refine p_X11_isRow _ _ _ _ _ ?_
    rw [bI_0, Classical.not_not] at h1 h2
    refine ⟨fun h3 => ⟨fun h4 => ?_, fun h4 => ?_⟩, fun h => fin _ _ _ _⟩
    · exfalso
      rw [bI_0, Classical.not_not] at h3
      have zm : (-1 : Int32).toInt = -1 := rfl
      exact hg ⟨h1, h2, h3, by rw [h4, zm]; omega⟩
    · rw [p_X11_isCell, w0']
      refine ⟨fun h5 => ?_, fun _ => ?_⟩
      · exfalso
        rw [bI_0, Classical.not_not] at h3 h5
        have h5' : 0 ≤ x4.toInt ∧ x4.toInt ≤ (I 49 0).toInt := h5
        exact hg ⟨h1, h2, h3, by omega⟩
      · rw [p_X11_bad]
        exact ⟨rfl, no none none none none none hg⟩
