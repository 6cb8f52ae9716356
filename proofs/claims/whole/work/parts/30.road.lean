/-! ===== road ===== -/
variable {u : Nat} {I : ZI} {J : ZJ}
theorem mI_ge {k n : Nat} (h : k < n) (hn : n < 2147483648) : ¬ nI n ≤ nI k := by rw [mI_le hn (by omega)]; omega
theorem mI_rf (n : Nat) : nI n ≤ nI n := by rw [i_le]; exact Int.le_refl _
theorem p_X5_beginAnew (x y : Int32) (q : YQv) (hq : q (flr (flr (zu (zu I 3 0 x) 3 1 y) 4 0 (fun _ => 0) 16) 5 0 (fun _ => 0) 6) J) : u_X5_beginAnew [.ref 3, .int x, .int y] (shp u) I J q := by
  rw [e_X5_beginAnew]
  generalize zu (zu I 3 0 x) 3 1 y = I0 at hq ⊢
  refine zlp 16 (fun k L I' J' => (∃ o1 o2, L = [some (.ref 3), o1, o2, some (.int (nI k))]) ∧ I' = flr I0 4 0 (fun _ => 0) k ∧ J' = J) ?_ ?_ _ _ _ ⟨⟨_, _, rfl⟩, (flr_0 _ _ _ _).symm, rfl⟩
  · rintro k hk r L I' J' ⟨⟨o1, o2, rfl⟩, rfl, rfl⟩ hr
    rw [g_X5_beginAnew_12]
    refine ⟨fun h => absurd h (mI_ge hk (by omega)), fun _ => ⟨mI_in hk (by omega), ?_⟩⟩
    rw [mI_nat (by omega), mI_one]
    refine hr _ _ _ ⟨⟨_, _, rfl⟩, ?_, rfl⟩
    have := flr_s I0 4 0 (fun _ => 0) k
    rw [Nat.zero_add] at this; exact this
  · rintro r L I' J' ⟨⟨o1, o2, rfl⟩, rfl, rfl⟩
    rw [g_X5_beginAnew_12]
    refine ⟨fun _ => ?_, fun h => absurd (mI_rf 16) h⟩
    generalize flr I0 4 0 (fun _ => 0) 16 = I1 at hq ⊢
    refine zlp 6 (fun k L I' J'' => (∃ o1 o2, L = [some (.ref 3), o1, o2, some (.int (nI k))]) ∧ I' = flr I1 5 0 (fun _ => 0) k ∧ J'' = J') ?_ ?_ _ _ _ ⟨⟨_, _, rfl⟩, (flr_0 _ _ _ _).symm, rfl⟩
    · rintro k hk r L I' J'' ⟨⟨o1, o2, rfl⟩, rfl, rfl⟩ hr
      rw [g_X5_beginAnew_36]
      refine ⟨fun h => absurd h (mI_ge hk (by omega)), fun _ => ⟨mI_in hk (by omega), ?_⟩⟩
      rw [mI_nat (by omega), mI_one]
      refine hr _ _ _ ⟨⟨_, _, rfl⟩, ?_, rfl⟩
      have := flr_s I1 5 0 (fun _ => 0) k
      rw [Nat.zero_add] at this; exact this
    · rintro r L I' J'' ⟨⟨o1, o2, rfl⟩, rfl, rfl⟩
      rw [g_X5_beginAnew_36]
      exact ⟨fun _ => ⟨rfl, hq⟩, fun h => absurd (mI_rf 6) h⟩
theorem p_X12_begin (x y : Int32) (q : YQv) (hq : q (zu (zu (zu (flr I 49 0 (fun _ => 0) 66) 49 0 x) 49 1 y) 49 37 (-1)) J) : u_X12_begin [.ref 49, .int x, .int y] (shp u) I J q := by
  rw [e_X12_begin]
  refine zlp 66 (fun k L I' J' => L = [some (.ref 49), some (.int x), some (.int y), some (.int (nI k))] ∧ I' = flr I 49 0 (fun _ => 0) k ∧ J' = J) ?_ ?_ _ _ _ ⟨rfl, (flr_0 _ _ _ _).symm, rfl⟩
  · rintro k hk r L I' J' ⟨rfl, rfl, rfl⟩ hr
    rw [g_X12_begin_2]
    refine ⟨fun h => absurd (show nI 66 ≤ nI k from h) (mI_ge hk (by omega)), fun _ => ⟨mI_in (by omega) (by omega), ?_⟩⟩
    rw [mI_nat (by omega), mI_one]
    refine hr _ _ _ ⟨rfl, ?_, rfl⟩
    have := flr_s I 49 0 (fun _ => 0) k
    rw [Nat.zero_add] at this; exact this
  · rintro r L I' J' ⟨rfl, rfl, rfl⟩
    rw [g_X12_begin_2]
    exact ⟨fun _ => ⟨rfl, hq⟩, fun h => absurd (mI_rf 66) h⟩
theorem o_road (hR : Rl u I J) (x y : Int32) (Q : ZI → ZJ → Int32 → Int32 → Prop) (hQ : ∀ I' J' v, Rl u I' J' → Q I' J' v v) :
    u_X11_road [.ref 0, .int x, .int y] (shp u) I J (fun I1 J1 v1 => u_X12_road [.ref 48, .int x, .int y] (shp u) I1 J1 (fun I2 J2 v2 => Q I2 J2 v1 v2)) := by
  have w2 : I 2 2 = I 49 2 := hR.1.2.2.1
  have no : ¬ ((1 ≤ x.toInt ∧ x.toInt ≤ 15) ∧ 1 ≤ y.toInt ∧ y.toInt ≤ 12) → b_X11_road_20 u_X11_within u_X11_bad u_X10_beginAnew (qi (shp u) (fun I1 J1 v1 => u_X12_road [.ref 48, .int x, .int y] (shp u) I1 J1 (fun I2 J2 v2 => Q I2 J2 v1 v2))) [some (.ref 0), some (.int x), some (.int y), none] [] (shp u) I J := by
    intro h
    rw [g_X11_road_20, p_X11_bad]
    refine ⟨rfl, ?_⟩
    rw [e_X12_road, p_X12_isRoad]
    refine ⟨fun z => absurd (bI_f h) z, fun _ => ?_⟩
    rw [p_X12_bad]
    exact ⟨rfl, hQ _ _ _ (Rl_bad hR)⟩
  rw [e_X11_road, p_X11_within]
  refine ⟨fun h => no (fun z => by rw [bI_0] at h; exact h z.1), fun h1 => ?_⟩
  rw [p_X11_within]
  refine ⟨fun h2 => ?_, fun h => no (fun z => by rw [bI_0] at h; exact h z.2)⟩
  rw [bI_0] at h1 h2
  have h1' : 1 ≤ x.toInt ∧ x.toInt ≤ 15 := Classical.not_not.mp h1
  have h2' : 1 ≤ y.toInt ∧ y.toInt ≤ 12 := Classical.not_not.mp h2
  rw [e_X10_beginAnew]
  refine p_X5_beginAnew x y _ ?_
  rw [e_X8_begin_a]
  refine ⟨rfl, rfl, rfl, ?_⟩
  rw [e_X12_road, p_X12_isRoad]
  refine ⟨fun _ => ?_, fun z => absurd z (by rw [bI_t ⟨h1', h2'⟩]; decide)⟩
  refine p_X12_begin x y _ ⟨rfl, ?_⟩
  have ea : I 2 2 = (zu (zu (zu (zu (zu (zu (zu (flr (flr (zu (zu I 3 0 x) 3 1 y) 4 0 (fun _ => 0) 16) 5 0 (fun _ => 0) 6) 6 0 (-1)) 6 1 0) 6 2 0) 6 3 0) 6 4 0) 2 2 0) 2 5 0) 49 2 := by
    rw [w2]; simp only [zu_rd, Nat.reduceEqDiff, reduceIte, flr_ne _ _ (show (49 : Nat) ≠ 4 by decide), flr_ne _ _ (show (49 : Nat) ≠ 5 by decide)]
  rw [← ea]
  refine hQ _ _ _ ?_
  generalize hI1 : (zu (zu (zu (zu (zu (zu (zu (flr (flr (zu (zu I 3 0 x) 3 1 y) 4 0 (fun _ => 0) 16) 5 0 (fun _ => 0) 6) 6 0 (-1)) 6 1 0) 6 2 0) 6 3 0) 6 4 0) 2 2 0) 2 5 0) = I1
  have c30 : I1 3 0 = x := by rw [← hI1]; simp only [zu_rd, Nat.reduceEqDiff, reduceIte, flr_ne _ _ (show (3 : Nat) ≠ 4 by decide), flr_ne _ _ (show (3 : Nat) ≠ 5 by decide)]
  have c31 : I1 3 1 = y := by rw [← hI1]; simp only [zu_rd, Nat.reduceEqDiff, reduceIte, flr_ne _ _ (show (3 : Nat) ≠ 4 by decide), flr_ne _ _ (show (3 : Nat) ≠ 5 by decide)]
  have c4 : ∀ i, i < 16 → I1 4 i = 0 := fun i hi => by
    rw [← hI1]; simp only [zu_rd, Nat.reduceEqDiff, reduceIte, flr_ne _ _ (show (4 : Nat) ≠ 5 by decide)]
    exact flr_in _ _ (by omega) (by omega)
  have c5 : ∀ i, i < 6 → I1 5 i = 0 := fun i hi => by
    rw [← hI1]; simp only [zu_rd, Nat.reduceEqDiff, reduceIte]
    exact flr_in _ _ (by omega) (by omega)
  have c60 : I1 6 0 = -1 := by rw [← hI1]; simp only [zu_rd, Nat.reduceEqDiff, reduceIte]
  have c61 : I1 6 1 = 0 := by rw [← hI1]; simp only [zu_rd, Nat.reduceEqDiff, reduceIte]
  have c62 : I1 6 2 = 0 := by rw [← hI1]; simp only [zu_rd, Nat.reduceEqDiff, reduceIte]
  have c63 : I1 6 3 = 0 := by rw [← hI1]; simp only [zu_rd, Nat.reduceEqDiff, reduceIte]
  have c64 : I1 6 4 = 0 := by rw [← hI1]; simp only [zu_rd, Nat.reduceEqDiff, reduceIte]
  have c22 : I1 2 2 = 0 := by rw [← hI1]; simp only [zu_rd, Nat.reduceEqDiff, reduceIte]
  have c25 : I1 2 5 = 0 := by rw [← hI1]; simp only [zu_rd, Nat.reduceEqDiff, reduceIte]
  have cn : ∀ a, ¬ (2 ≤ a ∧ a ≤ 15) → I1 a = I a := fun a ha => by
    rw [← hI1, zu_ne _ _ _ (show a ≠ 2 by omega), zu_ne _ _ _ (show a ≠ 2 by omega), zu_ne _ _ _ (show a ≠ 6 by omega), zu_ne _ _ _ (show a ≠ 6 by omega), zu_ne _ _ _ (show a ≠ 6 by omega), zu_ne _ _ _ (show a ≠ 6 by omega), zu_ne _ _ _ (show a ≠ 6 by omega), flr_ne _ _ (show a ≠ 5 by omega), flr_ne _ _ (show a ≠ 4 by omega), zu_ne _ _ _ (show a ≠ 3 by omega), zu_ne _ _ _ (show a ≠ 3 by omega)]
  clear hI1 ea
  generalize hI2 : zu (zu (zu (flr I1 49 0 (fun _ => 0) 66) 49 0 x) 49 1 y) 49 37 (-1) = I2
  have n0 : I2 49 0 = x := by rw [← hI2]; simp only [zu_rd, Nat.reduceEqDiff, reduceIte]
  have n1 : I2 49 1 = y := by rw [← hI2]; simp only [zu_rd, Nat.reduceEqDiff, reduceIte]
  have n37 : I2 49 37 = -1 := by rw [← hI2]; simp only [zu_rd, Nat.reduceEqDiff, reduceIte]
  have nz : ∀ g, g ≠ 0 → g ≠ 1 → g ≠ 37 → g < 66 → I2 49 g = 0 := fun g x1 x2 x3 x4 => by
    rw [← hI2]; simp only [zu_rd, reduceIte, x1, x2, x3]; exact flr_in _ _ (by omega) (by omega)
  have nn : ∀ a, a ≠ 49 → I2 a = I1 a := fun a ha => by rw [← hI2, zu_ne _ _ _ ha, zu_ne _ _ _ ha, zu_ne _ _ _ ha, flr_ne _ _ ha]
  clear hI2
  have z0 : (0 : Int32).toInt = 0 := rfl
  have n2 : I2 49 2 = 0 := nz 2 (by decide) (by decide) (by decide) (by decide)
  have n3 : I2 49 3 = 0 := nz 3 (by decide) (by decide) (by decide) (by decide)
  have n4 : I2 49 4 = 0 := nz 4 (by decide) (by decide) (by decide) (by decide)
  have n38 : I2 49 38 = 0 := nz 38 (by decide) (by decide) (by decide) (by decide)
  have n39 : I2 49 39 = 0 := nz 39 (by decide) (by decide) (by decide) (by decide)
  have n40 : I2 49 40 = 0 := nz 40 (by decide) (by decide) (by decide) (by decide)
  have n41 : I2 49 41 = 0 := nz 41 (by decide) (by decide) (by decide) (by decide)
  refine Rl_w hR (fun a a1 a2 => by rw [nn a a2, cn a a1]) ?_ ?_
  · unfold Wd
    simp only [Nat.reduceAdd]
    rw [nn 2 (by decide), nn 3 (by decide), nn 4 (by decide), nn 5 (by decide), nn 6 (by decide), n0, n1, n2, n3, n4, n37, n38, n39, n40, z0]
    refine ⟨c30, c31, c22, c25, c64, fun c hc => ?_, fun i hi => ?_, fun h hh => ?_, c60, c61, c62, c63, fun k hk => ?_, fun k hk => ?_⟩
    · rw [c4 c hc, nz _ (by omega) (by omega) (by omega) (by omega)]
    · rw [c5 i hi, nz _ (by omega) (by omega) (by omega) (by omega)]
    all_goals omega
  · unfold Vd
    rw [n0, n1, n2, n3, n4, n37, n38, n39, n40, n41, z0]
    have zm : (-1 : Int32).toInt = -1 := rfl
    have hf : ¬ fel y 0 := by unfold fel; rw [i_neg, z0]; omega
    refine ⟨h1', h2', by omega, by omega, by omega, fun h hh => by omega, by omega, by omega, by omega, (bI_f hf).symm, fun k hk => by omega, fun k hk => by omega⟩
