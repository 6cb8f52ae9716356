/-! ===== step ===== -/
variable {u : Nat} {I : ZI} {J : ZJ}
/-- the scratch row of stones may be anything -/
theorem Rl_53 (hR : Rl u I J) (f : Nat → Int32) : Rl u (fun a => if a = 53 then f else I a) J :=
  Rl_fr hR ⟨fun a _ _ _ _ h _ _ => if_neg (by omega), rfl, rfl⟩ rfl rfl
theorem o_step (hR : Rl u I J) (x : Int32) (Q : ZI → ZJ → Int32 → Int32 → Prop) (hQ : ∀ I' J' v, Rl u I' J' → Q I' J' v v) :
    u_X11_step [.ref 0, .int x] (shp u) I J (fun I1 J1 v1 => u_X12_step [.ref 48, .int x] (shp u) I1 J1 (fun I2 J2 v2 => Q I2 J2 v1 v2)) := by
  obtain ⟨k, m, d, k1, k2, k3, k4, k5⟩ := kmd hR
  obtain ⟨w0, w1, w2, w3, w4, w5, w6, w7, w8, w9, w10, w11, w12, w13⟩ := hR.1
  have w0 : I 3 0 = I 49 0 := w0
  have w1 : I 3 1 = I 49 1 := w1
  have w5 : ∀ c, c < 16 → I 4 c = I 49 (5 + c) := w5
  have w6 : ∀ c, c < 6 → I 5 c = I 49 (21 + c) := w6
  have w37 : I 6 0 = I 49 37 := w8
  have w38 : I 6 1 = I 49 38 := w9
  have w39 : I 6 2 = I 49 39 := w10
  have w40 : I 6 3 = I 49 40 := w11
  obtain ⟨v0, v1, v2, v3, v4, v5, v6, v7, v8, v9, v10, v11⟩ := hR.2.1
  have hth : (I 49 0 ≤ I 49 38) = (I 49 38 = I 49 0) := by rw [i_le, i_eq]; apply propext; omega
  rw [e_X11_step, p_X11_within]
  by_cases hx : (1 : Int32).toInt ≤ x.toInt ∧ x.toInt ≤ (3 : Int32).toInt
  · refine ⟨fun _ => ?_, fun h => absurd h (by rw [bI_t hx]; decide)⟩
    have hx' : 1 ≤ x.toInt ∧ x.toInt ≤ 3 := hx
    have nope : ∀ r : I 49 37 = -1 ∨ (I 49 38 = I 49 0 ∨ fel (I 49 1) (I 49 40)), b_X11_step_46 u_X11_within u_X11_bad u_X8_isOver u_X11_no u_X8_keep u_X10_kindOf u_X11_kind u_X8_go (qi (shp u) (fun I1 J1 v1 => u_X12_step [.ref 48, .int x] (shp u) I1 J1 (fun I2 J2 v2 => Q I2 J2 v1 v2))) [some (.ref 0), some (.int x), some (.ref 6)] [] (shp u) I J := by
      intro r
      rw [g_X11_step_46, p_X11_no]
      refine ⟨rfl, ?_⟩
      have e49 : zu I 0 11 (I 0 11 + 1) 49 = I 49 := zu_ne _ _ _ (by decide)
      rw [e_X12_step, p_X12_isPace]
      refine ⟨fun _ => ?_, fun h => absurd h (by rw [bI_t hx']; decide)⟩
      rw [p_X12_isWalk, e49, g_X12_step_39, p_X12_no]
      have fin := hQ _ _ (-3) (Rl_no hR)
      refine ⟨fun _ => ⟨rfl, fin⟩, fun h => ?_⟩
      rw [p_X12_isThere, e49]
      refine ⟨fun _ => by rw [g_X12_step_39, p_X12_no]; exact ⟨rfl, fin⟩, fun h2 => ⟨fun h3 => ?_, fun _ => by rw [g_X12_step_39, p_X12_no]; exact ⟨rfl, fin⟩⟩⟩
      exfalso
      rw [bI_0] at h h2
      rw [v9] at h3
      rcases r with r | r | r
      · exact h (fun z => z r)
      · exact h2 r
      · exact h3 (bI_t r)
    refine ⟨fun h => nope (Or.inl (by rw [← w37]; exact h)), fun h37 => ?_⟩
    rw [w37] at h37
    rw [p_X8_isOver6, w0, w1, w38, w40, hth]
    refine ⟨fun h => ?_, fun h => nope (Or.inr (by rw [bI_0] at h; exact Classical.not_not.mp h))⟩
    rw [bI_0] at h
    have hn : ¬ I 49 38 = I 49 0 := fun z => h (Or.inl z)
    have hf : ¬ fel (I 49 1) (I 49 40) := fun z => h (Or.inr z)
    have hlt : (I 49 38).toInt < (I 49 0).toInt := by
      rcases Int.lt_or_le (I 49 38).toInt (I 49 0).toInt with z | z
      · exact z
      · exact absurd (i_ext (show (I 49 38).toInt = (I 49 0).toInt by omega)) hn
    have h37' : 0 ≤ (I 49 37).toInt ∧ (I 49 37).toInt ≤ 4 := by
      refine ⟨?_, by omega⟩
      rcases Int.lt_or_le (I 49 37).toInt 0 with z | z
      · exact absurd (i_ext (show (I 49 37).toInt = (-1 : Int32).toInt by show _ = (-1 : Int); omega)) h37
      · exact z
    have hpast : ((I 49 37).toInt.toNat : Int) = (I 49 37).toInt := Int.toNat_of_nonneg h37'.1
    obtain ⟨a1, a2⟩ := w7 (I 49 37).toInt.toNat (by omega)
    have a1 : I 10 (I 49 37).toInt.toNat = I 49 (27 + 2 * (I 49 37).toInt.toNat) := a1
    have a3 := v5 (I 49 37).toInt.toNat (by omega)
    have hsum : (I 49 38 + x).toInt = (I 49 38).toInt + x.toInt := by rw [i_add]; omega
    have hcl : (I 49 38).toInt < (cel (I 49 0) (I 49 38) x).toInt ∧ (cel (I 49 0) (I 49 38) x).toInt ≤ (I 49 0).toInt := by
      unfold cel
      by_cases z : I 49 0 < I 49 38 + x
      · rw [if_pos z]; omega
      · rw [if_neg z]; rw [i_lt, hsum] at z; omega
    generalize hcc : cel (I 49 0) (I 49 38) x = cc at hcl
    generalize hkd : I 49 (27 + 2 * (I 49 37).toInt.toNat) = kd at a1 a3
    have hccN : cc.toInt.toNat < 16 := by omega
    have hwn : wn (I 49 39) < 6 := by unfold wn; omega
    generalize hll : lb kd (I 49 40) (I 49 (5 + cc.toInt.toNat)) (I 49 (21 + wn (I 49 39))) x = ll
    have hst : (I 49 39 + 1).toInt = (I 49 39).toInt + 1 := by
      have x1 : (1 : Int32).toInt = 1 := rfl
      rw [i_add, x1]; omega
    refine p_X8_keep u I J k2 k3 k5 _ (fun I1 hK => ?_)
    obtain ⟨c1, c2, c3, c4, c5, c6, c7⟩ := hK
    have f3 : I1 3 = I 3 := c1 3 (by omega)
    have f4 : I1 4 = I 4 := c1 4 (by omega)
    have f5 : I1 5 = I 5 := c1 5 (by omega)
    have g0 : I1 6 0 = I 49 37 := by rw [c2 0 (by decide), w37]
    have g1 : I1 6 1 = I 49 38 := by rw [c2 1 (by decide), w38]
    have g2 : I1 6 2 = I 49 39 := by rw [c2 2 (by decide), w39]
    have g3 : I1 6 3 = I 49 40 := by rw [c2 3 (by decide), w40]
    rw [g0, p_X10_kindOf _ _ _ h37', c1 10 (by omega), a1, p_X11_kind _ _ _ a3]
    rw [p_X8_go6 _ _ _ a3 (by rw [f3, w0, g1, hcc]; omega) (by rw [g2]; exact v8.1), f3, f4, f5, w0, g1, g2, g3, hcc, w5 _ hccN, w6 _ hwn, hll]
    have hl0 : ll + 0 = ll := by
      have x0 : (0 : Int32).toInt = 0 := rfl
      have := i_rg ll
      apply i_ext; rw [i_add, x0]; omega
    rw [hl0]
    refine ⟨rfl, ?_⟩
    generalize hI2 : zu (zu (zu I1 6 1 cc) 6 3 ll) 6 2 (I 49 39 + 1) = I2
    have n6 : ∀ a, a ≠ 6 → I2 a = I1 a := fun a ha => by rw [← hI2, zu_ne _ _ _ ha, zu_ne _ _ _ ha, zu_ne _ _ _ ha]
    have r0 : I2 6 0 = I 49 37 := by rw [← hI2, ← g0]; simp only [zu_rd, Nat.reduceEqDiff, reduceIte]
    have r1 : I2 6 1 = cc := by rw [← hI2]; simp only [zu_rd, Nat.reduceEqDiff, reduceIte]
    have r2 : I2 6 2 = I 49 39 + 1 := by rw [← hI2]; simp only [zu_rd, Nat.reduceEqDiff, reduceIte]
    have r3 : I2 6 3 = ll := by rw [← hI2]; simp only [zu_rd, Nat.reduceEqDiff, reduceIte]
    have r4 : I2 6 4 = nI (m + 1) := by rw [← hI2, ← c3]; simp only [zu_rd, Nat.reduceEqDiff, reduceIte]
    have e49 : I2 49 = I 49 := by rw [n6 49 (by decide), c1 49 (by omega)]
    rw [r1, e_X12_step, p_X12_isPace]
    refine ⟨fun _ => ?_, fun h => absurd h (by rw [bI_t hx']; decide)⟩
    rw [p_X12_isWalk, e49]
    refine ⟨fun h => absurd h37 (by rw [bI_0] at h; exact h), fun _ => ?_⟩
    rw [p_X12_isThere, e49]
    refine ⟨fun h => absurd (show I 49 38 = I 49 0 by rw [bI_0] at h; exact Classical.not_not.mp h) hn, fun _ => ⟨fun _ => ?_, fun h => absurd h (by rw [v9, bI_f hf]; decide)⟩⟩
    refine p_X12_keep u _ J (by rw [e49]; exact k1) k3 k5 _ (fun I3 hM => ?_)
    obtain ⟨m1, m2, m3, m4, m5⟩ := hM
    rw [e49] at m2 m4 m5
    refine p_X12_layStones u _ J _ ?_
    have l49 : lay I3 16 49 = I3 49 := by funext i; unfold lay; rw [if_neg (by omega)]
    have l53 : ∀ i, i < 16 → lay I3 16 53 i = I3 49 (5 + i) := fun i hi => by unfold lay; rw [if_pos ⟨rfl, hi⟩]
    have ln : ∀ a, a ≠ 53 → lay I3 16 a = I3 a := fun a ha => by funext i; unfold lay; rw [if_neg (fun z => ha z.1)]
    generalize lay I3 16 = I4 at l49 l53 ln ⊢
    have q49 : ∀ g, g ≠ 4 → g < 66 → I4 49 g = I 49 g := fun g g1 g2 => by rw [l49, m2 g g1 g2]
    rw [q49 37 (by decide) (by decide), p_X12_kindOf _ _ _ h37', q49 _ (by omega) (by omega), hkd]
    have z0 : I4 49 0 = I 49 0 := q49 0 (by decide) (by decide)
    have z1 : I4 49 1 = I 49 1 := q49 1 (by decide) (by decide)
    have z38 : I4 49 38 = I 49 38 := q49 38 (by decide) (by decide)
    have z39 : I4 49 39 = I 49 39 := q49 39 (by decide) (by decide)
    have z40 : I4 49 40 = I 49 40 := q49 40 (by decide) (by decide)
    have z21 : I4 49 (21 + wn (I 49 39)) = I 49 (21 + wn (I 49 39)) := q49 _ (by omega) (by omega)
    rw [z38, z39, z40, p_X12_leanBehind _ _ _ a3 (by rw [z0, hcc]; omega) v8.1, z0, hcc, l53 _ hccN, m2 _ (by omega) (by omega), z21, hll, z38, p_X12_cellBy, z0, hcc, z39, p_X12_falls]
    have hz1 : zu (zu (zu I4 49 38 cc) 49 39 (I 49 39 + 1)) 49 40 ll 49 1 = I 49 1 := by rw [← z1]; simp only [zu_rd, Nat.reduceEqDiff, reduceIte]
    rw [hz1]
    have fin : ∀ y : Int32, y = bI (fel (I 49 1) ll) → Q (zu (zu (zu (zu I4 49 38 cc) 49 39 (I 49 39 + 1)) 49 40 ll) 49 41 y) J cc cc := by
      intro y hy
      have b49 : ∀ g, ¬ (38 ≤ g ∧ g ≤ 41) → zu (zu (zu (zu I4 49 38 cc) 49 39 (I 49 39 + 1)) 49 40 ll) 49 41 y 49 g = I3 49 g := fun g hg => by
        rw [← l49]
        have x1 : g ≠ 38 := by omega
        have x2 : g ≠ 39 := by omega
        have x3 : g ≠ 40 := by omega
        have x4 : g ≠ 41 := by omega
        simp only [zu_rd, reduceIte, x1, x2, x3, x4]
      have bn : ∀ a, a ≠ 49 → zu (zu (zu (zu I4 49 38 cc) 49 39 (I 49 39 + 1)) 49 40 ll) 49 41 y a = I4 a := fun a ha => by rw [zu_ne _ _ _ ha, zu_ne _ _ _ ha, zu_ne _ _ _ ha, zu_ne _ _ _ ha]
      have b38 : zu (zu (zu (zu I4 49 38 cc) 49 39 (I 49 39 + 1)) 49 40 ll) 49 41 y 49 38 = cc := by simp only [zu_rd, Nat.reduceEqDiff, reduceIte]
      have b39 : zu (zu (zu (zu I4 49 38 cc) 49 39 (I 49 39 + 1)) 49 40 ll) 49 41 y 49 39 = I 49 39 + 1 := by simp only [zu_rd, Nat.reduceEqDiff, reduceIte]
      have b40 : zu (zu (zu (zu I4 49 38 cc) 49 39 (I 49 39 + 1)) 49 40 ll) 49 41 y 49 40 = ll := by simp only [zu_rd, Nat.reduceEqDiff, reduceIte]
      have b41 : zu (zu (zu (zu I4 49 38 cc) 49 39 (I 49 39 + 1)) 49 40 ll) 49 41 y 49 41 = y := by simp only [zu_rd, Nat.reduceEqDiff, reduceIte]
      generalize zu (zu (zu (zu I4 49 38 cc) 49 39 (I 49 39 + 1)) 49 40 ll) 49 41 y = I5 at b49 bn b38 b39 b40 b41 ⊢
      have n7 : ∀ a, a ≠ 49 → a ≠ 53 → a ≠ 6 → I5 a = I1 a := fun a ha h3 h6 => by rw [bn a ha, ln a h3, m1 a ha, n6 a h6]
      have n6' : I5 6 = I2 6 := by rw [bn 6 (by decide), ln 6 (by decide), m1 6 (by decide)]
      obtain ⟨pk, pb⟩ := past_ok hR k1 k3 k4 (I3 := I5)
          (fun i hi => by rw [n7 7 (by decide) (by decide) (by decide), n7 8 (by decide) (by decide) (by decide), n7 9 (by decide) (by decide) (by decide)]; exact c7 i hi)
          (by rw [n7 7 (by decide) (by decide) (by decide), n7 8 (by decide) (by decide) (by decide), n7 9 (by decide) (by decide) (by decide)]; exact ⟨c4, c5, c6⟩)
          (fun j hj => by rw [b49 _ (by omega), m4 j hj])
          (fun i hi => by rw [b49 _ (by omega), m5 i hi])
          (by rw [b49 4 (by omega), m3])
      have e53 : ∀ a, (fun a => if a = 53 then I5 53 else I a) a = if a = 53 then I5 53 else I a := fun _ => rfl
      have h49 : (fun a => if a = 53 then I5 53 else I a) 49 = I 49 := rfl
      refine hQ _ _ _ (Rl_walk (Rl_53 hR (I5 53)) (I' := I5) (fun a a1 a2 => ?_) (fun g g1 g2 g3 => ?_) ?_ ?_ ?_ ?_ ?_ pk ?_ ?_ ?_ ?_ ?_ pb)
      · by_cases h53 : a = 53
        · subst h53; rfl
        · rw [if_neg h53, n7 a a2 h53 (by omega), c1 a a1]
      · show I5 49 g = I 49 g
        rw [b49 g (by omega), m2 g g1 g3]
      · rw [n6', r4, b49 4 (by omega), m3]
      · rw [n6', r0, b49 37 (by omega), m2 37 (by decide) (by decide)]
      · rw [n6', r1, b38]
      · rw [n6', r2, b39]
      · rw [n6', r3, b40]
      · rw [b49 4 (by omega), m3, i_nI _ (by omega)]; omega
      · rw [b49 37 (by omega), m2 37 (by decide) (by decide)]; exact v6
      · rw [b38]; show _ ∧ _ ≤ (I 49 0).toInt; omega
      · rw [b38, b39, hst]; omega
      · rw [b41, b40]; exact hy
    refine ⟨fun h => ?_, fun h => ?_⟩
    · rw [g_X12_step_149]
      refine ⟨mI_in (k := 41) (by omega) (by omega), rfl, ?_⟩
      have := fin 0 (by rw [bI_f (by rw [bI_0] at h; exact h)])
      exact this
    · rw [g_X12_step_149]
      refine ⟨mI_in (k := 41) (by omega) (by omega), rfl, ?_⟩
      have := fin 1 (by rw [bI_t (by rw [bI_0] at h; exact Classical.not_not.mp h)])
      exact this
  · have hx' : ¬ (1 ≤ x.toInt ∧ x.toInt ≤ 3) := hx
    refine ⟨fun h => absurd (bI_f hx) h, fun _ => ?_⟩
    rw [p_X11_bad]
    refine ⟨rfl, ?_⟩
    rw [e_X12_step, p_X12_isPace]
    refine ⟨fun h => absurd (bI_f hx') h, fun _ => ?_⟩
    rw [p_X12_bad]
    exact ⟨rfl, hQ _ _ _ (Rl_bad hR)⟩
