/-! ===== paces ===== -/
variable {u : Nat} {I : ZI} {J : ZJ}
def g_pac (x1 x2 x3 x4 : Int32) (n : Nat → Int32) : Prop := (0 ≤ x1.toInt ∧ x1.toInt ≤ (n 2 - 1).toInt) ∧ (0 ≤ x2.toInt ∧ x2.toInt ≤ 5) ∧ vr x3 ∧ (0 ≤ x4.toInt ∧ x4.toInt ≤ 3)
noncomputable def a_pac (x1 x2 x3 x4 : Int32) (n : Nat → Int32) : Int32 :=
  if x4 = 0 then (rw0 n (n (27 + 2 * x1.toInt.toNat)) (n (28 + 2 * x1.toInt.toNat)) x2.toInt.toNat x3.toInt.toNat (-1) 0).1.1
  else if x4 = 1 then (rw0 n (n (27 + 2 * x1.toInt.toNat)) (n (28 + 2 * x1.toInt.toNat)) x2.toInt.toNat x3.toInt.toNat (-1) 0).1.2
  else if x4 = 2 then nI (rw0 n (n (27 + 2 * x1.toInt.toNat)) (n (28 + 2 * x1.toInt.toNat)) x2.toInt.toNat x3.toInt.toNat (-1) 0).2
  else bI (fel (n 1) (rw0 n (n (27 + 2 * x1.toInt.toNat)) (n (28 + 2 * x1.toInt.toNat)) x2.toInt.toNat x3.toInt.toNat (-1) 0).1.2)
theorem c_paces (x1 x2 x3 x4 : Int32) (I : ZI) (q : YQi) (hW : Wd 2 I (I 49)) (hV : Vd (I 49)) (hn : ¬ g_pac x1 x2 x3 x4 (I 49) → q (zu I 0 10 (I 0 10 + 1)) J (-100)) (hy : g_pac x1 x2 x3 x4 (I 49) → ∀ I', Fr I I' → q I' J (a_pac x1 x2 x3 x4 (I 49))) :
    u_X11_paces [.ref 0, .int x1, .int x2, .int x3, .int x4] (shp u) I J q := by
  have w2 : I 2 2 = I 49 2 := hW.2.2.1
  have no : ¬ g_pac x1 x2 x3 x4 (I 49) → b_X11_paces_32 u_X11_isHead u_X11_isStep u_X11_isRow u_X11_within u_X11_bad u_X10_kindOf u_X11_tryRow u_X8_isFallen u_X11_bit (qi (shp u) q) [some (.ref 0), some (.int x1), some (.int x2), some (.int x3), some (.int x4)] [] (shp u) I J := by
    intro h
    rw [g_X11_paces_32, p_X11_bad]
    exact ⟨rfl, hn h⟩
  rw [e_X11_paces, p_X11_isHead, w2]
  refine ⟨fun h => no (fun z => b0n h z.1), fun h1 => ?_⟩
  rw [p_X11_isStep]
  refine ⟨fun h => no (fun z => b0n h z.2.1), fun h2 => ?_⟩
  refine p_X11_isRow _ _ _ _ _ ?_
  refine ⟨fun h => no (fun z => b0n h z.2.2.1), fun h3 => ?_⟩
  rw [p_X11_within]
  refine ⟨fun h4 => ?_, fun h => no (fun z => b0n h z.2.2.2)⟩
  have g1 := b0p h1
  have g2 := b0p h2
  have g3 := b0p h3
  have g4 := b0p h4
  obtain ⟨k1, k2, k3⟩ := hd_of hV g1
  have e10 := (hdW hW k2).1
  rw [p_X10_kindOf _ _ _ k1, e10]
  refine c_row hW hV k3 g1 g2 g3 _ _ _ (fun I' s k hF hr hT => ?_)
  have ha := hy ⟨g1, g2, g3, g4⟩ I' (Fr_33 hF)
  unfold a_pac at ha
  rw [hr] at ha
  obtain ⟨t1, t2, t3, t4, t5⟩ := hT
  refine ⟨fun z => ⟨rfl, ?_⟩, fun z => ⟨fun z1 => ⟨rfl, ?_⟩, fun z1 => ⟨fun z2 => ⟨rfl, ?_⟩, fun z2 => ?_⟩⟩⟩
  · rw [if_pos z] at ha; rw [t1]; exact ha
  · rw [if_neg z, if_pos z1] at ha; rw [t2]; exact ha
  · rw [if_neg z, if_neg z1, if_pos z2] at ha
    have es : I' 33 2 - x2 = nI k := by
      have e2 : x2 = nI x2.toInt.toNat := mI_of g2.1
      rw [t3, e2, i_nI _ (by omega)]
      show nI (((x2.toInt.toNat : Nat) : Int).toNat + k) - nI x2.toInt.toNat = nI k
      rw [Int.toNat_natCast, Nat.add_comm, ← mI_add]
      exact Int32.add_sub_cancel _ _
    rw [es]; exact ha
  · rw [if_neg z, if_neg z1, if_neg z2] at ha
    rw [p_X8_isFallen, p_X11_bit]
    have f3 : I' 3 = I 3 := hF 3 (by decide)
    have e31 : I 3 1 = I 49 1 := hW.2.1
    rw [f3, e31, t2]
    refine ⟨rfl, ?_⟩
    exact ha
theorem m_paces (x1 x2 x3 x4 : Int32) (I : ZI) (q : YQi) (hV : Vd (I 49)) (hn : ¬ g_pac x1 x2 x3 x4 (I 49) → q (zu I 52 0 (I 52 0 + 1)) J (-100)) (hy : g_pac x1 x2 x3 x4 (I 49) → ∀ I', Fr I I' → q I' J (a_pac x1 x2 x3 x4 (I 49))) :
    u_X12_paces [.ref 48, .int x1, .int x2, .int x3, .int x4] (shp u) I J q := by
  have no : ¬ g_pac x1 x2 x3 x4 (I 49) → b_X12_paces_35 u_X12_isHead u_X12_isStep u_X12_isRow u_X12_in u_X12_bad u_X12_kindOf u_X12_setOf u_X12_goRow u_X12_falls (qi (shp u) q) [some (.ref 48), some (.int x1), some (.int x2), some (.int x3), some (.int x4)] [] (shp u) I J := by
    intro h
    rw [g_X12_paces_35, p_X12_bad]
    exact ⟨rfl, hn h⟩
  rw [e_X12_paces, p_X12_isHead]
  refine ⟨fun h => no (fun z => b0n h z.1), fun h1 => ?_⟩
  rw [p_X12_isStep]
  refine ⟨fun h => no (fun z => b0n h z.2.1), fun h2 => ?_⟩
  refine p_X12_isRow _ _ _ _ _ ?_
  refine ⟨fun h => no (fun z => b0n h z.2.2.1), fun h3 => ?_⟩
  rw [p_X12_in, ij_to]
  refine ⟨fun h4 => ?_, fun h => no (fun z => b0n h z.2.2.2)⟩
  have g1 := b0p h1
  have g2 := b0p h2
  have g3 := b0p h3
  have g4 := b0p h4
  obtain ⟨k1, k2, k3⟩ := hd_of hV g1
  rw [p_X12_kindOf _ _ _ k1, p_X12_setOf _ _ _ k1]
  refine m_row hV k3 g2 g3 _ _ _ (fun I' s k hF hM hr hT => ?_)
  have ha := hy ⟨g1, g2, g3, g4⟩ I' (Fr_M hF)
  unfold a_pac at ha
  rw [hr] at ha
  obtain ⟨t1, t2, t3, t4, t5⟩ := hT
  refine ⟨fun z => ⟨fun z1 => ⟨fun z2 => ?_, fun z2 => ?_⟩, fun z1 => ?_⟩, fun z => ?_⟩
  · rw [p_X12_falls, hM.2.1, t2]
    rw [if_neg z, if_neg z1, if_neg z2] at ha
    refine ⟨fun y => ?_, fun y => ?_⟩
    · rw [g_X12_paces_114]; rw [bI_f (b0n y)] at ha; exact ⟨rfl, ha⟩
    · rw [g_X12_paces_114]; rw [bI_t (b0p y)] at ha; exact ⟨rfl, ha⟩
  · rw [if_neg z, if_neg z1, if_pos z2] at ha; rw [g_X12_paces_114, t3]; exact ⟨rfl, ha⟩
  · rw [if_neg z, if_pos z1] at ha; rw [g_X12_paces_114, t2]; exact ⟨rfl, ha⟩
  · rw [if_pos z] at ha; rw [g_X12_paces_114, t1]; exact ⟨rfl, ha⟩
theorem o_paces (hR : Rl u I J) (x1 x2 x3 x4 : Int32) (Q : ZI → ZJ → Int32 → Int32 → Prop) (hQ : ∀ I' J' v, Rl u I' J' → Q I' J' v v) :
    u_X11_paces [.ref 0, .int x1, .int x2, .int x3, .int x4] (shp u) I J (fun I1 J1 v1 => u_X12_paces [.ref 48, .int x1, .int x2, .int x3, .int x4] (shp u) I1 J1 (fun I2 J2 v2 => Q I2 J2 v1 v2)) :=
  qj hR (c_paces x1 x2 x3 x4) (m_paces x1 x2 x3 x4) Q hQ
