/-! ===== crowned ===== -/
def sdx (w : Int64) : Int64 := ((w * 1103515245) + 12345) - ((w * 1103515245) + 12345) / 2147483648 * 2147483648
def sdp (w : Int64) : Int32 := ((sdx w / 65536) - (sdx w / 65536) / 3 * 3).toInt32 + 1
theorem sdx_rg {w : Int64} (h : 0 ≤ w.toInt ∧ w.toInt < 2147483648) : 0 ≤ (sdx w).toInt ∧ (sdx w).toInt < 2147483648 := by
  have c1 : (1103515245 : Int64).toInt = 1103515245 := rfl
  have c2 : (12345 : Int64).toInt = 12345 := rfl
  have c3 : (2147483648 : Int64).toInt = 2147483648 := rfl
  have m1 : (w * 1103515245).toInt = w.toInt * 1103515245 := by rw [j_mul, c1]; omega
  have m2 : (w * 1103515245 + 12345).toInt = w.toInt * 1103515245 + 12345 := by rw [j_add, m1, c2]; omega
  unfold sdx
  generalize w * 1103515245 + 12345 = a at m2 ⊢
  have ha : 0 ≤ a.toInt ∧ a.toInt < 2400000000000000000 := by omega
  have m3 : (a / 2147483648).toInt = a.toInt / 2147483648 := by rw [j_div ha.1 (by rw [c3]; omega), c3]
  have m4 : (a / 2147483648 * 2147483648).toInt = a.toInt / 2147483648 * 2147483648 := by rw [j_mul, m3, c3]; omega
  clear m1 m2 m3 h
  have h5 : 0 ≤ a.toInt - a.toInt / 2147483648 * 2147483648 ∧ a.toInt - a.toInt / 2147483648 * 2147483648 < 2147483648 := by omega
  rw [j_sub, m4]
  generalize a.toInt - a.toInt / 2147483648 * 2147483648 = b at h5 ⊢
  omega
theorem sdx_e (w : Int64) : sdx w = ((w * 1103515245) + 12345) - ((w * 1103515245) + 12345) / 2147483648 * 2147483648 := by unfold sdx; rfl
theorem sdp_e (w : Int64) : sdp w = ((sdx w / 65536) - (sdx w / 65536) / 3 * 3).toInt32 + 1 := by unfold sdp; rfl
theorem j_31 : ¬ (2147483648 : Int64) = 0 := by
  intro h; have h2 := congrArg Int64.toInt h
  have c : (2147483648 : Int64).toInt = 2147483648 := rfl
  have z : (0 : Int64).toInt = 0 := rfl
  omega
theorem j_16 : ¬ (65536 : Int64) = 0 := by
  intro h; have h2 := congrArg Int64.toInt h
  have c : (65536 : Int64).toInt = 65536 := rfl
  have z : (0 : Int64).toInt = 0 := rfl
  omega
theorem j_3 : ¬ (3 : Int64) = 0 := by
  intro h; have h2 := congrArg Int64.toInt h
  have c : (3 : Int64).toInt = 3 := rfl
  have z : (0 : Int64).toInt = 0 := rfl
  omega
theorem j_i32 {a : Int64} (h : 0 ≤ a.toInt ∧ a.toInt < 2147483648) : (a.toInt32).toInt = a.toInt := by
  rw [Int64.toInt_toInt32]; show Int.bmod a.toInt (2 ^ 32) = _
  rw [Int.bmod_eq_of_le] <;> omega
theorem sdp_rg {w : Int64} (h : 0 ≤ w.toInt ∧ w.toInt < 2147483648) : 1 ≤ (sdp w).toInt ∧ (sdp w).toInt ≤ 3 := by
  have hx := sdx_rg h
  unfold sdp
  generalize sdx w = a at hx ⊢
  have c1 : (65536 : Int64).toInt = 65536 := rfl
  have c3 : (3 : Int64).toInt = 3 := rfl
  have m1 : (a / 65536).toInt = a.toInt / 65536 := by rw [j_div hx.1 (by rw [c1]; omega), c1]
  generalize a / 65536 = b at m1 ⊢
  have hb : 0 ≤ b.toInt ∧ b.toInt < 100000 := by omega
  have m3 : (b / 3).toInt = b.toInt / 3 := by rw [j_div hb.1 (by rw [c3]; omega), c3]
  have m4 : (b / 3 * 3).toInt = b.toInt / 3 * 3 := by rw [j_mul, m3, c3]; omega
  have m5 : (b - b / 3 * 3).toInt = b.toInt - b.toInt / 3 * 3 := by rw [j_sub, m4]; omega
  have m6 : ((b - b / 3 * 3).toInt32).toInt = b.toInt - b.toInt / 3 * 3 := by rw [j_i32 (by rw [m5]; omega), m5]
  have c5 : (1 : Int32).toInt = 1 := rfl
  rw [i_add, m6, c5]; omega
noncomputable def crn (N H kd : Int32) (cb wd : Nat → Int32) : Nat → Nat → (Int32 × Int32) × Int64 → (Int32 × Int32) × Int64
  | 0, _, s => s
  | f + 1, k, s => cIf (ovr N H s.1) s (crn N H kd cb wd f (k + 1) (stp N kd cb wd k (sdp s.2) 0 s.1, sdx s.2))
theorem crn_over {N H kd : Int32} {cb wd : Nat → Int32} {f k : Nat} {s : (Int32 × Int32) × Int64} (h : ovr N H s.1) : crn N H kd cb wd f k s = s := by
  cases f with
  | zero => rfl
  | succ f => show cIf _ _ _ = _; exact cIf_t h
theorem crn_step {N H kd : Int32} {cb wd : Nat → Int32} {f k : Nat} {s : (Int32 × Int32) × Int64} (h : ¬ ovr N H s.1) : crn N H kd cb wd (f + 1) k s = crn N H kd cb wd f (k + 1) (stp N kd cb wd k (sdp s.2) 0 s.1, sdx s.2) := by
  show cIf _ _ _ = _; exact cIf_f h
noncomputable def cr1 (n : Nat → Int32) (kd set : Int32) (w : Int64) : (Int32 × Int32) × Int64 := crn (n 0) (n 1) kd (fun c => n (5 + c)) (fun i => n (21 + i)) 15 0 ((0, set), w)
noncomputable def crw (n : Nat → Int32) (kd set : Int32) (w : Int64) : Nat → Int32 × Int64
  | 0 => (0, w)
  | k + 1 => ((crw n kd set w k).1 + bI (¬ fel (n 1) (cr1 n kd set (crw n kd set w k).2).1.2), (cr1 n kd set (crw n kd set w k).2).2)
def g_crw (x1 x2 x3 : Int32) (n : Nat → Int32) : Prop := (0 ≤ x1.toInt ∧ x1.toInt ≤ (n 2 - 1).toInt) ∧ (0 ≤ x2.toInt ∧ x2.toInt ≤ 999999) ∧ (0 ≤ x3.toInt ∧ x3.toInt ≤ 60)
noncomputable def a_crw (x1 x2 x3 : Int32) (n : Nat → Int32) : Int32 := (crw n (n (27 + 2 * x1.toInt.toNat)) (n (28 + 2 * x1.toInt.toNat)) x2.toInt64 x3.toInt.toNat).1
variable {u : Nat} {I : ZI} {J : ZJ}
theorem c_crowned (x1 x2 x3 : Int32) (I : ZI) (q : YQi) (hW : Wd 2 I (I 49)) (hV : Vd (I 49)) (hn : ¬ g_crw x1 x2 x3 (I 49) → q (zu I 0 10 (I 0 10 + 1)) J (-2)) (hy : g_crw x1 x2 x3 (I 49) → ∀ I', Fr I I' → q I' J (a_crw x1 x2 x3 (I 49))) :
    u_X11_crowned [.ref 0, .int x1, .int x2, .int x3] (shp u) I J q := by
  have w2 : I 2 2 = I 49 2 := hW.2.2.1
  have no : ¬ g_crw x1 x2 x3 (I 49) → ∀ o1 o2 o3 o4 o5 o6 o7 o8 o9, b_X11_crowned_29 u_X11_isHead u_X11_within u_X11_bad u_X10_kindOf u_X11_kind u_X10_setOf u_X8_begin u_X8_isOver u_X8_go u_X8_isThrough u_X11_bit (qi (shp u) q) [some (.ref 0), o1, o2, o3, o4, o5, o6, o7, o8, o9] [] (shp u) I J := by
    intro h o1 o2 o3 o4 o5 o6 o7 o8 o9
    rw [g_X11_crowned_29, p_X11_bad]
    exact ⟨rfl, hn h⟩
  rw [e_X11_crowned, p_X11_isHead, w2]
  refine ⟨fun h => no (fun z => b0n h z.1) _ _ _ _ _ _ _ _ _, fun h1 => ?_⟩
  rw [p_X11_within]
  refine ⟨fun h => no (fun z => b0n h z.2.1) _ _ _ _ _ _ _ _ _, fun h2 => ?_⟩
  rw [p_X11_within]
  refine ⟨fun h3 => ?_, fun h => no (fun z => b0n h z.2.2) _ _ _ _ _ _ _ _ _⟩
  have g1 := b0p h1
  have g2 : 0 ≤ x2.toInt ∧ x2.toInt ≤ 999999 := b0p h2
  have g3 : 0 ≤ x3.toInt ∧ x3.toInt ≤ 60 := b0p h3
  obtain ⟨k1, k2, k3⟩ := hd_of hV g1
  obtain ⟨e10, e11⟩ := hdW hW k2
  have fin := hy ⟨g1, g2, g3⟩
  unfold a_crw at fin
  have hR := Rd_of hW hV
  have hN := hV.1
  rw [p_X10_kindOf _ _ _ k1, e10, p_X11_kind _ _ _ k3]
  generalize hkd : I 49 (27 + 2 * x1.toInt.toNat) = kd at e10 k3 fin ⊢
  generalize hset : I 49 (28 + 2 * x1.toInt.toNat) = set at e11 fin
  have ex3 : x3 = nI x3.toInt.toNat := mI_of g3.1
  generalize hm : x3.toInt.toNat = m at ex3 fin
  have hm60 : m ≤ 60 := by omega
  rw [ex3]
  refine zlp m (fun k L I' J' => (∃ o2 o6 o9, L = [some (.ref 0), some (.int x1), o2, some (.int (nI m)), some (.ref (42 + kd.toInt.toNat)), some (.long (crw (I 49) kd set x2.toInt64 k).2), o6, some (.int (crw (I 49) kd set x2.toInt64 k).1), some (.int (nI k)), o9]) ∧ (0 ≤ (crw (I 49) kd set x2.toInt64 k).2.toInt ∧ (crw (I 49) kd set x2.toInt64 k).2.toInt < 2147483648) ∧ F33 I I' ∧ J' = J) ?_ ?_ _ _ _ ⟨⟨_, _, _, rfl⟩, by show 0 ≤ (x2.toInt64).toInt ∧ (x2.toInt64).toInt < _; rw [ij_to]; omega, fun _ _ => rfl, rfl⟩
  · rintro k hk r L I' J' ⟨⟨o2, o6, o9, rfl⟩, hw, hF, rfl⟩ hr
    have hc1 : crw (I 49) kd set x2.toInt64 (k + 1) = ((crw (I 49) kd set x2.toInt64 k).1 + bI (¬ fel (I 49 1) (cr1 (I 49) kd set (crw (I 49) kd set x2.toInt64 k).2).1.2), (cr1 (I 49) kd set (crw (I 49) kd set x2.toInt64 k).2).2) := rfl
    generalize crw (I 49) kd set x2.toInt64 k = W at hw hc1 ⊢
    rw [g_X11_crowned_60]
    refine ⟨fun h => absurd h (mI_ge hk (by omega)), fun _ => ?_⟩
    rw [p_X10_setOf _ _ _ k1, hF 11 (by decide), e11, e_X8_begin]
    refine ⟨rfl, ?_⟩
    generalize hI1 : zu (zu (zu (zu (zu I' 33 0 x1) 33 1 0) 33 2 0) 33 3 set) 33 4 0 = I1
    have hF1 : F33 I I1 := fun a ha => by rw [← hI1, zu_ne _ _ _ ha, zu_ne _ _ _ ha, zu_ne _ _ _ ha, zu_ne _ _ _ ha, zu_ne _ _ _ ha, hF a ha]
    have hT1 : Tc I1 (I 49 0) (0, set) 0 := by
      rw [← hI1]
      refine ⟨?_, ?_, ?_, Int.le_refl 0, by show (0 : Int) ≤ _; have := hV.1; omega⟩
      · simp only [zu_rd, Nat.reduceEqDiff, reduceIte]
      · simp only [zu_rd, Nat.reduceEqDiff, reduceIte]
      · simp only [zu_rd, Nat.reduceEqDiff, reduceIte]; rfl
    clear hI1
    have stop : ∀ (I5 : ZI) (s : (Int32 × Int32) × Int64) (i : Nat) (o2 o6 o9 : Option Value), Tc I5 (I 49 0) s.1 i → F33 I I5 → ovr (I 49 0) (I 49 1) s.1 → (0 ≤ s.2.toInt ∧ s.2.toInt < 2147483648) → cr1 (I 49) kd set W.2 = s → b_X11_crowned_162 u_X11_isHead u_X11_within u_X11_bad u_X10_kindOf u_X11_kind u_X10_setOf u_X8_begin u_X8_isOver u_X8_go u_X8_isThrough u_X11_bit (qi (shp u) q) r [some (.ref 0), some (.int x1), o2, some (.int (nI m)), some (.ref (42 + kd.toInt.toNat)), some (.long s.2), o6, some (.int W.1), some (.int (nI k)), o9] [] (shp u) I5 J' := by
      intro I5 s i o2 o6 o9 hT hF5 hov hs2 he
      have f3 : I5 3 = I 3 := hF5 3 (by decide)
      have e30 : I 3 0 = I 49 0 := hW.1
      have e31 : I 3 1 = I 49 1 := hW.2.1
      rw [g_X11_crowned_162, p_X8_isThrough, p_X11_bit, f3, e30, e31, hT.1, hT.2.1, mI_one]
      have hp : (I 49 0 ≤ s.1.1 ∧ ¬ fel (I 49 1) s.1.2) = (¬ fel (I 49 1) s.1.2) := propext ⟨fun z => z.2, fun z => ⟨hov.elim id (fun y => absurd y z), z⟩⟩
      rw [hp]
      refine hr _ _ _ ⟨⟨none, none, none, ?_⟩, ?_, hF5, rfl⟩
      · rw [hc1, he]
      · rw [hc1, he]; exact hs2
    refine zlp 15 (fun i L I' J'' => (∃ o2 o6 s, L = [some (.ref 0), some (.int x1), o2, some (.int (nI m)), some (.ref (42 + kd.toInt.toNat)), some (.long s.2), o6, some (.int W.1), some (.int (nI k)), some (.int (nI i))] ∧ Tc I' (I 49 0) s.1 i ∧ (i : Int) ≤ s.1.1.toInt ∧ (0 ≤ s.2.toInt ∧ s.2.toInt < 2147483648) ∧ cr1 (I 49) kd set W.2 = crn (I 49 0) (I 49 1) kd (fun c => I 49 (5 + c)) (fun i => I 49 (21 + i)) (15 - i) i s) ∧ F33 I I' ∧ J'' = J') ?_ ?_ _ _ _ ⟨⟨_, _, ((0, set), W.2), rfl, hT1, Int.le_refl 0, hw, rfl⟩, hF1, rfl⟩
    · rintro i hi r2 L I5 J'' ⟨⟨o2, o6, s, rfl, hT, hc, hs2, he⟩, hF5, rfl⟩ hr2
      have hR' : Rd I5 (I 49 0) (I 49 1) (fun c => I 49 (5 + c)) (fun i => I 49 (21 + i)) := Rd_fr hR (hF5 3 (by decide)) (hF5 4 (by decide)) (hF5 5 (by decide))
      rw [g_X11_crowned_86, ← sdx_e, ← sdp_e]
      refine ⟨fun h => absurd (show nI 15 ≤ nI i from h) (mI_ge hi (by omega)), fun _ => ?_⟩
      rw [ov_c u I5 J'' hR' hT]
      refine ⟨fun h => ?_, fun h => ⟨j_31, j_16, j_3, ?_⟩⟩
      · exact stop I5 s i _ _ _ hT hF5 (b0p h) hs2 (by rw [he, crn_over (b0p h)])
      · have hp := sdp_rg hs2
        have hx := sdx_rg hs2
        have hst := crn_step (f := 15 - (i + 1)) (k := i) (kd := kd) (cb := fun c => I 49 (5 + c)) (wd := fun i => I 49 (21 + i)) (b0n h)
        generalize sdp s.2 = p at hp hst ⊢
        generalize sdx s.2 = w' at hx hst ⊢
        have hp10 : 0 ≤ p.toInt ∧ p.toInt ≤ 10 := by omega
        have hp11 : 1 ≤ p.toInt ∧ p.toInt ≤ 10 := by omega
        have hadv : ((i + 1 : Nat) : Int) ≤ (stp (I 49 0) kd (fun c => I 49 (5 + c)) (fun i => I 49 (21 + i)) i p 0 s.1).1.toInt := stp_adv hN ⟨hT.2.2.2.1, hT.2.2.2.2⟩ hp11 (b0n h) hc
        have hi9 : i < 900 := by omega
        refine go_c u I5 J'' hR' hT k3 (p := p) hp10 hi9 0 _ (fun I6 hF6 hT6 => ?_)
        generalize stp (I 49 0) kd (fun c => I 49 (5 + c)) (fun i => I 49 (21 + i)) i p 0 s.1 = s' at hT6 hadv hst
        rw [mI_one]
        refine hr2 _ _ _ ⟨⟨none, none, (s', w'), rfl, hT6, hadv, hx, ?_⟩, fun a ha => by rw [hF6 a ha, hF5 a ha], rfl⟩
        have h9 : 15 - i = (15 - (i + 1)) + 1 := by omega
        rw [he, h9, hst]
    · rintro r2 L I5 J'' ⟨⟨o2, o6, s, rfl, hT, hc, hs2, he⟩, hF5, rfl⟩
      rw [g_X11_crowned_86]
      refine ⟨fun _ => ?_, fun h => absurd (mI_rf 15) h⟩
      exact stop I5 s 15 _ _ _ hT hF5 (ovr_15 hN hc) hs2 (by rw [he]; rfl)
  · rintro r L I' J' ⟨⟨o2, o6, o9, rfl⟩, hw, hF, rfl⟩
    rw [g_X11_crowned_60]
    exact ⟨fun _ => ⟨rfl, fin I' (Fr_33 hF)⟩, fun h => absurd (mI_rf m) h⟩
theorem m_crowned (x1 x2 x3 : Int32) (I : ZI) (q : YQi) (hV : Vd (I 49)) (hn : ¬ g_crw x1 x2 x3 (I 49) → q (zu I 52 0 (I 52 0 + 1)) J (-2)) (hy : g_crw x1 x2 x3 (I 49) → ∀ I', Fr I I' → q I' J (a_crw x1 x2 x3 (I 49))) :
    u_X12_crowned [.ref 48, .int x1, .int x2, .int x3] (shp u) I J q := by
  have no : ¬ g_crw x1 x2 x3 (I 49) → ∀ o1 o2 o3 o4 o5 o6 o7, b_X12_crowned_32 u_X12_isHead u_X12_in u_X12_bad u_X12_setOf u_X12_beginAt u_X12_isOver u_X12_kindOf u_X12_goStep u_X12_falls (qi (shp u) q) [some (.ref 48), o1, o2, o3, o4, o5, o6, o7] [] (shp u) I J := by
    intro h o1 o2 o3 o4 o5 o6 o7
    rw [g_X12_crowned_32, p_X12_bad]
    exact ⟨rfl, hn h⟩
  rw [e_X12_crowned, p_X12_isHead]
  refine ⟨fun h => no (fun z => b0n h z.1) _ _ _ _ _ _ _, fun h1 => ?_⟩
  rw [p_X12_in, ij_to]
  refine ⟨fun h => no (fun z => b0n h z.2.1) _ _ _ _ _ _ _, fun h2 => ?_⟩
  rw [p_X12_in, ij_to]
  refine ⟨fun h3 => ?_, fun h => no (fun z => b0n h z.2.2) _ _ _ _ _ _ _⟩
  have g1 := b0p h1
  have g2 : 0 ≤ x2.toInt ∧ x2.toInt ≤ 999999 := b0p h2
  have g3 : 0 ≤ x3.toInt ∧ x3.toInt ≤ 60 := b0p h3
  obtain ⟨k1, k2, k3⟩ := hd_of hV g1
  have fin := hy ⟨g1, g2, g3⟩
  unfold a_crw at fin
  have hN := hV.1
  generalize hkd : I 49 (27 + 2 * x1.toInt.toNat) = kd at k3 fin
  generalize hset : I 49 (28 + 2 * x1.toInt.toNat) = set at fin
  have ex3 : x3 = nI x3.toInt.toNat := mI_of g3.1
  generalize hm : x3.toInt.toNat = m at ex3 fin
  have hm60 : m ≤ 60 := by omega
  rw [ex3]
  refine zlp m (fun k L I' J' => (∃ o2 o5, L = [some (.ref 48), some (.int x1), o2, some (.int (nI m)), some (.long (crw (I 49) kd set x2.toInt64 k).2), o5, some (.int (crw (I 49) kd set x2.toInt64 k).1), some (.int (nI k))]) ∧ (0 ≤ (crw (I 49) kd set x2.toInt64 k).2.toInt ∧ (crw (I 49) kd set x2.toInt64 k).2.toInt < 2147483648) ∧ FM I I' ∧ J' = J) ?_ ?_ _ _ _ ⟨⟨_, _, rfl⟩, by show 0 ≤ (x2.toInt64).toInt ∧ (x2.toInt64).toInt < _; rw [ij_to]; omega, ⟨fun _ _ _ => rfl, fun _ _ _ _ => rfl⟩, rfl⟩
  · rintro k hk r L I' J' ⟨⟨o2, o5, rfl⟩, hw, hF, rfl⟩ hr
    have e49 : I' 49 = I 49 := hF.1 49 (by decide) (by decide)
    have hc1 : crw (I 49) kd set x2.toInt64 (k + 1) = ((crw (I 49) kd set x2.toInt64 k).1 + bI (¬ fel (I 49 1) (cr1 (I 49) kd set (crw (I 49) kd set x2.toInt64 k).2).1.2), (cr1 (I 49) kd set (crw (I 49) kd set x2.toInt64 k).2).2) := rfl
    generalize crw (I 49) kd set x2.toInt64 k = W at hw hc1 ⊢
    rw [g_X12_crowned_49]
    refine ⟨fun h => absurd h (mI_ge hk (by omega)), fun _ => ?_⟩
    rw [p_X12_setOf _ _ _ k1, e49, hset]
    refine p_X12_beginAt u I' J' (Mw_of (I := I') (by rw [e49]; exact hV)) _ (fun I4 hF4 hM4 hT4 => ?_)
    rw [e49] at hM4 hT4
    have hF4' : FM I I4 := ⟨fun a a1 a2 => by rw [hF4.1 a a1 a2, hF.1 a a1 a2], fun a a1 a2 a3 => by rw [hF4.2 a a1 a2 a3, hF.2 a a1 a2 a3]⟩
    have stop : ∀ (I5 : ZI) (s : (Int32 × Int32) × Int64) (i : Nat) (o2 o5 : Option Value), Tm I5 (I 49 0) s.1 i → Md I5 (I 49 0) (I 49 1) (fun c => I 49 (5 + c)) (fun i => I 49 (21 + i)) → FM I I5 → (0 ≤ s.2.toInt ∧ s.2.toInt < 2147483648) → cr1 (I 49) kd set W.2 = s → u_X12_falls [.ref 48, .int (I5 48 8)] (shp u) I5 J' (fun I2 J2 v2 => ((v2 = 0 → b_X12_crowned_132 u_X12_isHead u_X12_in u_X12_bad u_X12_setOf u_X12_beginAt u_X12_isOver u_X12_kindOf u_X12_goStep u_X12_falls (qi (shp u) q) r [some (.ref 48), some (.int x1), o2, some (.int (nI m)), some (.long s.2), o5, some (.int W.1), some (.int (nI k))] [.int 1, .int W.1] (shp u) I2 J2) ∧ (¬ v2 = 0 → b_X12_crowned_132 u_X12_isHead u_X12_in u_X12_bad u_X12_setOf u_X12_beginAt u_X12_isOver u_X12_kindOf u_X12_goStep u_X12_falls (qi (shp u) q) r [some (.ref 48), some (.int x1), o2, some (.int (nI m)), some (.long s.2), o5, some (.int W.1), some (.int (nI k))] [.int 0, .int W.1] (shp u) I2 J2))) := by
      intro I5 s i o2 o5 hT hM hF5 hs2 he
      rw [p_X12_falls, hM.2.1, hT.2.1]
      refine ⟨fun z => ?_, fun z => ?_⟩
      · rw [g_X12_crowned_132, mI_one]
        refine hr _ _ _ ⟨⟨none, none, ?_⟩, ?_, hF5, rfl⟩
        · rw [hc1, he, bI_t (b0n z)]
        · rw [hc1, he]; exact hs2
      · rw [g_X12_crowned_132, mI_one]
        refine hr _ _ _ ⟨⟨none, none, ?_⟩, ?_, hF5, rfl⟩
        · rw [hc1, he, bI_f (fun y => y (b0p z))]
        · rw [hc1, he]; exact hs2
    refine zlp 15 (fun i L I' J'' => (∃ o2 o5 s, L = [some (.ref 48), some (.int x1), o2, some (.int (nI m)), some (.long s.2), o5, some (.int W.1), some (.int (nI k))] ∧ Tm I' (I 49 0) s.1 i ∧ Md I' (I 49 0) (I 49 1) (fun c => I 49 (5 + c)) (fun i => I 49 (21 + i)) ∧ (i : Int) ≤ s.1.1.toInt ∧ (0 ≤ s.2.toInt ∧ s.2.toInt < 2147483648) ∧ cr1 (I 49) kd set W.2 = crn (I 49 0) (I 49 1) kd (fun c => I 49 (5 + c)) (fun i => I 49 (21 + i)) (15 - i) i s) ∧ FM I I' ∧ J'' = J') ?_ ?_ _ _ _ ⟨⟨_, _, ((0, set), W.2), rfl, hT4, hM4, Int.le_refl 0, hw, rfl⟩, hF4', rfl⟩
    · rintro i hi r2 L I5 J'' ⟨⟨o2, o5, s, rfl, hT, hM, hc, hs2, he⟩, hF5, rfl⟩ hr2
      have e5 : I5 49 = I 49 := hF5.1 49 (by decide) (by decide)
      rw [g_X12_crowned_64, ov_m u I5 J'' hM hT]
      simp only [← sdx_e, ← sdp_e]
      refine ⟨fun h => ?_, fun h => ⟨j_31, ?_⟩⟩
      · exact stop I5 s i _ _ hT hM hF5 hs2 (by rw [he, crn_over (b0p h)])
      · rw [p_X12_kindOf _ _ _ k1, e5, hkd]
        have hp := sdp_rg hs2
        have hx := sdx_rg hs2
        have hst := crn_step (f := 15 - (i + 1)) (k := i) (kd := kd) (cb := fun c => I 49 (5 + c)) (wd := fun i => I 49 (21 + i)) (b0n h)
        generalize sdp s.2 = p at hp hst ⊢
        generalize sdx s.2 = w' at hx hst ⊢
        refine ⟨j_16, j_3, ?_⟩
        have hp10 : 0 ≤ p.toInt ∧ p.toInt ≤ 10 := by omega
        have hp11 : 1 ≤ p.toInt ∧ p.toInt ≤ 10 := by omega
        have hadv : ((i + 1 : Nat) : Int) ≤ (stp (I 49 0) kd (fun c => I 49 (5 + c)) (fun i => I 49 (21 + i)) i p 0 s.1).1.toInt := stp_adv hN ⟨hT.2.2.2.1, hT.2.2.2.2⟩ hp11 (b0n h) hc
        have hi9 : 0 + i < 900 := by omega
        refine go_m u I5 J'' (t := 0) hM hT k3 (p := p) hp10 hi9 0 _ (fun I6 hF6 hT6 => ?_)
        rw [Nat.zero_add] at hT6
        generalize stp (I 49 0) kd (fun c => I 49 (5 + c)) (fun i => I 49 (21 + i)) i p 0 s.1 = s' at hT6 hadv hst
        refine hr2 _ _ _ ⟨⟨none, none, (s', w'), rfl, hT6, Md_fr hM (hF6.1 49 (by decide)) (hF6.1 53 (by decide)), hadv, hx, ?_⟩, FM_48 hF5 hF6, rfl⟩
        have h9 : 15 - i = (15 - (i + 1)) + 1 := by omega
        rw [he, h9, hst]
    · rintro r2 L I5 J'' ⟨⟨o2, o5, s, rfl, hT, hM, hc, hs2, he⟩, hF5, rfl⟩
      rw [g_X12_crowned_64, ov_m u I5 J'' hM hT]
      refine ⟨fun h => ?_, fun h => absurd (ovr_15 hN hc) (b0n h)⟩
      exact stop I5 s 15 _ _ hT hM hF5 hs2 (by rw [he]; rfl)
  · rintro r L I' J' ⟨⟨o2, o5, rfl⟩, hw, hF, rfl⟩
    rw [g_X12_crowned_49]
    exact ⟨fun _ => ⟨rfl, fin I' (Fr_M hF)⟩, fun h => absurd (mI_rf m) h⟩
theorem o_crowned (hR : Rl u I J) (x1 x2 x3 : Int32) (Q : ZI → ZJ → Int32 → Int32 → Prop) (hQ : ∀ I' J' v, Rl u I' J' → Q I' J' v v) :
    u_X11_crowned [.ref 0, .int x1, .int x2, .int x3] (shp u) I J (fun I1 J1 v1 => u_X12_crowned [.ref 48, .int x1, .int x2, .int x3] (shp u) I1 J1 (fun I2 J2 v2 => Q I2 J2 v1 v2)) :=
  qj hR (c_crowned x1 x2 x3) (m_crowned x1 x2 x3) Q hQ
