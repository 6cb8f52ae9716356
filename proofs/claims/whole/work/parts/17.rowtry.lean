/-! ===== a trial along a row ===== -/
variable (u : Nat) (I : ZI) (J : ZJ)
theorem p_X11_paceOf {r l : Nat} (hr : r < 1000000000) (hl : l < 9) (q : YQi) : u_X11_paceOf [.int (nI r), .int (nI l)] (shp u) I J q = q I J (nI (r / 10 ^ l % 10)) := by
  have hp := pow9 hl
  have hpos : 0 < 10 ^ l := Nat.pow_pos (by decide)
  have hle : r / 10 ^ l ≤ r := Nat.div_le_self _ _
  have hw : ((0 : Int32).toInt ≤ (nI l).toInt ∧ (nI l).toInt ≤ ((9 : Int32) - 1).toInt) = True := by
    have e : ((9 : Int32) - 1).toInt = 8 := by decide
    have e0 : (0 : Int32).toInt = 0 := rfl
    rw [i_nI l (by omega), e, e0]; simp; omega
  have h10 : ¬ ((10 : Int32) = 0) := by decide
  have hz : ¬ (nI (10 ^ l) = 0) := by rw [q0_nI (by omega)]; omega
  simp only [e_X11_paceOf, g_X11_paceOf_28, p_X11_within, hw, bI_0, mI_nat (show l < 2147483648 by omega), zTens_at hl, mI_in hl (show 9 < 2147483648 by omega), hz, h10, i_dn (show r < 2147483648 by omega) (show 10 ^ l < 2147483648 by omega) hpos, i_m10 (show r / 10 ^ l < 2147483648 by omega), eq_self, not_true, not_false_iff, Classical.not_not, true_implies, false_implies, and_true, true_and, and_self, if_true, if_false]
theorem mI_sub {a b : Nat} (h : b ≤ a) : nI a - nI b = nI (a - b) := by
  have : nI a = nI (a - b) + nI b := by rw [mI_add]; congr 1; omega
  rw [this]; exact Int32.add_sub_cancel _ _
theorem mI_pre {a : Nat} (h : 1 ≤ a) : nI a + (-1) = nI (a - 1) := by
  have e : nI a + (-1) = nI a - nI 1 := Int32.sub_eq_add_neg (nI a) (nI 1) ▸ rfl
  rw [e, mI_sub h]
theorem p_X12_paceOf {r i : Nat} (hr : r < 1000000000) (hi : i < fg r) (q : YQi) (hq : q I J (nI (pcn r i))) : u_X12_paceOf [.int (nI r), .int (nI i)] (shp u) I J q := by
  rw [e_X12_paceOf]
  have hf : fg r ≤ 9 := mny_le 9 r
  refine p_X12_manyOf u I J hr _ ?_
  have e1 : nI (fg r) - 1 = nI (fg r - 1) := mI_sub (b := 1) (by omega)
  rw [e1]
  refine zlp (fg r - 1 - i) (fun k L I' J' => (∃ o, L = [o, some (.int (nI i)), some (.int (nI (r / 10 ^ k))), some (.int (nI (fg r - 1 - k)))]) ∧ I' = I ∧ J' = J) ?_ ?_ _ _ _ ⟨⟨_, by rw [Nat.pow_zero, Nat.div_one]; rfl⟩, rfl, rfl⟩
  · rintro k hk rr L I' J' ⟨⟨o, rfl⟩, rfl, rfl⟩ hr2
    have hle : r / 10 ^ k ≤ r := Nat.div_le_self _ _
    rw [g_X12_paceOf_9, mI_le (by omega) (by omega)]
    refine ⟨fun h => by omega, fun _ => ⟨by decide, ?_⟩⟩
    rw [i_d10 (by omega), mI_pre (by omega)]
    refine hr2 _ _ _ ⟨⟨none, ?_⟩, rfl, rfl⟩
    rw [Nat.div_div_eq_div_mul, ← Nat.pow_succ]
    have : fg r - 1 - k - 1 = fg r - 1 - (k + 1) := by omega
    rw [this]
  · rintro rr L I' J' ⟨⟨o, rfl⟩, rfl, rfl⟩
    have hle : r / 10 ^ (fg r - 1 - i) ≤ r := Nat.div_le_self _ _
    rw [g_X12_paceOf_9, mI_le (by omega) (by omega)]
    refine ⟨fun _ => ⟨by decide, rfl, ?_⟩, fun h => by omega⟩
    rw [i_m10 (by omega)]; exact hq
theorem pcn_rg {r i : Nat} : 0 ≤ (nI (pcn r i)).toInt ∧ (nI (pcn r i)).toInt ≤ 10 := by
  have : pcn r i < 10 := Nat.mod_lt _ (by decide)
  rw [i_nI _ (by omega)]; omega
noncomputable def rrow (N H kd : Int32) (cb wd : Nat → Int32) (t r : Nat) (ba b set : Int32) : (Int32 × Int32) × Nat :=
  rn N H kd cb wd t (fun i => nI (pcn r i)) (fun i => if nI i = ba then b else 0) (fg r) 0 (0, set)
theorem p_X11_tryRow {N H kd hd : Int32} {cb wd : Nat → Int32} {t r : Nat} (hR : Rd I N H cb wd) (hk : 0 ≤ kd.toInt ∧ kd.toInt ≤ 5) (hh : 0 ≤ hd.toInt ∧ hd.toInt ≤ 4) (ht : t < 100) (hr : r < 1000000000) (ba b : Int32) (q : YQv)
    (hq : ∀ I' s k, F33 I I' → rrow N H kd cb wd t r ba b (I 11 hd.toInt.toNat) = (s, k) → Tc I' N s (t + k) → q I' J) : u_X11_tryRow [.ref 0, .int kd, .int hd, .int (nI t), .int (nI r), .int ba, .int b] (shp u) I J q := by
  rw [e_X11_tryRow]
  have hf : fg r ≤ 9 := mny_le 9 r
  refine p_X11_figuresOf u I J hr _ ?_
  rw [p_X10_setOf u I J hh, e_X8_begin]
  refine ⟨rfl, ?_⟩
  refine zlp (fg r) (fun k L I' J' => (∃ o2 o3 o9 s, L = [some (.ref 0), some (.int kd), o2, o3, some (.int (nI r)), some (.int ba), some (.int b), some (.int (nI (fg r))), some (.int (nI k)), o9] ∧ F33 I I' ∧ Tc I' N s (t + k) ∧ rrow N H kd cb wd t r ba b (I 11 hd.toInt.toNat) = rn N H kd cb wd t (fun i => nI (pcn r i)) (fun i => if nI i = ba then b else 0) (fg r - k) k s) ∧ J' = J) ?_ ?_ _ _ _ ⟨⟨_, _, _, (0, I 11 hd.toInt.toNat), rfl, ?_, ?_, rfl⟩, rfl⟩
  · rintro k hkk rr L I' J' ⟨⟨o2, o3, o9, s, rfl, hF, hT, hrn⟩, rfl⟩ hr2
    have hR' : Rd I' N H cb wd := Rd_fr hR (hF 3 (by decide)) (hF 4 (by decide)) (hF 5 (by decide))
    rw [g_X11_tryRow_27, mI_le (by omega) (by omega), ov_c u I' J' hR' hT, bI_0]
    refine ⟨fun h => by omega, fun _ => ⟨fun h => ?_, fun h => ?_⟩⟩
    · rw [g_X11_tryRow_105]
      refine ⟨rfl, hq I' s k hF ?_ hT⟩
      rw [hrn]; exact rn_over (Classical.not_not.mp h)
    · have e1 : nI (fg r) - 1 - nI k = nI (fg r - 1 - k) := by
        have e2 : nI (fg r) - 1 = nI (fg r - 1) := mI_sub (b := 1) (by omega)
        rw [e2, mI_sub (by omega)]
      rw [e1, p_X11_paceOf u I' J' hr (by omega), p_X11_kind u I' J' hk]
      have key : ∀ bb : Int32, bb = (if nI k = ba then b else 0) → b_X11_tryRow_96 u_X11_figuresOf u_X10_setOf u_X8_begin u_X8_isOver u_X11_paceOf u_X11_kind u_X8_go (qv (shp u) q) rr [some (.ref 0), some (.int kd), none, none, some (.int (nI r)), some (.int ba), some (.int b), some (.int (nI (fg r))), some (.int (nI k)), some (.int (nI (r / 10 ^ (fg r - 1 - k) % 10)))] [.int bb, .int (nI (r / 10 ^ (fg r - 1 - k) % 10)), .ref (42 + kd.toInt.toNat), .ref 3, .ref 33] (shp u) I' J' := by
        intro bb hbb
        rw [g_X11_tryRow_96]
        refine go_c u I' J' hR' hT hk pcn_rg (by omega) bb _ (fun I2 hF2 hT2 => ?_)
        rw [mI_one]
        refine hr2 _ _ _ ⟨⟨_, _, _, _, rfl, fun a ha => by rw [hF2 a ha, hF a ha], hT2, ?_⟩, rfl⟩
        rw [hrn]
        have h9 : fg r - k = (fg r - (k + 1)) + 1 := by omega
        rw [h9, rn_step h, hbb]
      refine ⟨fun h2 => key 0 (by rw [if_neg h2]), fun h2 => key b (by rw [if_pos h2])⟩
  · rintro rr L I' J' ⟨⟨o2, o3, o9, s, rfl, hF, hT, hrn⟩, rfl⟩
    rw [g_X11_tryRow_27, mI_le (by omega) (by omega)]
    refine ⟨fun _ => ?_, fun h => absurd (Nat.le_refl _) h⟩
    rw [g_X11_tryRow_105]
    refine ⟨rfl, hq I' s (fg r) hF ?_ hT⟩
    rw [hrn, Nat.sub_self]; rfl
  · intro a ha; funext g; simp [zu, ha]
  · refine ⟨?_, ?_, ?_, ?_, ?_⟩
    · simp [zu]
    · simp [zu]
    · simp [zu]
    · exact Int.le_refl 0
    · have := hR.2.2.2.2; show (0 : Int) ≤ _; omega
def Mw (I : ZI) (N H : Int32) (cb wd : Nat → Int32) : Prop := I 49 0 = N ∧ I 49 1 = H ∧ (∀ c, c < 16 → I 49 (5 + c) = cb c) ∧ (∀ i, i < 6 → I 49 (21 + i) = wd i) ∧ 1 ≤ N.toInt ∧ N.toInt ≤ 15
def FM (I I' : ZI) : Prop := (∀ a, a ≠ 48 → a ≠ 53 → I' a = I a) ∧ ∀ i, i ≠ 7 → i ≠ 8 → i ≠ 9 → I' 48 i = I 48 i
theorem FM_48 {I I1 I2 : ZI} (h : FM I I1) (h2 : F48 I1 I2) : FM I I2 :=
  ⟨fun a ha hb => by rw [h2.1 a ha, h.1 a ha hb], fun i a b c => by rw [h2.2 i a b c, h.2 i a b c]⟩
theorem p_X12_beginAt {N H set : Int32} {cb wd : Nat → Int32} (hM : Mw I N H cb wd) (q : YQv) (hq : ∀ I', FM I I' → Md I' N H cb wd → Tm I' N (0, set) 0 → q I' J) : u_X12_beginAt [.ref 48, .int set] (shp u) I J q := by
  rw [e_X12_beginAt]
  refine p_X12_layStones u I J _ ⟨rfl, ?_⟩
  obtain ⟨m0, m1, m2, m3, m4, m5⟩ := hM
  apply hq
  · refine ⟨fun a ha hb => ?_, fun i h7 h8 h9 => ?_⟩
    · funext g; simp [zu, lay, ha, hb]
    · simp [zu, lay, h7, h8, h9]
  · refine ⟨?_, ?_, fun c hc => ?_, fun i hi => ?_, m4, m5⟩
    · simp [zu, lay]; exact m0
    · simp [zu, lay]; exact m1
    · simp [zu, lay, hc]; exact m2 c hc
    · simp [zu, lay]; exact m3 i hi
  · refine ⟨?_, ?_, ?_, ?_, ?_⟩
    · simp [zu]
    · simp [zu]
    · simp [zu]; rfl
    · exact Int.le_refl 0
    · show (0 : Int) ≤ _; omega
theorem p_X12_goRow {N H kd set : Int32} {cb wd : Nat → Int32} {t r : Nat} (hM : Mw I N H cb wd) (hk : 0 ≤ kd.toInt ∧ kd.toInt ≤ 5) (ht : t < 100) (hr : r < 1000000000) (ba b : Int32) (q : YQv)
    (hq : ∀ I' s k, FM I I' → Md I' N H cb wd → rrow N H kd cb wd t r ba b set = (s, k) → Tm I' N s k → q I' J) : u_X12_goRow [.ref 48, .int kd, .int set, .int (nI t), .int (nI r), .int ba, .int b] (shp u) I J q := by
  rw [e_X12_goRow]
  have hf : fg r ≤ 9 := mny_le 9 r
  refine p_X12_beginAt u I J hM _ (fun I1 hF1 hM1 hT1 => ?_)
  refine p_X12_manyOf u I1 J hr _ ?_
  refine zlp (fg r) (fun k L I' J' => (∃ o2 s, L = [some (.ref 48), some (.int kd), o2, some (.int (nI t)), some (.int (nI r)), some (.int ba), some (.int b), some (.int (nI (fg r)))] ∧ FM I I' ∧ Md I' N H cb wd ∧ Tm I' N s k ∧ rrow N H kd cb wd t r ba b set = rn N H kd cb wd t (fun i => nI (pcn r i)) (fun i => if nI i = ba then b else 0) (fg r - k) k s) ∧ J' = J) ?_ ?_ _ _ _ ⟨⟨_, (0, set), rfl, hF1, hM1, hT1, rfl⟩, rfl⟩
  · rintro k hkk rr L I' J' ⟨⟨o2, s, rfl, hF, hM', hT, hrn⟩, rfl⟩ hr2
    rw [g_X12_goRow_12, hT.2.2.1, mI_le (by omega) (by omega), ov_m u I' J' hM' hT, bI_0]
    refine ⟨fun h => by omega, fun _ => ⟨fun h => ?_, fun h => ?_⟩⟩
    · rw [g_X12_goRow_61]
      refine ⟨rfl, hq I' s k hF hM' ?_ hT⟩
      rw [hrn]; exact rn_over (Classical.not_not.mp h)
    · rw [hT.2.2.1]
      refine p_X12_paceOf u I' J' hr hkk _ ?_
      rw [hT.2.2.1]
      have key : ∀ bb : Int32, bb = (if nI k = ba then b else 0) → b_X12_goRow_55 u_X12_beginAt u_X12_manyOf u_X12_isOver u_X12_paceOf u_X12_goStep (qv (shp u) q) rr [some (.ref 48), some (.int kd), none, some (.int (nI t)), some (.int (nI r)), some (.int ba), some (.int b), some (.int (nI (fg r)))] [.int bb, .int (nI (pcn r k)), .int (nI t), .int kd, .ref 48] (shp u) I' J' := by
        intro bb hbb
        rw [g_X12_goRow_55]
        refine go_m u I' J' hM' hT hk pcn_rg (by omega) bb _ (fun I2 hF2 hT2 => ?_)
        refine hr2 _ _ _ ⟨⟨_, _, rfl, FM_48 hF hF2, Md_fr hM' (hF2.1 49 (by decide)) (hF2.1 53 (by decide)), hT2, ?_⟩, rfl⟩
        rw [hrn]
        have h9 : fg r - k = (fg r - (k + 1)) + 1 := by omega
        rw [h9, rn_step h, hbb]
      refine ⟨fun h2 => key 0 (by rw [if_neg h2]), fun h2 => key b (by rw [if_pos h2])⟩
  · rintro rr L I' J' ⟨⟨o2, s, rfl, hF, hM', hT, hrn⟩, rfl⟩
    rw [g_X12_goRow_12, hT.2.2.1, mI_le (by omega) (by omega)]
    refine ⟨fun _ => ?_, fun h => absurd (Nat.le_refl _) h⟩
    rw [g_X12_goRow_61]
    refine ⟨rfl, hq I' s (fg r) hF hM' ?_ hT⟩
    rw [hrn, Nat.sub_self]; rfl
