/-! ===== from ===== -/
theorem Vd_98 {n n' : Nat → Int32} (h : Vd n) (e : ∀ k, k < 98 → n' k = n k) : Vd n' := by
  obtain ⟨v0, v1, v2, v3, v4, v5, v6, v7, v8, v9, v10, v11⟩ := h
  unfold Vd
  rw [e 0 (by omega), e 1 (by omega), e 2 (by omega), e 3 (by omega), e 4 (by omega), e 37 (by omega), e 38 (by omega), e 39 (by omega), e 40 (by omega), e 41 (by omega)]
  refine ⟨v0, v1, v2, v3, v4, fun h hh => ?_, v6, v7, v8, v9, fun k hk => ?_, fun k hk => ?_⟩
  · rw [e _ (by omega)]; exact v5 h hh
  · rw [e (66 + 4 * k) (by omega), e (67 + 4 * k) (by omega), e (68 + 4 * k) (by omega), e (69 + 4 * k) (by omega)]; exact v10 k hk
  · rw [e (43 + 4 * k) (by omega), e (44 + 4 * k) (by omega)]; exact v11 k hk
theorem Wd_98 {b : Nat} {I : ZI} {n n' : Nat → Int32} (hV : Vd n) (h : Wd b I n) (e : ∀ k, k < 98 → n' k = n k) : Wd b I n' := by
  obtain ⟨v0, v1, v2, v3, v4, v5, v6, v7, v8, v9, v10, v11⟩ := hV
  obtain ⟨w0, w1, w2, w3, w4, w5, w6, w7, w8, w9, w10, w11, w12, w13⟩ := h
  unfold Wd
  rw [e 0 (by omega), e 1 (by omega), e 2 (by omega), e 3 (by omega), e 4 (by omega), e 37 (by omega), e 38 (by omega), e 39 (by omega), e 40 (by omega)]
  refine ⟨w0, w1, w2, w3, w4, fun c hc => ?_, fun i hi => ?_, fun h hh => ?_, w8, w9, w10, w11, fun k hk => ?_, fun k hk => ?_⟩
  · rw [e _ (by omega)]; exact w5 c hc
  · rw [e _ (by omega)]; exact w6 i hi
  · rw [e (27 + 2 * h) (by omega), e (28 + 2 * h) (by omega)]; exact w7 h hh
  · rw [e (66 + 4 * k) (by omega), e (67 + 4 * k) (by omega), e (68 + 4 * k) (by omega)]; exact w12 k hk
  · rw [e (42 + 4 * k) (by omega), e (43 + 4 * k) (by omega), e (44 + 4 * k) (by omega), e (45 + 4 * k) (by omega)]; exact w13 k hk
theorem u_cases {u : Nat} (h : u ≤ 4) : u = 0 ∨ u = 1 ∨ u = 2 ∨ u = 3 ∨ u = 4 := by omega
theorem zrf_im {u i : Nat} (hu : u ≤ 4) (hi : i < 2) : zrf (shp u) 30 i = (zim u).getD i none := by
  have h2 : i = 0 ∨ i = 1 := by omega
  rcases u_cases hu with rfl | rfl | rfl | rfl | rfl <;> rcases h2 with rfl | rfl <;> rfl
variable {u : Nat} {I : ZI} {J : ZJ}
theorem p_copy_im {i b : Nat} (hu : u ≤ 4) (hi : i < 2) (hb : (zim u).getD i none = some b) (q : YQv) (hq : ∀ I', (∀ a, ¬ (2 ≤ a ∧ a ≤ 15) → I' a = I a) → (∀ n, Wd b I n → Vd n → Wd 2 I' n) → q I' J) : u_X10_copyFrom [.ref 2, .ref b] (shp u) I J q := by
  have h2 : i = 0 ∨ i = 1 := by omega
  have h61 : ∀ a, ¬ (2 ≤ a ∧ a ≤ 15) → cpW_2_61 I a = I a := fun a ha => cpW_2_61_ne I (by omega)
  have h75 : ∀ a, ¬ (2 ≤ a ∧ a ≤ 15) → cpW_2_75 I a = I a := fun a ha => cpW_2_75_ne I (by omega)
  have k61 : ∀ n, Wd 61 I n → Vd n → Wd 2 (cpW_2_61 I) n := fun n h hV => cpW_2_61_Wd h hV.2.2.1.2 hV.2.2.2.1.2 hV.2.2.2.2.1.2
  have k75 : ∀ n, Wd 75 I n → Vd n → Wd 2 (cpW_2_75 I) n := fun n h hV => cpW_2_75_Wd h hV.2.2.1.2 hV.2.2.2.1.2 hV.2.2.2.2.1.2
  rcases u_cases hu with rfl | rfl | rfl | rfl | rfl <;> rcases h2 with rfl | rfl
  · exact absurd hb (show ¬ (none : Option Nat) = some b from fun h => by cases h)
  · exact absurd hb (show ¬ (none : Option Nat) = some b from fun h => by cases h)
  · have : b = 61 := (Option.some.inj hb).symm
    subst this; exact p_copy_2_61_1 q (hq _ h61 k61)
  · exact absurd hb (show ¬ (none : Option Nat) = some b from fun h => by cases h)
  · exact absurd hb (show ¬ (none : Option Nat) = some b from fun h => by cases h)
  · have : b = 61 := (Option.some.inj hb).symm
    subst this; exact p_copy_2_61_2 q (hq _ h61 k61)
  · have : b = 61 := (Option.some.inj hb).symm
    subst this; exact p_copy_2_61_3 q (hq _ h61 k61)
  · have : b = 75 := (Option.some.inj hb).symm
    subst this; exact p_copy_2_75_3 q (hq _ h75 k75)
  · have : b = 75 := (Option.some.inj hb).symm
    subst this; exact p_copy_2_75_4 q (hq _ h75 k75)
  · have : b = 61 := (Option.some.inj hb).symm
    subst this; exact p_copy_2_61_4 q (hq _ h61 k61)
theorem p_from_35 {i : Nat} (hi : i < 2) (q : YQi) (hq : q (flr I 49 0 (fun k => I 50 (98 * i + k)) 98) J 1) : b_X12_from_35 u_X12_in u_X12_bad u_X12_no (qi (shp u) q) [some (.ref 48), some (.int (nI i)), some (.int 0)] [] (shp u) I J := by
  refine zlp 98 (fun k L I' J' => L = [some (.ref 48), some (.int (nI i)), some (.int (nI k))] ∧ I' = flr I 49 0 (fun k => I 50 (98 * i + k)) k ∧ J' = J) ?_ ?_ _ _ _ ⟨rfl, (flr_0 _ _ _ _).symm, rfl⟩
  · rintro k hk r L I' J' ⟨rfl, rfl, rfl⟩ hr
    have e1 : (98 : Int32) * nI i + nI k = nI (98 * i + k) := by
      have x1 : (98 : Int32) * nI i = nI (98 * i) := mI_mul 98 i
      rw [x1, mI_add]
    rw [g_X12_from_35, e1, mI_nat (by omega), mI_nat (by omega), mI_one]
    refine ⟨fun h => absurd (show nI 98 ≤ nI k from h) (mI_ge hk (by omega)), fun _ => ⟨mI_in (by omega) (by omega), mI_in (by omega) (by omega), hr _ _ _ ⟨rfl, ?_, rfl⟩⟩⟩
    rw [flr_ne _ _ (show (50 : Nat) ≠ 49 by decide)]
    have := flr_s I 49 0 (fun k => I 50 (98 * i + k)) k
    rw [Nat.zero_add] at this; exact this
  · rintro r L I' J' ⟨rfl, rfl, rfl⟩
    rw [g_X12_from_35]
    exact ⟨fun _ => ⟨rfl, hq⟩, fun h => absurd (mI_rf 98) h⟩
theorem o_from (hR : Rl u I J) (x : Int32) (Q : ZI → ZJ → Int32 → Int32 → Prop) (hQ : ∀ I' J' v, Rl u I' J' → Q I' J' v v) :
    u_X11_from [.ref 0, .int x] (shp u) I J (fun I1 J1 v1 => u_X12_from [.ref 48, .int x] (shp u) I1 J1 (fun I2 J2 v2 => Q I2 J2 v1 v2)) := by
  have hIm := hR.2.2.2.2.2.1
  have hu : u ≤ 4 := hR.2.2.2.2.2.2
  have e1 : (1 : Int32).toInt = 1 := rfl
  rw [e_X11_from, p_X11_within]
  refine ⟨fun h => ?_, fun h => ?_⟩
  · have g1 : 0 ≤ x.toInt ∧ x.toInt ≤ 1 := b0p h
    obtain ⟨i, hi, hi2⟩ : ∃ i : Nat, x = nI i ∧ i < 2 := ⟨_, mI_of g1.1, by omega⟩
    have g1' : (0 : Int64).toInt ≤ x.toInt64.toInt ∧ x.toInt64.toInt ≤ (1 : Int64).toInt := by rw [ij_to]; exact g1
    have hmf : ∀ (I1 : ZI) (qq : YQi), (I1 51 i = 0 → u_X12_no [.ref 48, .int (-3)] (shp u) I1 J (fun I2 J2 v2 => (shp u = shp u ∧ qq I2 J2 v2))) → (¬ I1 51 i = 0 → qq (flr I1 49 0 (fun k => I1 50 (98 * i + k)) 98) J 1) → u_X12_from [.ref 48, .int x] (shp u) I1 J qq := by
      intro I1 qq h0 h1
      rw [e_X12_from, p_X12_in]
      refine ⟨fun _ => ?_, fun z => b0t g1' z⟩
      rw [hi, mI_nat (by omega)]
      exact ⟨mI_in hi2 (by omega), fun z => p_from_35 hi2 _ (h1 z), h0⟩
    rw [hi, mI_nat (by omega), zrf_im hu hi2, ← hi]
    refine ⟨by rw [hi]; exact mI_in hi2 (by omega), ?_⟩
    obtain ⟨m1, m2⟩ := hIm i hi2
    cases hb : (zim u).getD i none with
    | none =>
      have h51 := m2 hb
      show u_X11_no [.ref 0, .int (-3)] (shp u) I J _
      rw [p_X11_no]
      refine ⟨rfl, hmf _ _ (fun _ => ?_) (fun z => absurd (by rw [zu_ne _ _ _ (by decide)]; exact h51) z)⟩
      rw [p_X12_no]
      exact ⟨rfl, hQ _ _ _ (Rl_no hR)⟩
    | some b =>
      obtain ⟨h51, hWb, hVb⟩ := m1 b hb
      have hb2 := zim_b hb
      show u_X10_copyFrom [.ref 2, .ref b] (shp u) I J _
      refine p_copy_im hu hi2 hb _ (fun I1 f1 f2 => ⟨rfl, ?_⟩)
      have n51 : I1 51 = I 51 := f1 51 (by omega)
      have n50 : I1 50 = I 50 := f1 50 (by omega)
      refine hmf _ _ (fun z => absurd z (by rw [n51, h51]; decide)) (fun _ => ?_)
      refine hQ _ _ _ ?_
      have e49 : ∀ k, k < 98 → flr I1 49 0 (fun k => I1 50 (98 * i + k)) 98 49 k = I 50 (98 * i + k) := fun k hk => by
        rw [flr_in _ _ (by omega) (by omega)]; show I1 50 _ = _; rw [n50]
      have ene : ∀ a, a ≠ 49 → flr I1 49 0 (fun k => I1 50 (98 * i + k)) 98 a = I1 a := fun a ha => flr_ne _ _ ha
      generalize flr I1 49 0 (fun k => I1 50 (98 * i + k)) 98 = I2 at e49 ene
      refine Rl_w hR (fun a a1 a2 => by rw [ene a a2, f1 a a1]) ?_ ?_
      · have w1 := f2 _ hWb hVb
        have w2 : Wd 2 I2 (fun k => I 50 (98 * i + k)) := Wd_fr w1 (fun a a1 a2 => ene a (by omega))
        exact Wd_98 hVb w2 e49
      · exact Vd_98 hVb e49
  · have hn := b0n h
    have hn' : ¬ ((0 : Int64).toInt ≤ x.toInt64.toInt ∧ x.toInt64.toInt ≤ (1 : Int64).toInt) := by rw [ij_to]; exact hn
    rw [p_X11_bad]
    refine ⟨rfl, ?_⟩
    rw [e_X12_from, p_X12_in]
    refine ⟨fun z => b0f hn' z, fun _ => ?_⟩
    rw [p_X12_bad]
    exact ⟨rfl, hQ _ _ _ (Rl_bad hR)⟩
