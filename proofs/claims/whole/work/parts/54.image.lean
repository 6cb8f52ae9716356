/-! ===== image ===== -/
/-- the memory after a new World at b -/
def nwI (I : ZI) (b : Nat) : ZI := zcI (zcI (zcI (zcI (zu (zcI (zcI (zu (zcI (zcI (zcI (zu (zu (zu (zu (zu (zcI (zcI (zcI (zu (zu (zcI (zcI I b) (b + 1)) (b + 1) 0 8) (b + 1) 1 5) (b + 2)) (b + 3)) (b + 4)) (b + 4) 0 (-1)) (b + 4) 1 0) (b + 4) 2 0) (b + 4) 3 0) (b + 4) 4 0) (b + 5)) (b + 6)) (b + 7)) b 2 0) (b + 8)) (b + 9)) b 5 0) (b + 10)) (b + 11)) (b + 12)) (b + 13)
def nwJ (J : ZJ) (b : Nat) : ZJ := zcJ (zcJ (zcJ (zcJ (zcJ (zcJ (zcJ (zcJ (zcJ (zcJ (zcJ (zcJ (zcJ (zcJ J b) (b + 1)) (b + 2)) (b + 3)) (b + 4)) (b + 5)) (b + 6)) (b + 7)) (b + 8)) (b + 9)) (b + 10)) (b + 11)) (b + 12)) (b + 13)
theorem zcI_n (I : ZI) {a b : Nat} (h : b ≠ a) : zcI I a b = I b := by funext g; unfold zcI; rw [if_neg h]
theorem zcJ_n (J : ZJ) {a b : Nat} (h : b ≠ a) : zcJ J a b = J b := by funext g; unfold zcJ; rw [if_neg h]
theorem nwI_ne (I : ZI) {a b : Nat} (h : ¬ (b ≤ a ∧ a ≤ b + 13)) : nwI I b a = I a := by
  unfold nwI
  rw [zcI_n _ (by omega), zcI_n _ (by omega), zcI_n _ (by omega), zcI_n _ (by omega), zu_ne _ _ _ (by omega), zcI_n _ (by omega), zcI_n _ (by omega), zu_ne _ _ _ (by omega), zcI_n _ (by omega), zcI_n _ (by omega), zcI_n _ (by omega), zu_ne _ _ _ (by omega), zu_ne _ _ _ (by omega), zu_ne _ _ _ (by omega), zu_ne _ _ _ (by omega), zu_ne _ _ _ (by omega), zcI_n _ (by omega), zcI_n _ (by omega), zcI_n _ (by omega), zu_ne _ _ _ (by omega), zu_ne _ _ _ (by omega), zcI_n _ (by omega), zcI_n _ (by omega)]
theorem nwJ_ne (J : ZJ) {a b : Nat} (h : ¬ (b ≤ a ∧ a ≤ b + 13)) : nwJ J b a = J a := by
  unfold nwJ
  rw [zcJ_n _ (by omega), zcJ_n _ (by omega), zcJ_n _ (by omega), zcJ_n _ (by omega), zcJ_n _ (by omega), zcJ_n _ (by omega), zcJ_n _ (by omega), zcJ_n _ (by omega), zcJ_n _ (by omega), zcJ_n _ (by omega), zcJ_n _ (by omega), zcJ_n _ (by omega), zcJ_n _ (by omega), zcJ_n _ (by omega)]
variable {I : ZI} {J : ZJ}
theorem t_img_00 (q : ZQi) (hq : u_X10_copyFrom [.ref 61, .ref 2] (shp 1) (nwI I 61) (nwJ J 61) (fun I2 J2 => q (shp 1) I2 J2 1)) : t_X11_image [.ref 0, .int 0] (shp 0) I J q := by
  refine Eq.mpr (p_X11_within 0 I J 0 0 1 _) ?_
  refine ⟨fun _ => ?_, fun h => absurd h (by rw [bI_t (by decide)]; decide)⟩
  refine And.intro (show vp_in (0 : Int32) 2 from mI_in (k := 0) (by omega) (by omega)) ?_
  refine And.intro rfl (And.intro rfl (And.intro rfl (And.intro rfl (And.intro rfl (And.intro rfl (And.intro rfl (And.intro rfl (And.intro rfl (And.intro rfl (And.intro rfl ?_))))))))))
  refine And.intro ⟨show vp_in (0 : Int32) 2 from mI_in (k := 0) (by omega) (by omega), by decide⟩ ?_
  exact hq
theorem t_img_01 (q : ZQi) (hq : u_X10_copyFrom [.ref 61, .ref 2] (shp 2) (nwI I 61) (nwJ J 61) (fun I2 J2 => q (shp 2) I2 J2 1)) : t_X11_image [.ref 0, .int 1] (shp 0) I J q := by
  refine Eq.mpr (p_X11_within 0 I J 1 0 1 _) ?_
  refine ⟨fun _ => ?_, fun h => absurd h (by rw [bI_t (by decide)]; decide)⟩
  refine And.intro (show vp_in (1 : Int32) 2 from mI_in (k := 1) (by omega) (by omega)) ?_
  refine And.intro rfl (And.intro rfl (And.intro rfl (And.intro rfl (And.intro rfl (And.intro rfl (And.intro rfl (And.intro rfl (And.intro rfl (And.intro rfl (And.intro rfl ?_))))))))))
  refine And.intro ⟨show vp_in (1 : Int32) 2 from mI_in (k := 1) (by omega) (by omega), by decide⟩ ?_
  exact hq
theorem t_img_11 (q : ZQi) (hq : u_X10_copyFrom [.ref 75, .ref 2] (shp 3) (nwI I 75) (nwJ J 75) (fun I2 J2 => q (shp 3) I2 J2 1)) : t_X11_image [.ref 0, .int 1] (shp 1) I J q := by
  refine Eq.mpr (p_X11_within 1 I J 1 0 1 _) ?_
  refine ⟨fun _ => ?_, fun h => absurd h (by rw [bI_t (by decide)]; decide)⟩
  refine And.intro (show vp_in (1 : Int32) 2 from mI_in (k := 1) (by omega) (by omega)) ?_
  refine And.intro rfl (And.intro rfl (And.intro rfl (And.intro rfl (And.intro rfl (And.intro rfl (And.intro rfl (And.intro rfl (And.intro rfl (And.intro rfl (And.intro rfl ?_))))))))))
  refine And.intro ⟨show vp_in (1 : Int32) 2 from mI_in (k := 1) (by omega) (by omega), by decide⟩ ?_
  exact hq
theorem t_img_20 (q : ZQi) (hq : u_X10_copyFrom [.ref 75, .ref 2] (shp 4) (nwI I 75) (nwJ J 75) (fun I2 J2 => q (shp 4) I2 J2 1)) : t_X11_image [.ref 0, .int 0] (shp 2) I J q := by
  refine Eq.mpr (p_X11_within 2 I J 0 0 1 _) ?_
  refine ⟨fun _ => ?_, fun h => absurd h (by rw [bI_t (by decide)]; decide)⟩
  refine And.intro (show vp_in (0 : Int32) 2 from mI_in (k := 0) (by omega) (by omega)) ?_
  refine And.intro rfl (And.intro rfl (And.intro rfl (And.intro rfl (And.intro rfl (And.intro rfl (And.intro rfl (And.intro rfl (And.intro rfl (And.intro rfl (And.intro rfl ?_))))))))))
  refine And.intro ⟨show vp_in (0 : Int32) 2 from mI_in (k := 0) (by omega) (by omega), by decide⟩ ?_
  exact hq
theorem t_img_10 (q : ZQi) (hq : u_X10_copyFrom [.ref 61, .ref 2] (shp 1) I J (fun I2 J2 => q (shp 1) I2 J2 1)) : t_X11_image [.ref 0, .int 0] (shp 1) I J q := by
  refine Eq.mpr (p_X11_within 1 I J 0 0 1 _) ?_
  refine ⟨fun _ => ?_, fun h => absurd h (by rw [bI_t (by decide)]; decide)⟩
  refine And.intro (show vp_in (0 : Int32) 2 from mI_in (k := 0) (by omega) (by omega)) ?_
  exact hq
theorem t_img_21 (q : ZQi) (hq : u_X10_copyFrom [.ref 61, .ref 2] (shp 2) I J (fun I2 J2 => q (shp 2) I2 J2 1)) : t_X11_image [.ref 0, .int 1] (shp 2) I J q := by
  refine Eq.mpr (p_X11_within 2 I J 1 0 1 _) ?_
  refine ⟨fun _ => ?_, fun h => absurd h (by rw [bI_t (by decide)]; decide)⟩
  refine And.intro (show vp_in (1 : Int32) 2 from mI_in (k := 1) (by omega) (by omega)) ?_
  exact hq
theorem t_img_30 (q : ZQi) (hq : u_X10_copyFrom [.ref 61, .ref 2] (shp 3) I J (fun I2 J2 => q (shp 3) I2 J2 1)) : t_X11_image [.ref 0, .int 0] (shp 3) I J q := by
  refine Eq.mpr (p_X11_within 3 I J 0 0 1 _) ?_
  refine ⟨fun _ => ?_, fun h => absurd h (by rw [bI_t (by decide)]; decide)⟩
  refine And.intro (show vp_in (0 : Int32) 2 from mI_in (k := 0) (by omega) (by omega)) ?_
  exact hq
theorem t_img_31 (q : ZQi) (hq : u_X10_copyFrom [.ref 75, .ref 2] (shp 3) I J (fun I2 J2 => q (shp 3) I2 J2 1)) : t_X11_image [.ref 0, .int 1] (shp 3) I J q := by
  refine Eq.mpr (p_X11_within 3 I J 1 0 1 _) ?_
  refine ⟨fun _ => ?_, fun h => absurd h (by rw [bI_t (by decide)]; decide)⟩
  refine And.intro (show vp_in (1 : Int32) 2 from mI_in (k := 1) (by omega) (by omega)) ?_
  exact hq
theorem t_img_40 (q : ZQi) (hq : u_X10_copyFrom [.ref 75, .ref 2] (shp 4) I J (fun I2 J2 => q (shp 4) I2 J2 1)) : t_X11_image [.ref 0, .int 0] (shp 4) I J q := by
  refine Eq.mpr (p_X11_within 4 I J 0 0 1 _) ?_
  refine ⟨fun _ => ?_, fun h => absurd h (by rw [bI_t (by decide)]; decide)⟩
  refine And.intro (show vp_in (0 : Int32) 2 from mI_in (k := 0) (by omega) (by omega)) ?_
  exact hq
theorem t_img_41 (q : ZQi) (hq : u_X10_copyFrom [.ref 61, .ref 2] (shp 4) I J (fun I2 J2 => q (shp 4) I2 J2 1)) : t_X11_image [.ref 0, .int 1] (shp 4) I J q := by
  refine Eq.mpr (p_X11_within 4 I J 1 0 1 _) ?_
  refine ⟨fun _ => ?_, fun h => absurd h (by rw [bI_t (by decide)]; decide)⟩
  refine And.intro (show vp_in (1 : Int32) 2 from mI_in (k := 1) (by omega) (by omega)) ?_
  exact hq
theorem t_img_bad {u : Nat} {x : Int32} (hx : ¬ (0 ≤ x.toInt ∧ x.toInt ≤ 1)) (q : ZQi) (hq : q (shp u) (zu I 0 10 (I 0 10 + 1)) J (-2)) : t_X11_image [.ref 0, .int x] (shp u) I J q := by
  refine Eq.mpr (p_X11_within u I J x 0 1 _) ?_
  refine ⟨fun h => b0f (show ¬ ((0 : Int32).toInt ≤ x.toInt ∧ x.toInt ≤ (1 : Int32).toInt) from hx) h, fun _ => ?_⟩
  exact Eq.mpr (p_X11_bad u I J (-2) _) hq
/-- what an image leaves: u' tells the images now, b the place of this one -/
theorem p_image {u i : Nat} (hu : u ≤ 4) (hi : i < 2) (q : ZQi) (hq : ∀ u' b I' J', u' ≤ 4 → (zim u').getD i none = some b → (∀ j, j < 2 → j ≠ i → (zim u').getD j none = (zim u).getD j none) → (∀ j b', j < 2 → j ≠ i → (zim u).getD j none = some b' → b + 14 ≤ b' ∨ b' + 14 ≤ b) → (∀ a, ¬ (b ≤ a ∧ a ≤ b + 13) → I' a = I a) → (∀ a, a < 61 → J' a = J a) → (∀ n, Wd 2 I n → Vd n → Wd b I' n) → q (shp u') I' J' 1) : t_X11_image [.ref 0, .int (nI i)] (shp u) I J q := by
  have h2 : i = 0 ∨ i = 1 := by omega
  have e61 : ∀ a, ¬ (61 ≤ a ∧ a ≤ 61 + 13) → cpW_61_2 I a = I a := fun a ha => cpW_61_2_ne I (by omega)
  have e75 : ∀ a, ¬ (75 ≤ a ∧ a ≤ 75 + 13) → cpW_75_2 I a = I a := fun a ha => cpW_75_2_ne I (by omega)
  have n61 : ∀ a, ¬ (61 ≤ a ∧ a ≤ 61 + 13) → cpW_61_2 (nwI I 61) a = I a := fun a ha => by rw [cpW_61_2_ne _ (by omega), nwI_ne _ ha]
  have n75 : ∀ a, ¬ (75 ≤ a ∧ a ≤ 75 + 13) → cpW_75_2 (nwI I 75) a = I a := fun a ha => by rw [cpW_75_2_ne _ (by omega), nwI_ne _ ha]
  have k61 : ∀ n, Wd 2 I n → Vd n → Wd 61 (cpW_61_2 I) n := fun n h hV => cpW_61_2_Wd h hV.2.2.1.2 hV.2.2.2.1.2 hV.2.2.2.2.1.2
  have k75 : ∀ n, Wd 2 I n → Vd n → Wd 75 (cpW_75_2 I) n := fun n h hV => cpW_75_2_Wd h hV.2.2.1.2 hV.2.2.2.1.2 hV.2.2.2.2.1.2
  have m61 : ∀ n, Wd 2 I n → Vd n → Wd 61 (cpW_61_2 (nwI I 61)) n := fun n h hV => cpW_61_2_Wd (Wd_fr h (fun a a1 a2 => nwI_ne _ (by omega))) hV.2.2.1.2 hV.2.2.2.1.2 hV.2.2.2.2.1.2
  have m75 : ∀ n, Wd 2 I n → Vd n → Wd 75 (cpW_75_2 (nwI I 75)) n := fun n h hV => cpW_75_2_Wd (Wd_fr h (fun a a1 a2 => nwI_ne _ (by omega))) hV.2.2.1.2 hV.2.2.2.1.2 hV.2.2.2.2.1.2
  have j0 : ∀ a, a < 61 → J a = J a := fun _ _ => rfl
  have j61 : ∀ a, a < 61 → nwJ J 61 a = J a := fun a ha => nwJ_ne _ (by omega)
  have j75 : ∀ a, a < 61 → nwJ J 75 a = J a := fun a ha => nwJ_ne _ (by omega)
  have N : ∀ b' : Nat, ¬ (none : Option Nat) = some b' := fun b' h => by cases h
  have o1 : ∀ {P : Nat → Prop}, P 1 → ∀ j, j < 2 → j ≠ 0 → P j := fun h j hj h0 => by
    have : j = 1 := by omega
    subst this; exact h
  have o0 : ∀ {P : Nat → Prop}, P 0 → ∀ j, j < 2 → j ≠ 1 → P j := fun h j hj h0 => by
    have : j = 0 := by omega
    subst this; exact h
  rcases u_cases hu with rfl | rfl | rfl | rfl | rfl <;> rcases h2 with rfl | rfl
  · exact t_img_00 q (p_copy_61_2_1 _ (hq 1 61 _ _ (by omega) rfl (fun j hj hn => o1 (P := fun j => (zim 1).getD j none = (zim 0).getD j none) rfl j hj hn) (fun j b' hj hn => o1 (P := fun j => ∀ b', (zim 0).getD j none = some b' → 61 + 14 ≤ b' ∨ b' + 14 ≤ 61) (fun b' h => absurd h (N b')) j hj hn b') n61 j61 m61))
  · exact t_img_01 q (p_copy_61_2_2 _ (hq 2 61 _ _ (by omega) rfl (fun j hj hn => o0 (P := fun j => (zim 2).getD j none = (zim 0).getD j none) rfl j hj hn) (fun j b' hj hn => o0 (P := fun j => ∀ b', (zim 0).getD j none = some b' → 61 + 14 ≤ b' ∨ b' + 14 ≤ 61) (fun b' h => absurd h (N b')) j hj hn b') n61 j61 m61))
  · exact t_img_10 q (p_copy_61_2_1 _ (hq 1 61 _ _ (by omega) rfl (fun j hj hn => o1 (P := fun j => (zim 1).getD j none = (zim 1).getD j none) rfl j hj hn) (fun j b' hj hn => o1 (P := fun j => ∀ b', (zim 1).getD j none = some b' → 61 + 14 ≤ b' ∨ b' + 14 ≤ 61) (fun b' h => absurd h (N b')) j hj hn b') e61 j0 k61))
  · exact t_img_11 q (p_copy_75_2_3 _ (hq 3 75 _ _ (by omega) rfl (fun j hj hn => o0 (P := fun j => (zim 3).getD j none = (zim 1).getD j none) rfl j hj hn) (fun j b' hj hn => o0 (P := fun j => ∀ b', (zim 1).getD j none = some b' → 75 + 14 ≤ b' ∨ b' + 14 ≤ 75) (fun b' h => (by have : b' = 61 := (Option.some.inj h).symm; omega)) j hj hn b') n75 j75 m75))
  · exact t_img_20 q (p_copy_75_2_4 _ (hq 4 75 _ _ (by omega) rfl (fun j hj hn => o1 (P := fun j => (zim 4).getD j none = (zim 2).getD j none) rfl j hj hn) (fun j b' hj hn => o1 (P := fun j => ∀ b', (zim 2).getD j none = some b' → 75 + 14 ≤ b' ∨ b' + 14 ≤ 75) (fun b' h => (by have : b' = 61 := (Option.some.inj h).symm; omega)) j hj hn b') n75 j75 m75))
  · exact t_img_21 q (p_copy_61_2_2 _ (hq 2 61 _ _ (by omega) rfl (fun j hj hn => o0 (P := fun j => (zim 2).getD j none = (zim 2).getD j none) rfl j hj hn) (fun j b' hj hn => o0 (P := fun j => ∀ b', (zim 2).getD j none = some b' → 61 + 14 ≤ b' ∨ b' + 14 ≤ 61) (fun b' h => absurd h (N b')) j hj hn b') e61 j0 k61))
  · exact t_img_30 q (p_copy_61_2_3 _ (hq 3 61 _ _ (by omega) rfl (fun j hj hn => o1 (P := fun j => (zim 3).getD j none = (zim 3).getD j none) rfl j hj hn) (fun j b' hj hn => o1 (P := fun j => ∀ b', (zim 3).getD j none = some b' → 61 + 14 ≤ b' ∨ b' + 14 ≤ 61) (fun b' h => (by have : b' = 75 := (Option.some.inj h).symm; omega)) j hj hn b') e61 j0 k61))
  · exact t_img_31 q (p_copy_75_2_3 _ (hq 3 75 _ _ (by omega) rfl (fun j hj hn => o0 (P := fun j => (zim 3).getD j none = (zim 3).getD j none) rfl j hj hn) (fun j b' hj hn => o0 (P := fun j => ∀ b', (zim 3).getD j none = some b' → 75 + 14 ≤ b' ∨ b' + 14 ≤ 75) (fun b' h => (by have : b' = 61 := (Option.some.inj h).symm; omega)) j hj hn b') e75 j0 k75))
  · exact t_img_40 q (p_copy_75_2_4 _ (hq 4 75 _ _ (by omega) rfl (fun j hj hn => o1 (P := fun j => (zim 4).getD j none = (zim 4).getD j none) rfl j hj hn) (fun j b' hj hn => o1 (P := fun j => ∀ b', (zim 4).getD j none = some b' → 75 + 14 ≤ b' ∨ b' + 14 ≤ 75) (fun b' h => (by have : b' = 61 := (Option.some.inj h).symm; omega)) j hj hn b') e75 j0 k75))
  · exact t_img_41 q (p_copy_61_2_4 _ (hq 4 61 _ _ (by omega) rfl (fun j hj hn => o0 (P := fun j => (zim 4).getD j none = (zim 4).getD j none) rfl j hj hn) (fun j b' hj hn => o0 (P := fun j => ∀ b', (zim 4).getD j none = some b' → 61 + 14 ≤ b' ∨ b' + 14 ≤ 61) (fun b' h => (by have : b' = 75 := (Option.some.inj h).symm; omega)) j hj hn b') e61 j0 k61))
theorem p_image_19 {u i : Nat} (hi : i < 2) (q : YQi) (hq : q (zu (flr I 50 (98 * i) (fun k => I 49 (k - 98 * i)) 98) 51 i 1) J 1) : b_X12_image_19 u_X12_in u_X12_bad (qi (shp u) q) [some (.ref 48), some (.int (nI i)), some (.int 0)] [] (shp u) I J := by
  refine zlp 98 (fun k L I' J' => L = [some (.ref 48), some (.int (nI i)), some (.int (nI k))] ∧ I' = flr I 50 (98 * i) (fun k => I 49 (k - 98 * i)) k ∧ J' = J) ?_ ?_ _ _ _ ⟨rfl, (flr_0 _ _ _ _).symm, rfl⟩
  · rintro k hk r L I' J' ⟨rfl, rfl, rfl⟩ hr
    have e1 : (98 : Int32) * nI i + nI k = nI (98 * i + k) := by
      have x1 : (98 : Int32) * nI i = nI (98 * i) := mI_mul 98 i
      rw [x1, mI_add]
    rw [g_X12_image_19, e1, mI_nat (k := 98 * i + k) (by omega), mI_nat (k := k) (by omega), mI_one]
    refine ⟨fun h => absurd (show nI 98 ≤ nI k from h) (mI_ge hk (by omega)), fun _ => ⟨mI_in (by omega) (by omega), mI_in (by omega) (by omega), hr _ _ _ ⟨rfl, ?_, rfl⟩⟩⟩
    rw [flr_ne _ _ (show (49 : Nat) ≠ 50 by decide)]
    have := flr_s I 50 (98 * i) (fun k => I 49 (k - 98 * i)) k
    rw [← this]
    show zu _ 50 (98 * i + k) (I 49 k) = zu _ 50 (98 * i + k) (I 49 (98 * i + k - 98 * i))
    rw [Nat.add_sub_cancel_left]
  · rintro r L I' J' ⟨rfl, rfl, rfl⟩
    rw [g_X12_image_19, mI_nat (by omega)]
    exact ⟨fun _ => ⟨⟨mI_in hi (by omega), by decide⟩, rfl, hq⟩, fun h => absurd (mI_rf 98) h⟩
theorem o_image {u : Nat} (hR : Rl u I J) (x : Int32) (Q : ZS → ZI → ZJ → Int32 → Int32 → Prop) (hQ : ∀ u' I' J' v, Rl u' I' J' → Q (shp u') I' J' v v) :
    t_X11_image [.ref 0, .int x] (shp u) I J (fun S1 I1 J1 v1 => u_X12_image [.ref 48, .int x] S1 I1 J1 (fun I2 J2 v2 => Q S1 I2 J2 v1 v2)) := by
  have hIm := hR.2.2.2.2.2.1
  have hu : u ≤ 4 := hR.2.2.2.2.2.2
  by_cases hx : 0 ≤ x.toInt ∧ x.toInt ≤ 1
  · obtain ⟨i, rfl, hi2⟩ : ∃ i : Nat, x = nI i ∧ i < 2 := ⟨_, mI_of hx.1, by omega⟩
    have g1' : (0 : Int64).toInt ≤ (nI i).toInt64.toInt ∧ (nI i).toInt64.toInt ≤ (1 : Int64).toInt := by rw [ij_to]; exact hx
    refine p_image hu hi2 _ (fun u' b I1 J1 hu' hb hsame hdis hF hJ hWb => ?_)
    have hb2 := zim_b hb
    rw [e_X12_image, p_X12_in]
    refine ⟨fun _ => ?_, fun z => b0t g1' z⟩
    refine p_image_19 hi2 _ ?_
    refine hQ u' _ _ _ ?_
    have lo : ∀ a, a < 61 → I1 a = I a := fun a ha => hF a (by omega)
    have e50 : ∀ k, 98 * i ≤ k → k < 98 * i + 98 → zu (flr I1 50 (98 * i) (fun k => I1 49 (k - 98 * i)) 98) 51 i 1 50 k = I 49 (k - 98 * i) := fun k h1 h2 => by
      rw [zu_ne _ _ _ (by decide), flr_in _ _ h1 h2]; show I1 49 _ = _; rw [lo 49 (by omega)]
    have n50 : ∀ k, ¬ (98 * i ≤ k ∧ k < 98 * i + 98) → zu (flr I1 50 (98 * i) (fun k => I1 49 (k - 98 * i)) 98) 51 i 1 50 k = I 50 k := fun k h => by
      rw [zu_ne _ _ _ (by decide), flr_out _ _ (by omega), lo 50 (by omega)]
    have e51 : zu (flr I1 50 (98 * i) (fun k => I1 49 (k - 98 * i)) 98) 51 i 1 51 i = 1 := by rw [zu_rd, if_pos rfl, if_pos rfl]
    have n51 : ∀ k, k ≠ i → zu (flr I1 50 (98 * i) (fun k => I1 49 (k - 98 * i)) 98) 51 i 1 51 k = I 51 k := fun k h => by
      rw [zu_rd, if_pos rfl, if_neg h, flr_ne _ _ (by decide), lo 51 (by omega)]
    have ene : ∀ a, a ≠ 50 → a ≠ 51 → zu (flr I1 50 (98 * i) (fun k => I1 49 (k - 98 * i)) 98) 51 i 1 a = I1 a := fun a h1 h2 => by
      rw [zu_ne _ _ _ h2, flr_ne _ _ h1]
    generalize zu (flr I1 50 (98 * i) (fun k => I1 49 (k - 98 * i)) 98) 51 i 1 = I2 at e50 n50 e51 n51 ene
    have lo2 : ∀ a, a < 61 → a ≠ 50 → a ≠ 51 → I2 a = I a := fun a h1 h2 h3 => by rw [ene a h2 h3, lo a h1]
    obtain ⟨hW, hV, hC, hP, hT, _, _⟩ := hR
    have e49 : I2 49 = I 49 := lo2 49 (by omega) (by omega) (by omega)
    refine ⟨?_, ?_, ?_, ?_, ?_, ?_, hu'⟩
    · rw [e49]; exact Wd_fr hW (fun a a1 a2 => lo2 a (by omega) (by omega) (by omega))
    · rw [e49]; exact hV
    · rw [lo2 0 (by omega) (by omega) (by omega), lo2 52 (by omega) (by omega) (by omega)]; exact hC
    · rw [hJ 0 (by omega), hJ 48 (by omega)]; exact hP
    · unfold Tx; rw [lo2 31 (by omega) (by omega) (by omega), lo2 48 (by omega) (by omega) (by omega), lo2 32 (by omega) (by omega) (by omega), lo2 58 (by omega) (by omega) (by omega)]; exact hT
    · intro j hj
      by_cases hji : j = i
      · subst hji
        refine ⟨fun b2 hbb => ?_, fun hbb => by rw [hb] at hbb; cases hbb⟩
        have : b2 = b := by rw [hb] at hbb; exact (Option.some.inj hbb).symm
        subst this
        have hk : ∀ k, k < 98 → I2 50 (98 * j + k) = I 49 k := fun k hk => by rw [e50 _ (by omega) (by omega), Nat.add_sub_cancel_left]
        exact ⟨e51, Wd_98 hV (Wd_fr (hWb _ hW hV) (fun a a1 a2 => ene a (by omega) (by omega))) hk, Vd_98 hV hk⟩
      · obtain ⟨m1, m2⟩ := hIm j hj
        have hs := hsame j hj hji
        have hk : ∀ k, k < 98 → I2 50 (98 * j + k) = I 50 (98 * j + k) := fun k hk => n50 _ (by omega)
        refine ⟨fun b2 hbb => ?_, fun hbb => ?_⟩
        · rw [hs] at hbb
          obtain ⟨y1, y2, y3⟩ := m1 b2 hbb
          have hd := hdis j b2 hj hji hbb
          have hb3 := zim_b hbb
          refine ⟨by rw [n51 j hji]; exact y1, Wd_98 y3 (Wd_fr y2 (fun a a1 a2 => ?_)) hk, Vd_98 y3 hk⟩
          rw [ene a (by omega) (by omega), hF a (by omega)]
        · rw [hs] at hbb
          rw [n51 j hji]; exact m2 hbb
  · refine t_img_bad hx _ ?_
    have hx' : ¬ ((0 : Int64).toInt ≤ x.toInt64.toInt ∧ x.toInt64.toInt ≤ (1 : Int64).toInt) := by rw [ij_to]; exact hx
    rw [e_X12_image, p_X12_in]
    refine ⟨fun z => b0f hx' z, fun _ => ?_⟩
    rw [p_X12_bad]
    exact ⟨rfl, hQ _ _ _ _ (Rl_bad hR)⟩
