/-! ===== pigeons: the class ===== -/
variable {u : Nat} {I : ZI} {J : ZJ}
def FJ (s : Nat → Prop) (J J' : ZJ) : Prop := ∀ b, ¬ s b → J' b = J b
theorem lean_ix {H x : Int32} (hH : 1 ≤ H.toInt ∧ H.toInt ≤ 12) (h : ¬ fel H x) : (x + 12).toInt = x.toInt + 12 ∧ vp_in (x + 12) 25 ∧ (x + 12).toNatClampNeg = (x.toInt + 12).toNat ∧ (x.toInt + 12).toNat < 25 := by
  have hl := lok hH h
  have e12 : (12 : Int32).toInt = 12 := rfl
  have e : (x + 12).toInt = x.toInt + 12 := by rw [i_add, e12]; omega
  refine ⟨e, ?_, ?_, by omega⟩
  · rw [i_vp, e]; omega
  · rw [i_nat, e]
theorem c_add {H : Int32} (hH : 1 ≤ H.toInt ∧ H.toInt ≤ 12) (h31 : I 3 1 = H) {f : Nat → Nat} (hf : ∀ i, i < 25 → J 40 i = kL (f i)) (x : Int32) {w : Int64} {a : Nat} (hw : w = kL a) (q : YQv)
    (hq : ∀ J', (∀ b, b ≠ 40 → J' b = J b) → (∀ i, i < 25 → J' 40 i = kL (adc H f x a i)) → q I J') : u_X9_addChance [.ref 37, .ref 3, .int x, .long w] (shp u) I J q := by
  rw [e_X9_addChance, p_X5_fells, h31]
  refine ⟨fun h => ?_, fun h => ?_⟩
  · rw [g_X9_addChance_36]
    refine ⟨rfl, hq J (fun _ _ => rfl) (fun i hi => ?_)⟩
    unfold adc; rw [cIf_t (b0p h)]; exact hf i hi
  · have hx := b0n h
    obtain ⟨e1, e2, e3, e4⟩ := lean_ix hH hx
    rw [p_X11_within]
    have e24 : (24 : Int32).toInt = 24 := rfl
    have hin : (0 : Int32).toInt ≤ (x + 12).toInt ∧ (x + 12).toInt ≤ (24 : Int32).toInt := by
      have hl := lok hH hx
      rw [e1, e24]; exact ⟨by show (0 : Int) ≤ _; omega, by omega⟩
    refine ⟨fun z => b0t hin z, fun _ => ⟨e2, e2, ?_⟩⟩
    rw [g_X9_addChance_36, e3]
    refine ⟨rfl, hq _ (fun b hb => zuJ_ne _ _ _ hb) (fun i hi => ?_)⟩
    unfold adc
    rw [cIf_f hx, zuJ_rd, if_pos rfl]
    by_cases hz : i = (x.toInt + 12).toNat
    · rw [if_pos hz, if_pos hz, ← hz, hf i hi, hw, k_add]
    · rw [if_neg hz, if_neg hz]; exact hf i hi
theorem c_turn {v : Nat → Nat} (hf : ∀ i, i < 25 → J 40 i = kL (v i)) (q : YQv) (hq : ∀ J', (∀ b, b ≠ 39 → b ≠ 40 → J' b = J b) → (∀ i, i < 25 → J' 39 i = kL (v i)) → (∀ i, i < 25 → J' 40 i = kL 0) → q I J') : u_X9_turnChances [.ref 37] (shp u) I J q := by
  rw [e_X9_turnChances]
  refine zlp 25 (fun k L I' J' => L = [some (.ref 37), some (.int (nI k))] ∧ I' = I ∧ (∀ b, b ≠ 39 → b ≠ 40 → J' b = J b) ∧ (∀ i, i < k → J' 39 i = kL (v i)) ∧ (∀ i, i < 25 → J' 40 i = if i < k then kL 0 else kL (v i))) ?_ ?_ _ _ _ ⟨rfl, rfl, fun _ _ _ => rfl, fun i hi => absurd hi (by omega), fun i hi => by rw [if_neg (by omega)]; exact hf i hi⟩
  · rintro k hk r L I' J' ⟨rfl, rfl, f1, f2, f3⟩ hr
    rw [g_X9_turnChances_2]
    refine ⟨fun h => absurd (show nI 25 ≤ nI k from h) (mI_ge hk (by omega)), fun _ => ?_⟩
    have hv : vp_in (nI k) 25 := mI_in hk (by omega)
    rw [mI_nat (by omega), mI_one, f3 k hk, if_neg (by omega)]
    refine ⟨hv, hv, hv, hr _ _ _ ⟨rfl, rfl, fun b b1 b2 => by rw [zuJ_ne _ _ _ b2, zuJ_ne _ _ _ b1]; exact f1 b b1 b2, fun i hi => ?_, fun i hi => ?_⟩⟩
    · rw [zuJ_rd, if_neg (by decide), zuJ_rd, if_pos rfl]
      by_cases h : i = k
      · rw [if_pos h, h]
      · rw [if_neg h]; exact f2 i (by omega)
    · rw [zuJ_rd, if_pos rfl]
      by_cases h : i = k
      · rw [if_pos h, if_pos (by omega)]; rfl
      · rw [if_neg h, zuJ_rd, if_neg (by decide), f3 i hi]
        by_cases h2 : i < k
        · rw [if_pos h2, if_pos (by omega)]
        · rw [if_neg h2, if_neg (by omega)]
  · rintro r L I' J' ⟨rfl, rfl, f1, f2, f3⟩
    rw [g_X9_turnChances_2]
    exact ⟨fun _ => ⟨rfl, hq J' f1 f2 (fun i hi => by rw [f3 i hi, if_pos hi])⟩, fun h => absurd (mI_rf 25) h⟩
/-- what comes through, over all -/
noncomputable def pgo (n : Nat → Int32) (h p c : Nat) : Nat := psm (vkv n (n (27 + 2 * h)) (n (28 + 2 * h)) p c (kkn (n 0).toInt.toNat p)) 25
def pgu (n : Nat → Int32) (p : Nat) : Nat := 10 ^ kkn (n 0).toInt.toNat p
theorem c_through {n : Nat → Int32} (hW : Wd 2 I n) (hV : Vd n) {h p c : Nat} (hk : 0 ≤ (n (27 + 2 * h)).toInt ∧ (n (27 + 2 * h)).toInt ≤ 5) (hp : 1 ≤ p ∧ p ≤ 3) (hc : c ≤ 10) (q : YQl)
    (hq : ∀ J', (∀ b, b ≠ 39 → b ≠ 40 → J' b = J b) → q I J' (kL (pgo n h p c))) :
    u_X9_through [.ref 37, .ref 3, .ref (42 + (n (27 + 2 * h)).toInt.toNat), .int (n (28 + 2 * h)), .int (nI p), .int (nI c)] (shp u) I J q := by
  have hM := n0_rg hV
  have hH := hV.2.1
  have hR := Rd_of hW hV
  obtain ⟨r0, r1, r2, r3, _, _⟩ := hR
  have r0' : I 3 0 = nI (n 0).toInt.toNat := by rw [r0]; exact n0_nI hV
  unfold pgo at hq
  generalize hkd : n (27 + 2 * h) = kd at hk hq ⊢
  generalize hset : n (28 + 2 * h) = set at hq ⊢
  generalize hMM : (n 0).toInt.toNat = M at hM hq r0'
  have hvk : ∀ k, vkv n kd set p c (k + 1) = nxv (n 1) kd (n (5 + min M ((k + 1) * p))) (n (21 + k % 6)) (nI p) c (vkv n kd set p c k) (2 * (n 1).toInt.toNat + 1) := fun k => by rw [← hMM]; rfl
  rw [e_X9_through]
  refine zlp 25 (fun k L I' J' => (∃ o7 o8 o9 o10 o11, L = [some (.ref 37), some (.ref 3), some (.ref (42 + kd.toInt.toNat)), some (.int set), some (.int (nI p)), some (.int (nI c)), some (.int (nI k)), o7, o8, o9, o10, o11]) ∧ I' = I ∧ (∀ b, b ≠ 39 → b ≠ 40 → J' b = J b) ∧ (∀ i, i < k → J' 40 i = kL 0)) ?_ ?_ _ _ _ ⟨⟨_, _, _, _, _, rfl⟩, rfl, fun _ _ _ => rfl, fun i hi => absurd hi (by omega)⟩
  · rintro k hk25 r L I' J' ⟨⟨o7, o8, o9, o10, o11, rfl⟩, rfl, f1, f2⟩ hr
    rw [g_X9_through_3]
    refine ⟨fun h => absurd (show nI 25 ≤ nI k from h) (mI_ge hk25 (by omega)), fun _ => ⟨mI_in hk25 (by omega), ?_⟩⟩
    rw [mI_nat (by omega), mI_one]
    refine hr _ _ _ ⟨⟨_, _, _, _, _, rfl⟩, rfl, fun b b1 b2 => by rw [zuJ_ne _ _ _ b2]; exact f1 b b1 b2, fun i hi => ?_⟩
    rw [zuJ_rd, if_pos rfl]
    by_cases h : i = k
    · rw [if_pos h]; rfl
    · rw [if_neg h]; exact f2 i (by omega)
  · rintro r L I' J' ⟨⟨o7, o8, o9, o10, o11, rfl⟩, rfl, f1, f2⟩
    rw [g_X9_through_3]
    refine ⟨fun _ => ?_, fun h => absurd (mI_rf 25) h⟩
    refine c_add hH r1 (f := fun _ => 0) f2 set (w := 1) (a := 1) rfl _ (fun J1 g1 g2 => ?_)
    have g1' : ∀ b, b ≠ 39 → b ≠ 40 → J1 b = J b := fun b b1 b2 => by rw [g1 b b2]; exact f1 b b1 b2
    clear g1 f1 f2
    have stop : ∀ (k : Nat) (J2 : ZJ) (o1 o2 o3 o4 o5 o6 o7 o8 o9 o10 o11 : Option Value), k = kkn M p → (∀ b, b ≠ 39 → b ≠ 40 → J2 b = J b) → (∀ i, i < 25 → J2 40 i = kL (vkv n kd set p c k i)) → b_X9_through_156 u_X9_addChance u_X5_cellBehind u_X9_turnChances u_X9_chanceOf u_X5_cobbleOf u_X5_windIn zLBy (ql (shp u) q) [some (.ref 37), o1, o2, o3, o4, o5, o6, o7, o8, o9, o10, o11] [] (shp u) I' J2 := by
      intro k J2 o1 o2 o3 o4 o5 o6 o7 o8 o9 o10 o11 hkk h1 h2
      rw [g_X9_through_156]
      refine zlp 25 (fun i L I3 J3 => (∃ o1 o2 o3 o4 o5 o6 o8 o10 o11, L = [some (.ref 37), o1, o2, o3, o4, o5, o6, some (.long (kL (psm (vkv n kd set p c k) i))), o8, some (.int (nI i)), o10, o11]) ∧ I3 = I' ∧ J3 = J2) ?_ ?_ _ _ _ ⟨⟨_, _, _, _, _, _, _, _, _, rfl⟩, rfl, rfl⟩
      · rintro i hi r2 L I3 J3 ⟨⟨p1, p2, p3, p4, p5, p6, p8, p10, p11, rfl⟩, rfl, rfl⟩ hr2
        rw [g_X9_through_162]
        refine ⟨fun h => absurd (show nI 25 ≤ nI i from h) (mI_ge hi (by omega)), fun _ => ⟨mI_in hi (by omega), ?_⟩⟩
        rw [mI_nat (by omega), mI_one, h2 i hi, k_add]
        exact hr2 _ _ _ ⟨⟨_, _, _, _, _, _, _, _, _, rfl⟩, rfl, rfl⟩
      · rintro r2 L I3 J3 ⟨⟨p1, p2, p3, p4, p5, p6, p8, p10, p11, rfl⟩, rfl, rfl⟩
        rw [g_X9_through_162]
        refine ⟨fun _ => ⟨rfl, ?_⟩, fun h => absurd (mI_rf 25) h⟩
        rw [hkk]; exact hq J3 h1
    refine zlp M (fun k L I2 J2 => (∃ o3 o8 o9 o10 o11, L = [some (.ref 37), some (.ref 3), some (.ref (42 + kd.toInt.toNat)), o3, some (.int (nI p)), some (.int (nI c)), some (.int (nI (min M (k * p)))), some (.int (nI k)), o8, o9, o10, o11]) ∧ (k = 0 ∨ (k - 1) * p < M) ∧ I2 = I' ∧ (∀ b, b ≠ 39 → b ≠ 40 → J2 b = J b) ∧ (∀ i, i < 25 → J2 40 i = kL (vkv n kd set p c k i))) ?_ ?_ _ _ _ ⟨⟨_, _, _, _, _, by rw [Nat.zero_mul, Nat.min_zero]; rfl⟩, Or.inl rfl, rfl, g1', g2⟩
    · rintro k hkM r2 L I2 J2 ⟨⟨o3, o8, o9, o10, o11, rfl⟩, hkp, rfl, h1, h2⟩ hr2
      rw [g_X9_through_37, r0', mI_le (by omega) (by omega)]
      refine ⟨fun h => ?_, fun _ => ⟨fun h => ?_, fun h => ?_⟩⟩
      · exact absurd (show nI 15 ≤ nI k from h) (mI_ge (by omega) (by omega))
      · exact stop k J2 _ _ _ _ _ _ _ _ _ _ _ (kkn_e hM.1 hp (by omega) hkp) h1 h2
      · have hlt : k * p < M := by omega
        have e1 : (k + 1) * p = k * p + p := Nat.succ_mul k p
        have ecel : cel (nI M) (nI (min M (k * p))) (nI p) = nI (min M ((k + 1) * p)) := by
          rw [cel_nat hM (by omega) (by omega)]; congr 1; omega
        rw [p_X5_cellBehind, r0', ecel]
        refine c_turn h2 _ (fun J3 t1 t2 t3 => ?_)
        have t1' : ∀ b, b ≠ 39 → b ≠ 40 → J3 b = J b := fun b b1 b2 => by rw [t1 b b1 b2]; exact h1 b b1 b2
        have e0 : -(I2 3 1) = nI 0 - n 1 := by rw [r1]; apply i_ext; rw [i_neg, i_sub, i_nI _ (by omega)]; omega
        rw [e0]
        have hto : (nI (min M ((k + 1) * p))).toInt = (min M ((k + 1) * p) : Nat) := i_nI _ (by omega)
        refine zlp (2 * (n 1).toInt.toNat + 1) (fun j L I4 J4 => (∃ o3 o9 o10 o11, L = [some (.ref 37), some (.ref 3), some (.ref (42 + kd.toInt.toNat)), o3, some (.int (nI p)), some (.int (nI c)), some (.int (nI (min M ((k + 1) * p)))), some (.int (nI k)), some (.int (nI j - n 1)), o9, o10, o11]) ∧ I4 = I2 ∧ (∀ b, b ≠ 39 → b ≠ 40 → J4 b = J b) ∧ (∀ i, i < 25 → J4 39 i = kL (vkv n kd set p c k i)) ∧ (∀ i, i < 25 → J4 40 i = kL (nxv (n 1) kd (n (5 + min M ((k + 1) * p))) (n (21 + k % 6)) (nI p) c (vkv n kd set p c k) j i))) ?_ ?_ _ _ _ ⟨⟨_, _, _, _, rfl⟩, rfl, t1', t2, t3⟩
        · rintro j hj r3 L I4 J4 ⟨⟨o3, o9, o10, o11, rfl⟩, rfl, s1, s2, s3⟩ hr3
          obtain ⟨l1, l2, l3⟩ := lj_ok hH hj
          rw [g_X9_through_74, r1]
          refine ⟨fun h => absurd h l3, fun _ => ?_⟩
          have ej : nI j - n 1 + 1 = nI (j + 1) - n 1 := by
            have e1 : (1 : Int32).toInt = 1 := rfl
            apply i_ext; rw [i_add, l1, e1, i_sub, i_nI _ (by omega)]; omega
          obtain ⟨x1, x2, x3, x4⟩ := lean_ix hH l2
          have hix : (nI j - n 1).toInt + 12 = (12 - (n 1).toInt.toNat + j : Nat) := by rw [l1]; omega
          have hch : ∀ (qq : YQl), qq I4 J4 (kL (vkv n kd set p c k (12 - (n 1).toInt.toNat + j))) → u_X9_chanceOf [.ref 37, .int (nI j - n 1)] (shp u) I4 J4 qq := by
            intro qq hqq
            rw [e_X9_chanceOf, p_X11_within]
            have e24 : (24 : Int32).toInt = 24 := rfl
            have hin : (0 : Int32).toInt ≤ (nI j - n 1 + 12).toInt ∧ (nI j - n 1 + 12).toInt ≤ (24 : Int32).toInt := by
              rw [x1, e24, hix]; exact ⟨by show (0 : Int) ≤ _; omega, by omega⟩
            refine ⟨fun z => b0t hin z, fun _ => ⟨x2, ?_⟩⟩
            rw [g_X9_chanceOf_25, x3, hix, Int.toNat_natCast, s2 _ (by omega)]
            exact ⟨rfl, hqq⟩
          refine hch _ ?_
          rw [p_X5_cobbleOf _ _ _ (by rw [hto]; omega), hto, Int.toNat_natCast, r2 _ (by omega), p_X5_windIn _ _ _ (by rw [i_nI _ (by omega)]; omega), wn_nI (by omega), r3 _ (by omega), p_LB _ _ _ hk]
          have e10 : (10 : Int32) - nI c = nI (10 - c) := mI_sub (a := 10) (b := c) hc
          rw [e10, k_32 (by omega), k_32 (by omega), k_mul, k_mul, ej]
          refine c_add hH r1 s3 _ rfl _ (fun J5 q1 q2 => ?_)
          refine c_add hH r1 q2 _ rfl _ (fun J6 q3 q4 => ?_)
          refine hr3 _ _ _ ⟨⟨_, _, _, _, rfl⟩, rfl, fun b b1 b2 => by rw [q3 b b2, q1 b b2]; exact s1 b b1 b2, fun i hi => by rw [q3 39 (by decide), q1 39 (by decide)]; exact s2 i hi, q4⟩
        · rintro r3 L I4 J4 ⟨⟨o3, o9, o10, o11, rfl⟩, rfl, s1, s2, s3⟩
          rw [g_X9_through_74, r1]
          have hgt : n 1 < nI (2 * (n 1).toInt.toNat + 1) - n 1 := by rw [i_lt, i_sub, i_nI _ (by omega)]; omega
          refine ⟨fun _ => ?_, fun h => absurd hgt h⟩
          rw [mI_one]
          exact hr2 _ _ _ ⟨⟨_, _, _, _, _, rfl⟩, Or.inr (by rw [Nat.add_sub_cancel]; exact hlt), rfl, s1, by rw [hvk]; exact s3⟩
    · rintro r2 L I2 J2 ⟨⟨o3, o8, o9, o10, o11, rfl⟩, hkp, rfl, h1, h2⟩
      have hMp : M * 1 ≤ M * p := Nat.mul_le_mul_left M hp.1
      have hkk := kkn_e hM.1 hp (k := M) (by omega) hkp
      rw [g_X9_through_37, r0', mI_le (by omega) (by omega)]
      refine ⟨fun _ => ?_, fun _ => ⟨fun _ => ?_, fun h => absurd (by omega) h⟩⟩
      · exact stop M J2 _ _ _ _ _ _ _ _ _ _ _ hkk h1 h2
      · exact stop M J2 _ _ _ _ _ _ _ _ _ _ _ hkk h1 h2
def g_pig (x1 x2 x3 : Int32) (n : Nat → Int32) : Prop := (0 ≤ x1.toInt ∧ x1.toInt ≤ (n 2 - 1).toInt) ∧ (1 ≤ x2.toInt ∧ x2.toInt ≤ 3) ∧ (0 ≤ x3.toInt ∧ x3.toInt ≤ 10)
noncomputable def pgA (x1 x2 x3 : Int32) (n : Nat → Int32) : Nat := pgo n x1.toInt.toNat x2.toInt.toNat x3.toInt.toNat
def pgB (x2 : Int32) (n : Nat → Int32) : Nat := pgu n x2.toInt.toNat
theorem pg_rg {n : Nat → Int32} (hV : Vd n) {h p c : Nat} (hp : 1 ≤ p ∧ p ≤ 3) (hc : c ≤ 10) : pgo n h p c ≤ pgu n p ∧ pgu n p ≤ 1000000000000000 ∧ 0 < pgu n p :=
  ⟨vkv_le hV.2.1 _ _ _ hc _, ten_le (kkn_le (n0_rg hV) hp), Nat.pow_pos (by omega)⟩
theorem c_pigeons (x1 x2 x3 : Int32) (I : ZI) (J : ZJ) (q : YQi) (hW : Wd 2 I (I 49)) (hV : Vd (I 49)) (hn : ¬ g_pig x1 x2 x3 (I 49) → q (zu I 0 10 (I 0 10 + 1)) J (-2))
    (hy : g_pig x1 x2 x3 (I 49) → ∀ J', J' 48 = J 48 → J' 0 8 = kL (pgA x1 x2 x3 (I 49) / Nat.gcd (pgA x1 x2 x3 (I 49)) (pgB x2 (I 49))) → J' 0 9 = kL (pgB x2 (I 49) / Nat.gcd (pgA x1 x2 x3 (I 49)) (pgB x2 (I 49))) → q I J' 1) :
    u_X11_pigeons [.ref 0, .int x1, .int x2, .int x3] (shp u) I J q := by
  have w2 : I 2 2 = I 49 2 := hW.2.2.1
  have no : ¬ g_pig x1 x2 x3 (I 49) → ∀ o1 o2 o3 o4 o5 o6, b_X11_pigeons_27 u_X11_isHead u_X11_within u_X11_bad u_X10_kindOf u_X11_kind u_X10_setOf u_X9_through u_X11_commonDivisor (qi (shp u) q) [some (.ref 0), o1, o2, o3, o4, o5, o6] [] (shp u) I J := by
    intro h o1 o2 o3 o4 o5 o6
    rw [g_X11_pigeons_27, p_X11_bad]
    exact ⟨rfl, hn h⟩
  rw [e_X11_pigeons, p_X11_isHead, w2]
  refine ⟨fun h => no (fun z => b0n h z.1) _ _ _ _ _ _, fun h1 => ?_⟩
  rw [p_X11_within]
  refine ⟨fun h => no (fun z => b0n h z.2.1) _ _ _ _ _ _, fun h2 => ?_⟩
  rw [p_X11_within]
  refine ⟨fun h3 => ?_, fun h => no (fun z => b0n h z.2.2) _ _ _ _ _ _⟩
  have g1 := b0p h1
  have g2 : 1 ≤ x2.toInt ∧ x2.toInt ≤ 3 := b0p h2
  have g3 : 0 ≤ x3.toInt ∧ x3.toInt ≤ 10 := b0p h3
  obtain ⟨k1, k2, k3⟩ := hd_of hV g1
  obtain ⟨e10, e11⟩ := hdW hW k2
  have fin := hy ⟨g1, g2, g3⟩
  unfold pgA pgB at fin
  obtain ⟨p, hp⟩ : ∃ p : Nat, x2 = nI p ∧ x2.toInt.toNat = p := ⟨_, mI_of (by omega), rfl⟩
  obtain ⟨c, hc⟩ : ∃ c : Nat, x3 = nI c ∧ x3.toInt.toNat = c := ⟨_, mI_of g3.1, rfl⟩
  have hp3 : 1 ≤ p ∧ p ≤ 3 := by omega
  have hc10 : c ≤ 10 := by omega
  rw [hp.2, hc.2] at fin
  rw [hp.1, hc.1, p_X10_kindOf _ _ _ k1, e10, p_X11_kind _ _ _ k3, p_X10_setOf _ _ _ k1, e11]
  refine c_through hW hV k3 hp3 hc10 _ (fun J1 f1 => ?_)
  obtain ⟨r1, r2, r3⟩ := pg_rg hV (h := x1.toInt.toNat) hp3 hc10
  have hM := n0_rg hV
  have w0 : I 3 0 = nI (I 49 0).toInt.toNat := by rw [← n0_nI hV]; exact hW.1
  have hu : pgu (I 49) p = 10 ^ kkn (I 49 0).toInt.toNat p := rfl
  generalize pgo (I 49) x1.toInt.toNat p c = A at fin r1 ⊢
  generalize (I 49 0).toInt.toNat = M at hM w0 hu
  have stop : ∀ (k : Nat) (J2 : ZJ) (o1 o2 o3 o4 o5 o6 : Option Value), k = kkn M p → J2 48 = J 48 → J2 0 8 = kL A → J2 0 9 = kL (10 ^ k) → b_X11_pigeons_128 u_X11_isHead u_X11_within u_X11_bad u_X10_kindOf u_X11_kind u_X10_setOf u_X9_through u_X11_commonDivisor (qi (shp u) q) [some (.ref 0), o1, o2, o3, o4, o5, o6] [] (shp u) I J2 := by
    intro k J2 o1 o2 o3 o4 o5 o6 hk j1 j2 j3
    rw [hk, ← hu] at j3
    rw [g_X11_pigeons_128, j2, j3]
    generalize pgu (I 49) p = B at fin r1 r2 r3 j3
    have hg0 : 0 < Nat.gcd A B := Nat.gcd_pos_of_pos_right A r3
    have hg1 : Nat.gcd A B ≤ B := Nat.gcd_le_right A r3
    refine c_gcd (by omega) (by omega) _ ?_
    have hle : (lg_cmp (kL (Nat.gcd A B)) 1 ≤ 0) = (Nat.gcd A B ≤ 1) := by
      have e1 : (1 : Int64) = kL 1 := rfl
      rw [e1]; apply propext
      rw [lg_cmp_le, j_le, k_i (by omega), k_i (by omega)]
      omega
    have hz : ¬ kL (Nat.gcd A B) = 0 := fun z => by
      have : kL (Nat.gcd A B) = kL 0 := z
      rw [k_eq (by omega) (by omega)] at this; omega
    rw [hle, j2, j3, g_X11_pigeons_170, g_X11_pigeons_170]
    refine ⟨fun h => ⟨rfl, ?_⟩, fun h => ⟨hz, hz, rfl, ?_⟩⟩
    · have e : Nat.gcd A B = 1 := by omega
      rw [e, Nat.div_one, Nat.div_one] at fin
      exact fin J2 j1 j2 j3
    · rw [k_div (by omega) hg0 (by omega), k_div (by omega) hg0 (by omega)]
      refine fin _ ?_ ?_ ?_
      · rw [zuJ_ne _ _ _ (by decide), zuJ_ne _ _ _ (by decide), j1]
      · rw [zuJ_rd, if_pos rfl, if_neg (by decide), zuJ_rd, if_pos rfl, if_pos rfl]
      · rw [zuJ_rd, if_pos rfl, if_pos rfl]
  refine zlp M (fun k L I2 J2 => (∃ o1 o3 o4 o6, L = [some (.ref 0), o1, some (.int (nI p)), o3, o4, some (.int (nI k)), o6]) ∧ (k = 0 ∨ (k - 1) * p < M) ∧ I2 = I ∧ J2 48 = J 48 ∧ J2 0 8 = kL A ∧ J2 0 9 = kL (10 ^ k)) ?_ ?_ _ _ _ ⟨⟨_, _, _, _, rfl⟩, Or.inl rfl, rfl, ?_, ?_, ?_⟩
  · rintro k hkM r L I2 J2 ⟨⟨o1, o3, o4, o6, rfl⟩, hkp, rfl, j1, j2, j3⟩ hr
    have hk3 : k * p ≤ k * 3 := Nat.mul_le_mul_left k hp3.2
    have hk15 : k < 15 := by omega
    rw [g_X11_pigeons_86, w0, mI_mul, mI_le (a := M) (b := k * p) (by omega) (by omega)]
    refine ⟨fun h => absurd (show nI 15 ≤ nI k from h) (mI_ge hk15 (by omega)), fun _ => ⟨fun h => ?_, fun h => ?_⟩⟩
    · exact stop k J2 _ _ _ _ _ _ (kkn_e hM.1 hp3 (by omega) hkp) j1 j2 j3
    · have e10' : (10 : Int64) = kL 10 := rfl
      rw [mI_one, j3, e10', k_mul]
      refine hr _ _ _ ⟨⟨_, _, _, _, rfl⟩, Or.inr (by rw [Nat.add_sub_cancel]; omega), rfl, ?_, ?_, ?_⟩
      · rw [zuJ_ne _ _ _ (by decide)]; exact j1
      · rw [zuJ_rd, if_pos rfl, if_neg (by decide)]; exact j2
      · rw [zuJ_rd, if_pos rfl, if_pos rfl, Nat.pow_succ]
  · rintro r L I2 J2 ⟨⟨o1, o3, o4, o6, rfl⟩, hkp, rfl, j1, j2, j3⟩
    have hMp : M * 1 ≤ M * p := Nat.mul_le_mul_left M hp3.1
    have hM3 : M * p ≤ M * 3 := Nat.mul_le_mul_left M hp3.2
    have hkk : M = kkn M p := kkn_e hM.1 hp3 (by omega) hkp
    rw [g_X11_pigeons_86, w0, mI_mul, mI_le (a := M) (b := M * p) (by omega) (by omega)]
    exact ⟨fun _ => stop M J2 _ _ _ _ _ _ hkk j1 j2 j3, fun _ => ⟨fun _ => stop M J2 _ _ _ _ _ _ hkk j1 j2 j3, fun h => absurd (by omega) h⟩⟩
  · rw [zuJ_ne _ _ _ (by decide), zuJ_ne _ _ _ (by decide), f1 48 (by decide) (by decide)]
  · rw [zuJ_rd, if_pos rfl, if_neg (by decide), zuJ_rd, if_pos rfl, if_pos rfl]
  · rw [zuJ_rd, if_pos rfl, if_pos rfl]; rfl
