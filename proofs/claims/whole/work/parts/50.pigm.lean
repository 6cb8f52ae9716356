/-! ===== pigeons: the reference ===== -/
variable {u : Nat} {I : ZI} {J : ZJ}
theorem m_cases {n : Nat → Int32} (hV : Vd n) (e49 : I 49 = n) {M : Nat} (hM : 1 ≤ M ∧ M ≤ 15) (e0 : n 0 = nI M) (h53 : ∀ c, c < 16 → I 53 c = n (5 + c)) {kd : Int32} (hk : 0 ≤ kd.toInt ∧ kd.toInt ≤ 5) {p c k : Nat} (hp : 1 ≤ p ∧ p ≤ 3) (hc : c ≤ 10) (hkp : k * p < M) {v : Nat → Nat} (hv : ∀ i, i < 25 → J 56 i = kL (v i)) (q : YQv)
    (hq : ∀ J', (∀ b, b ≠ 56 → b ≠ 57 → J' b = J b) → (∀ i, i < 25 → J' 56 i = kL (nxv (n 1) kd (n (5 + min M ((k + 1) * p))) (n (21 + k % 6)) (nI p) c v (2 * (n 1).toInt.toNat + 1) i)) → q I J') :
    u_X12_goCases [.ref 48, .int kd, .int (nI (min M (k * p))), .int (nI k), .int (nI p), .int (nI c)] (shp u) I J q := by
  have hH := hV.2.1
  have h15 := kp_lt hp hkp
  have e1 : (k + 1) * p = k * p + p := Nat.succ_mul k p
  have ecel : cel (I 49 0) (nI (min M (k * p))) (nI p) = nI (min M ((k + 1) * p)) := by
    rw [e49, e0, cel_nat hM (by omega) (by omega)]; congr 1; omega
  have hto : (nI (min M ((k + 1) * p))).toInt = (min M ((k + 1) * p) : Nat) := i_nI _ (by omega)
  rw [e_X12_goCases]
  refine zlp 25 (fun i L I' J' => (∃ o7, L = [some (.ref 48), some (.int kd), some (.int (nI (min M (k * p)))), some (.int (nI k)), some (.int (nI p)), some (.int (nI c)), some (.int (nI i)), o7]) ∧ I' = I ∧ (∀ b, b ≠ 57 → J' b = J b) ∧ (∀ j, j < i → J' 57 j = kL 0)) ?_ ?_ _ _ _ ⟨⟨_, rfl⟩, rfl, fun _ _ => rfl, fun i hi => absurd hi (by omega)⟩
  · rintro i hi r L I' J' ⟨⟨o7, rfl⟩, rfl, f1, f2⟩ hr
    rw [g_X12_goCases_3]
    refine ⟨fun h => absurd (show nI 25 ≤ nI i from h) (mI_ge hi (by omega)), fun _ => ⟨mI_in hi (by omega), ?_⟩⟩
    rw [mI_nat (by omega), mI_one]
    refine hr _ _ _ ⟨⟨_, rfl⟩, rfl, fun b b1 => by rw [zuJ_ne _ _ _ b1]; exact f1 b b1, fun j hj => ?_⟩
    rw [zuJ_rd, if_pos rfl]
    by_cases h : j = i
    · rw [if_pos h]; rfl
    · rw [if_neg h]; exact f2 j (by omega)
  · rintro r L I' J1 ⟨⟨o7, rfl⟩, rfl, f1, f2⟩
    rw [g_X12_goCases_3]
    refine ⟨fun _ => ?_, fun h => absurd (mI_rf 25) h⟩
    have em : -(I' 49 1) = nI 0 - n 1 := by rw [e49]; apply i_ext; rw [i_neg, i_sub, i_nI _ (by omega)]; omega
    rw [em]
    have hv1 : ∀ i, i < 25 → J1 56 i = kL (v i) := fun i hi => by rw [f1 56 (by decide)]; exact hv i hi
    refine zlp (2 * (n 1).toInt.toNat + 1) (fun j L I4 J4 => (∃ o7, L = [some (.ref 48), some (.int kd), some (.int (nI (min M (k * p)))), some (.int (nI k)), some (.int (nI p)), some (.int (nI c)), some (.int (nI j - n 1)), o7]) ∧ I4 = I' ∧ (∀ b, b ≠ 57 → J4 b = J b) ∧ (∀ i, i < 25 → J4 57 i = kL (nxv (n 1) kd (n (5 + min M ((k + 1) * p))) (n (21 + k % 6)) (nI p) c v j i))) ?_ ?_ _ _ _ ⟨⟨_, rfl⟩, rfl, f1, f2⟩
    · rintro j hj r3 L I4 J4 ⟨⟨o7, rfl⟩, rfl, s1, s3⟩ hr3
      obtain ⟨l1, l2, l3⟩ := lj_ok hH hj
      have ej : nI j - n 1 + 1 = nI (j + 1) - n 1 := by
        have e1 : (1 : Int32).toInt = 1 := rfl
        apply i_ext; rw [i_add, l1, e1, i_sub, i_nI _ (by omega)]; omega
      obtain ⟨x1, x2, x3, x4⟩ := lean_ix hH l2
      have hix : (nI j - n 1).toInt + 12 = (12 - (n 1).toInt.toNat + j : Nat) := by rw [l1]; omega
      have hvj : J4 56 (nI j - n 1 + 12).toNatClampNeg = kL (v (12 - (n 1).toInt.toNat + j)) := by
        rw [x3, hix, Int.toNat_natCast, s1 56 (by decide)]; exact hv _ (by omega)
      have e10 : (10 : Int32) - nI c = nI (10 - c) := mI_sub (a := 10) (b := c) hc
      rw [g_X12_goCases_33, e49]
      refine ⟨fun h => absurd h l3, fun _ => ?_⟩
      rw [p_X12_leanBehind _ _ _ hk (by rw [ecel, hto]; omega) (by rw [i_nI _ (by omega)]; omega), ecel, hto, Int.toNat_natCast, h53 _ (by omega), wn_nI (by omega), e49]
      generalize hX : lb kd (nI j - n 1) (n (5 + min M ((k + 1) * p))) (n (21 + k % 6)) (nI p) = X
      have est : nxv (n 1) kd (n (5 + min M ((k + 1) * p))) (n (21 + k % 6)) (nI p) c v (j + 1) = adc (n 1) (adc (n 1) (nxv (n 1) kd (n (5 + min M ((k + 1) * p))) (n (21 + k % 6)) (nI p) c v j) X (v (12 - (n 1).toInt.toNat + j) * (10 - c))) (X + 1) (v (12 - (n 1).toInt.toNat + j) * c) := by rw [← hX]; rfl
      generalize nxv (n 1) kd (n (5 + min M ((k + 1) * p))) (n (21 + k % 6)) (nI p) c v j = f at s3 est
      have second : ∀ (J5 : ZJ) (g : Nat → Nat), (∀ b, b ≠ 57 → J5 b = J b) → (∀ i, i < 25 → J5 57 i = kL (g i)) → g = adc (n 1) f X (v (12 - (n 1).toInt.toNat + j) * (10 - c)) → b_X12_goCases_96 u_X12_leanBehind u_X12_falls (qv (shp u) q) r3 [some (.ref 48), some (.int kd), some (.int (nI (min M (k * p)))), some (.int (nI k)), some (.int (nI p)), some (.int (nI c)), some (.int (nI j - n 1)), some (.int X)] [] (shp u) I4 J5 := by
        intro J5 g t1 t2 hg
        have hvj5 : J5 56 (nI j - n 1 + 12).toNatClampNeg = kL (v (12 - (n 1).toInt.toNat + j)) := by
          rw [x3, hix, Int.toNat_natCast, t1 56 (by decide)]; exact hv _ (by omega)
        rw [g_X12_goCases_96, p_X12_falls, e49]
        refine ⟨fun h => ?_, fun h => ?_⟩
        · rw [g_X12_goCases_136, ej]
          refine hr3 _ _ _ ⟨⟨_, rfl⟩, rfl, t1, fun i hi => ?_⟩
          rw [est, ← hg]; unfold adc; rw [cIf_t (b0p h)]; exact t2 i hi
        · have hx := b0n h
          obtain ⟨y1, y2, y3, y4⟩ := lean_ix hH hx
          refine ⟨y2, x2, y2, ?_⟩
          rw [g_X12_goCases_136, ej, hvj5, k_32 (by omega), k_mul, y3, Nat.mul_comm c]
          refine hr3 _ _ _ ⟨⟨_, rfl⟩, rfl, fun b hb => by rw [zuJ_ne _ _ _ hb]; exact t1 b hb, fun i hi => ?_⟩
          rw [est, ← hg]; unfold adc; rw [cIf_f hx, zuJ_rd, if_pos rfl]
          by_cases hz : i = ((X + 1).toInt + 12).toNat
          · rw [if_pos hz, if_pos hz, ← hz, t2 i hi, k_add]
          · rw [if_neg hz, if_neg hz]; exact t2 i hi
      rw [p_X12_falls, e49]
      refine ⟨fun h => ?_, fun h => ?_⟩
      · refine second J4 f s1 s3 ?_
        unfold adc; rw [cIf_t (b0p h)]
      · have hx := b0n h
        obtain ⟨y1, y2, y3, y4⟩ := lean_ix hH hx
        refine ⟨y2, x2, y2, ?_⟩
        rw [hvj, e10, k_32 (by omega), k_mul, y3, Nat.mul_comm (10 - c)]
        refine second _ (adc (n 1) f X (v (12 - (n 1).toInt.toNat + j) * (10 - c))) (fun b hb => by rw [zuJ_ne _ _ _ hb]; exact s1 b hb) (fun i hi => ?_) rfl
        unfold adc; rw [cIf_f hx, zuJ_rd, if_pos rfl]
        by_cases hz : i = (X.toInt + 12).toNat
        · rw [if_pos hz, if_pos hz, ← hz, s3 i hi, k_add]
        · rw [if_neg hz, if_neg hz]; exact s3 i hi
    · rintro r3 L I4 J4 ⟨⟨o7, rfl⟩, rfl, s1, s3⟩
      rw [g_X12_goCases_33, e49]
      have hgt : n 1 < nI (2 * (n 1).toInt.toNat + 1) - n 1 := by rw [i_lt, i_sub, i_nI _ (by omega)]; omega
      refine ⟨fun _ => ?_, fun h => absurd hgt h⟩
      refine zlp 25 (fun i L I5 J5 => (∃ o1 o2 o3 o4 o5 o7, L = [some (.ref 48), o1, o2, o3, o4, o5, some (.int (nI i)), o7]) ∧ I5 = I4 ∧ (∀ b, b ≠ 56 → b ≠ 57 → J5 b = J b) ∧ J5 57 = J4 57 ∧ (∀ l, l < i → J5 56 l = J4 57 l)) ?_ ?_ _ _ _ ⟨⟨_, _, _, _, _, _, rfl⟩, rfl, fun b _ b2 => s1 b b2, rfl, fun l hl => absurd hl (by omega)⟩
      · rintro i hi r5 L I5 J5 ⟨⟨o1, o2, o3, o4, o5, o7, rfl⟩, rfl, t1, t2, t3⟩ hr5
        rw [g_X12_goCases_145]
        have hin : vp_in (nI i) 25 := mI_in hi (by omega)
        refine ⟨fun h => absurd (show nI 25 ≤ nI i from h) (mI_ge hi (by omega)), fun _ => ⟨hin, hin, ?_⟩⟩
        rw [mI_nat (by omega), mI_one]
        refine hr5 _ _ _ ⟨⟨_, _, _, _, _, _, rfl⟩, rfl, fun b b1 b2 => by rw [zuJ_ne _ _ _ b1]; exact t1 b b1 b2, by rw [zuJ_ne _ _ _ (by decide)]; exact t2, fun l hl => ?_⟩
        rw [zuJ_rd, if_pos rfl]
        by_cases h : l = i
        · rw [if_pos h, t2, h]
        · rw [if_neg h]; exact t3 l (by omega)
      · rintro r5 L I5 J5 ⟨⟨o1, o2, o3, o4, o5, o7, rfl⟩, rfl, t1, t2, t3⟩
        rw [g_X12_goCases_145]
        exact ⟨fun _ => ⟨rfl, hq J5 t1 (fun i hi => by rw [t3 i hi]; exact s3 i hi)⟩, fun h => absurd (mI_rf 25) h⟩
theorem m_pigeons (x1 x2 x3 : Int32) (I : ZI) (J : ZJ) (q : YQi) (hV : Vd (I 49)) (hn : ¬ g_pig x1 x2 x3 (I 49) → q (zu I 52 0 (I 52 0 + 1)) J (-2))
    (hy : g_pig x1 x2 x3 (I 49) → ∀ I' J', Fr I I' → J' 0 = J 0 → J' 48 4 = kL (pgA x1 x2 x3 (I 49) / Nat.gcd (pgA x1 x2 x3 (I 49)) (pgB x2 (I 49))) → J' 48 5 = kL (pgB x2 (I 49) / Nat.gcd (pgA x1 x2 x3 (I 49)) (pgB x2 (I 49))) → q I' J' 1) :
    u_X12_pigeons [.ref 48, .int x1, .int x2, .int x3] (shp u) I J q := by
  have no : ¬ g_pig x1 x2 x3 (I 49) → ∀ o1 o2 o3 o4 o5 o6 o7 o8 o9, b_X12_pigeons_27 u_X12_isHead u_X12_isPace u_X12_in u_X12_bad u_X12_layStones u_X12_setOf u_X12_falls u_X12_fountain u_X12_kindOf u_X12_goCases u_X12_cellBy u_X12_fraction (qi (shp u) q) [some (.ref 48), o1, o2, o3, o4, o5, o6, o7, o8, o9] [] (shp u) I J := by
    intro h o1 o2 o3 o4 o5 o6 o7 o8 o9
    rw [g_X12_pigeons_27, p_X12_bad]
    exact ⟨rfl, hn h⟩
  rw [e_X12_pigeons, p_X12_isHead]
  refine ⟨fun h => no (fun z => b0n h z.1) _ _ _ _ _ _ _ _ _, fun h1 => ?_⟩
  rw [p_X12_isPace]
  refine ⟨fun h => no (fun z => b0n h z.2.1) _ _ _ _ _ _ _ _ _, fun h2 => ?_⟩
  rw [p_X12_in, ij_to]
  refine ⟨fun h3 => ?_, fun h => no (fun z => b0n h z.2.2) _ _ _ _ _ _ _ _ _⟩
  have g1 := b0p h1
  have g2 : 1 ≤ x2.toInt ∧ x2.toInt ≤ 3 := b0p h2
  have g3 : 0 ≤ x3.toInt ∧ x3.toInt ≤ 10 := b0p h3
  obtain ⟨k1, k2, k3⟩ := hd_of hV g1
  have fin := hy ⟨g1, g2, g3⟩
  unfold pgA pgB at fin
  obtain ⟨p, hp⟩ : ∃ p : Nat, x2 = nI p ∧ x2.toInt.toNat = p := ⟨_, mI_of (by omega), rfl⟩
  obtain ⟨c, hc⟩ : ∃ c : Nat, x3 = nI c ∧ x3.toInt.toNat = c := ⟨_, mI_of g3.1, rfl⟩
  have hp3 : 1 ≤ p ∧ p ≤ 3 := by omega
  have hc10 : c ≤ 10 := by omega
  rw [hp.2, hc.2] at fin
  rw [hp.1, hc.1]
  have hH := hV.2.1
  refine p_X12_layStones u I J _ ?_
  have l49 := lay_49 I
  have l53 : ∀ c, c < 16 → lay I 16 53 c = I 49 (5 + c) := fun c hc => by rw [lay_53 I c hc, l49]
  have lF := lay_Fr I
  generalize lay I 16 = I0 at l49 l53 lF ⊢
  obtain ⟨q1, q2, q3⟩ := pg_rg hV (h := x1.toInt.toNat) hp3 hc10
  have hM := n0_rg hV
  have e0 := n0_nI hV
  have hu : pgu (I 49) p = 10 ^ kkn (I 49 0).toInt.toNat p := rfl
  have ho : pgo (I 49) x1.toInt.toNat p c = psm (vkv (I 49) (I 49 (27 + 2 * x1.toInt.toNat)) (I 49 (28 + 2 * x1.toInt.toNat)) p c (kkn (I 49 0).toInt.toNat p)) 25 := rfl
  generalize hkd : I 49 (27 + 2 * x1.toInt.toNat) = kd at k3 ho
  generalize hset : I 49 (28 + 2 * x1.toInt.toNat) = set at ho
  have hvk : ∀ k, vkv (I 49) kd set p c (k + 1) = nxv (I 49 1) kd (I 49 (5 + min (I 49 0).toInt.toNat ((k + 1) * p))) (I 49 (21 + k % 6)) (nI p) c (vkv (I 49) kd set p c k) (2 * (I 49 1).toInt.toNat + 1) := fun k => rfl
  have hv0 : vkv (I 49) kd set p c 0 = adc (I 49 1) (fun _ => 0) set 1 := rfl
  generalize pgo (I 49) x1.toInt.toNat p c = A at fin q1 ho
  generalize (I 49 0).toInt.toNat = M at hM e0 hu ho hvk
  have hle : ∀ k, psm (vkv (I 49) kd set p c k) 25 ≤ 10 ^ k := vkv_le hH kd set p hc10
  generalize vkv (I 49) kd set p c = V at ho hvk hv0 hle
  refine zlp 25 (fun i L I' J' => (∃ o5 o6 o7 o8 o9, L = [some (.ref 48), some (.int x1), some (.int (nI p)), some (.int (nI c)), some (.int (nI i)), o5, o6, o7, o8, o9]) ∧ I' = I0 ∧ (∀ b, b ≠ 56 → J' b = J b) ∧ (∀ l, l < i → J' 56 l = kL (V 0 l))) ?_ ?_ _ _ _ ⟨⟨_, _, _, _, _, rfl⟩, rfl, fun _ _ => rfl, fun l hl => absurd hl (by omega)⟩
  · rintro i hi r L I' J' ⟨⟨o5, o6, o7, o8, o9, rfl⟩, rfl, f1, f2⟩ hr
    have e12 : (nI i - 12 : Int32).toInt = i - 12 := by
      have e1 : (12 : Int32).toInt = 12 := rfl
      rw [i_sub, i_nI _ (by omega), e1]; omega
    have put : ∀ (a : Nat) (z : Int64) (o5 o6 o7 o8 o9 : Option Value), z = kL a → V 0 i = a → b_X12_pigeons_84 u_X12_isHead u_X12_isPace u_X12_in u_X12_bad u_X12_layStones u_X12_setOf u_X12_falls u_X12_fountain u_X12_kindOf u_X12_goCases u_X12_cellBy u_X12_fraction (qi (shp u) q) r [some (.ref 48), some (.int x1), some (.int (nI p)), some (.int (nI c)), some (.int (nI i)), o5, o6, o7, o8, o9] [.long z, .int (nI i), .ref 56] (shp u) I' J' := by
      intro a z o5 o6 o7 o8 o9 hz ha
      rw [g_X12_pigeons_84, mI_nat (by omega), mI_one]
      refine ⟨mI_in hi (by omega), hr _ _ _ ⟨⟨_, _, _, _, _, rfl⟩, rfl, fun b hb => by rw [zuJ_ne _ _ _ hb]; exact f1 b hb, fun l hl => ?_⟩⟩
      rw [zuJ_rd, if_pos rfl]
      by_cases h : l = i
      · rw [if_pos h, h, ha, hz]
      · rw [if_neg h]; exact f2 l (by omega)
    rw [g_X12_pigeons_41]
    refine ⟨fun h => absurd (show nI 25 ≤ nI i from h) (mI_ge hi (by omega)), fun _ => ?_⟩
    rw [p_X12_setOf _ _ _ k1, l49, hset]
    refine ⟨fun h => ?_, fun h => ?_⟩
    · rw [g_X12_pigeons_83]
      refine put 0 0 _ _ _ _ _ rfl ?_
      rw [hv0]; unfold adc
      by_cases hf : fel (I 49 1) set
      · rw [cIf_t hf]
      · rw [cIf_f hf]
        show (if i = _ then _ else _) = 0
        have hl := lok hH hf
        rw [if_neg (fun z => h (i_ext (by rw [e12]; omega)))]
    · rw [p_X12_setOf _ _ _ k1, l49, hset, p_X12_falls, l49]
      refine ⟨fun h3 => ?_, fun h3 => ?_⟩
      · rw [g_X12_pigeons_83]
        refine put 0 0 _ _ _ _ _ rfl ?_
        rw [hv0]; unfold adc; rw [cIf_t (b0p h3)]
      · refine put 1 1 _ _ _ _ _ rfl ?_
        rw [hv0]; unfold adc; rw [cIf_f (b0n h3)]
        show (if i = _ then _ else _) = 1
        rw [← h, e12, if_pos (by omega)]
  · rintro r L I' J1 ⟨⟨o5, o6, o7, o8, o9, rfl⟩, rfl, f1, f2⟩
    rw [g_X12_pigeons_41]
    refine ⟨fun _ => ?_, fun h => absurd (mI_rf 25) h⟩
    have stop : ∀ (k : Nat) (J2 : ZJ) (o1 o2 o3 o5 o6 o8 : Option Value), k = kkn M p → (∀ b, b ≠ 56 → b ≠ 57 → J2 b = J b) → (∀ i, i < 25 → J2 56 i = kL (V k i)) → b_X12_pigeons_153 u_X12_isHead u_X12_isPace u_X12_in u_X12_bad u_X12_layStones u_X12_setOf u_X12_falls u_X12_fountain u_X12_kindOf u_X12_goCases u_X12_cellBy u_X12_fraction (qi (shp u) q) [some (.ref 48), o1, o2, o3, some (.long (kL (10 ^ k))), o5, o6, some (.long 0), o8, some (.int 0)] [] (shp u) I' J2 := by
      intro k J2 o1 o2 o3 o5 o6 o8 hkk h1 h2
      refine zlp 25 (fun i L I3 J3 => (∃ o1 o2 o3 o5 o6 o8, L = [some (.ref 48), o1, o2, o3, some (.long (kL (10 ^ k))), o5, o6, some (.long (kL (psm (V k) i))), o8, some (.int (nI i))]) ∧ I3 = I' ∧ J3 = J2) ?_ ?_ _ _ _ ⟨⟨_, _, _, _, _, _, rfl⟩, rfl, rfl⟩
      · rintro i hi r2 L I3 J3 ⟨⟨p1, p2, p3, p5, p6, p8, rfl⟩, rfl, rfl⟩ hr2
        rw [g_X12_pigeons_153]
        refine ⟨fun h => absurd (show nI 25 ≤ nI i from h) (mI_ge hi (by omega)), fun _ => ⟨mI_in hi (by omega), ?_⟩⟩
        rw [mI_nat (by omega), mI_one, h2 i hi, k_add]
        exact hr2 _ _ _ ⟨⟨_, _, _, _, _, _, rfl⟩, rfl, rfl⟩
      · rintro r2 L I3 J3 ⟨⟨p1, p2, p3, p5, p6, p8, rfl⟩, rfl, rfl⟩
        rw [g_X12_pigeons_153]
        refine ⟨fun _ => ?_, fun h => absurd (mI_rf 25) h⟩
        rw [hkk, ← ho, ← hu]
        refine m_frac (by omega) q2 q3 _ ⟨rfl, fin I3 _ lF ?_ ?_ ?_⟩
        · rw [zuJ_ne _ _ _ (by decide), zuJ_ne _ _ _ (by decide), h1 0 (by decide) (by decide)]
        · rw [zuJ_rd, if_pos rfl, if_neg (by decide), zuJ_rd, if_pos rfl, if_pos rfl]
        · rw [zuJ_rd, if_pos rfl, if_pos rfl]
    refine zlp M (fun k L I2 J2 => (∃ o5 o8 o9, L = [some (.ref 48), some (.int x1), some (.int (nI p)), some (.int (nI c)), some (.long (kL (10 ^ k))), o5, some (.int (nI (min M (k * p)))), some (.int (nI k)), o8, o9]) ∧ (k = 0 ∨ (k - 1) * p < M) ∧ I2 = I' ∧ (∀ b, b ≠ 56 → b ≠ 57 → J2 b = J b) ∧ (∀ i, i < 25 → J2 56 i = kL (V k i))) ?_ ?_ _ _ _ ⟨⟨_, _, _, by rw [Nat.zero_mul, Nat.min_zero]; rfl⟩, Or.inl rfl, rfl, fun b b1 _ => f1 b b1, f2⟩
    · rintro k hkM r2 L I2 J2 ⟨⟨o5, o8, o9, rfl⟩, hkp, rfl, h1, h2⟩ hr2
      rw [g_X12_pigeons_100, p_X12_fountain, l49, e0, mI_le (by omega) (by omega)]
      refine ⟨fun h => ?_, fun h => ?_⟩
      · exact stop k J2 _ _ _ _ _ _ (kkn_e hM.1 hp3 (by omega) hkp) h1 h2
      · have hlt : k * p < M := by omega
        have e1 : (k + 1) * p = k * p + p := Nat.succ_mul k p
        rw [p_X12_kindOf _ _ _ k1, l49, hkd]
        refine m_cases hV l49 hM e0 l53 k3 hp3 hc10 hlt h2 _ (fun J3 t1 t2 => ?_)
        have ecel : cel (nI M) (nI (min M (k * p))) (nI p) = nI (min M ((k + 1) * p)) := by
          rw [cel_nat hM (by omega) (by omega)]; congr 1; omega
        have e10' : (10 : Int64) = kL 10 := rfl
        rw [p_X12_cellBy, l49, e0, ecel, e10', k_mul, mI_one, ← Nat.pow_succ]
        exact hr2 _ _ _ ⟨⟨_, _, _, rfl⟩, Or.inr (by rw [Nat.add_sub_cancel]; exact hlt), rfl, fun b b1 b2 => by rw [t1 b b1 b2]; exact h1 b b1 b2, by rw [hvk]; exact t2⟩
    · rintro r2 L I2 J2 ⟨⟨o5, o8, o9, rfl⟩, hkp, rfl, h1, h2⟩
      have hMp : M * 1 ≤ M * p := Nat.mul_le_mul_left M hp3.1
      rw [g_X12_pigeons_100, p_X12_fountain, l49, e0, mI_le (by omega) (by omega)]
      exact ⟨fun h => stop M J2 _ _ _ _ _ _ (kkn_e hM.1 hp3 (by omega) hkp) h1 h2, fun h => absurd (by omega) h⟩
theorem o_pigeons (hR : Rl u I J) (x1 x2 x3 : Int32) (Q : ZI → ZJ → Int32 → Int32 → Prop) (hQ : ∀ I' J' v, Rl u I' J' → Q I' J' v v) :
    u_X11_pigeons [.ref 0, .int x1, .int x2, .int x3] (shp u) I J (fun I1 J1 v1 => u_X12_pigeons [.ref 48, .int x1, .int x2, .int x3] (shp u) I1 J1 (fun I2 J2 v2 => Q I2 J2 v1 v2)) := by
  refine c_pigeons x1 x2 x3 I J _ hR.1 hR.2.1 (fun hn => ?_) (fun hy J1 a1 a2 a3 => ?_)
  · have e49 : zu I 0 10 (I 0 10 + 1) 49 = I 49 := zu_ne _ _ _ (by decide)
    refine m_pigeons x1 x2 x3 _ _ _ (by rw [e49]; exact hR.2.1) (fun _ => ?_) (fun h => ?_)
    · exact hQ _ _ _ (Rl_bad hR)
    · rw [e49] at h; exact absurd h hn
  · refine m_pigeons x1 x2 x3 _ _ _ hR.2.1 (fun h => absurd hy h) (fun _ I2 J2 hF b1 b2 b3 => ?_)
    refine hQ _ _ _ ?_
    obtain ⟨p1, p2, p3, p4, p5, p6, p7⟩ := Rl_fr (J' := J) hR hF rfl rfl
    exact ⟨p1, p2, p3, ⟨by rw [b1, a2, b2], by rw [b1, a3, b3]⟩, p5, p6, p7⟩
