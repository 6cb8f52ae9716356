/-! ===== flat: the class ===== -/
theorem mI_and (a b : Nat) : nI a &&& nI b = nI (a &&& b) := by
  unfold nI
  apply Int32.toBitVec_inj.mp
  rw [Int32.toBitVec_and, Int32.toBitVec_ofNat', Int32.toBitVec_ofNat', Int32.toBitVec_ofNat', BitVec.ofNat_and]
theorem smod_32 : ∀ c : Fin 32, ((nI c.val).toBitVec.smod 32).toNat = c.val := by decide +kernel
theorem and_31 : ∀ c : Fin 32, nI c.val &&& 31 = nI c.val := by decide +kernel
theorem shl_1 : ∀ c : Fin 17, (1 : Int32) <<< (nI c.val &&& 31) = nI (2 ^ c.val) := by decide +kernel
theorem mI_shr {m c : Nat} (hm : m < 2147483648) (hc : c < 32) : nI m >>> (nI c &&& 31) = nI (m / 2 ^ c) := by
  rw [and_31 ⟨c, hc⟩]
  have hd : m / 2 ^ c ≤ m := Nat.div_le_self _ _
  apply i_ext
  rw [i_nI (m / 2 ^ c) (by omega)]
  have h1 : (nI m >>> nI c).toInt = (nI m).toInt >>> c := by
    have : (nI m >>> nI c).toInt = (nI m >>> nI c).toBitVec.toInt := rfl
    rw [this, Int32.toBitVec_shiftRight, BitVec.toInt_sshiftRight', smod_32 ⟨c, hc⟩]
    rfl
  rw [h1, i_nI m hm, Int.shiftRight_eq_div_pow]
  norm_cast
theorem bit_r {m c : Nat} (hm : m < 2147483648) (hc : c < 32) : (((nI m >>> (nI c &&& 31)) &&& 1) = (1 : Int32)) = (m.testBit c = true) := by
  have e : (1 : Int32) = nI 1 := rfl
  have hd : m / 2 ^ c ≤ m := Nat.div_le_self _ _
  have h2 : m / 2 ^ c &&& 1 = m / 2 ^ c % 2 := Nat.and_one_is_mod _
  rw [mI_shr hm hc, e, mI_and, mI_eq (by omega) (by omega), Nat.testBit_eq_decide_div_mod_eq, h2]
  apply propext; simp
variable {u : Nat} {I : ZI} {J : ZJ}
theorem mI_ite {a b : Nat} (ha : a < 2147483648) (hb : b < 2147483648) : (if nI a < nI b then nI a else nI b) = nI (min b a) := by
  by_cases h : nI a < nI b
  · rw [if_pos h]; rw [mI_lt ha hb] at h; congr 1; omega
  · rw [if_neg h]; rw [mI_lt ha hb] at h; congr 1; omega
theorem p_cost_f {M : Nat} {H kd : Int32} {cb wd : Nat → Int32} {P : Nat → Nat → Int → Prop} (hM : 1 ≤ M ∧ M ≤ 15) (hH : 1 ≤ H.toInt ∧ H.toInt ≤ 12) (h0 : I 3 0 = nI M) (h1 : I 3 1 = H) (hT : Tb (I 38) nI (fw M H kd cb wd) M H P) {c t : Nat} {x : Int32} (hc : c ≤ M) (ht : t < 1000) (hP : ∀ t l, P c t l) (q : YQi) (hq : q I J (nI (cf M H kd cb wd (M - c) (t % 6) x))) :
    u_X9_costFrom [.ref 37, .ref 3, .int (nI c), .int (nI t), .int x] (shp u) I J q := by
  refine p_cost hM hH h0 h1 hc ht (fun h => ?_) (fun h h2 => ?_) (fun h h2 => ?_) q hq
  · unfold cf; rw [cIf_t h]; rfl
  · unfold cf; rw [cIf_f h, h2, Nat.sub_self, fw_0]; rfl
  · unfold cf; rw [cIf_f h]; exact hT c (t % 6) x h2 (by omega) h (hP _ _)
theorem p_few {M : Nat} {H kd : Int32} {cb wd : Nat → Int32} {P : Nat → Nat → Int → Prop} (hM : 1 ≤ M ∧ M ≤ 15) (hH : 1 ≤ H.toInt ∧ H.toInt ≤ 12) (hR : Rd I (nI M) H cb wd) (hk : 0 ≤ kd.toInt ∧ kd.toInt ≤ 5) {c t p : Nat} (hc : c < M) (ht : t < 900) (hp : 1 ≤ p ∧ p ≤ 3) (hT : Tb (I 38) nI (fw M H kd cb wd) M H P) (hP : ∀ c' t l, c < c' → P c' t l) (l : Int32) (q : YQi) (hq : q I J (nI (fv M H kd cb wd (M - c) p (t % 6) l))) :
    u_X9_fewestFlat [.ref 37, .ref 3, .ref (42 + kd.toInt.toNat), .int (nI c), .int (nI t), .int l, .int (nI p)] (shp u) I J q := by
  obtain ⟨r0, r1, r2, r3, _, _⟩ := hR
  rw [e_X9_fewestFlat, p_X5_cellBehind, r0, cel_nat hM (by omega) (by omega)]
  have hto : min M (c + p) = M - (M - c - p) := by omega
  have hto2 : M - min M (c + p) = M - c - p := by omega
  have hlt : c < min M (c + p) := by omega
  have hle : min M (c + p) ≤ M := by omega
  have et : (nI (min M (c + p))).toInt = (min M (c + p) : Nat) := i_nI _ (by omega)
  rw [p_X5_windIn _ _ _ (by rw [i_nI _ (by omega)]; omega), wn_nI (by omega), r3 _ (by omega), p_X5_cobbleOf _ _ _ (by rw [et]; omega), et, Int.toNat_natCast, r2 _ (by omega), p_LB _ _ _ hk, p_LB _ _ _ hk, mI_one]
  have hx : ∀ y, cf M H kd cb wd (M - min M (c + p)) ((t + 1) % 6) y = cf M H kd cb wd (M - c - p) ((t % 6 + 1) % 6) y := fun y => by
    rw [hto2]; congr 1; omega
  unfold fv at hq
  rw [← hto] at hq
  refine p_cost_f hM hH r0 r1 hT hle (by omega) (fun t l => hP _ t l hlt) _ ?_
  refine p_cost_f hM hH r0 r1 hT hle (by omega) (fun t l => hP _ t l hlt) _ ?_
  rw [hx, hx]
  have c1 := cf_le M H kd cb wd (M - c - p) ((t % 6 + 1) % 6) (lb kd l (cb (min M (c + p))) (wd (t % 6)) (nI p))
  have c2 := cf_le M H kd cb wd (M - c - p) ((t % 6 + 1) % 6) (lb kd l 0 (wd (t % 6)) (nI p))
  have hpow : 2 ^ min M (c + p) ≤ 2 ^ 15 := Nat.pow_le_pow_right (by omega) (by omega)
  have e65 : (65536 : Int32) = nI 65536 := rfl
  have hsl : (1 : Int32) <<< (nI (min M (c + p)) &&& 31) = nI (2 ^ min M (c + p)) := shl_1 ⟨min M (c + p), by omega⟩
  rw [hsl, e65, mI_add, mI_add, mI_ite (by omega) (by omega)]
  exact ⟨rfl, hq⟩
noncomputable def mf (M : Nat) (H kd : Int32) (cb wd : Nat → Int32) (d t : Nat) (l : Int32) : Nat → Nat
  | 0 => 16777216
  | k + 1 => min (mf M H kd cb wd d t l k) (fv M H kd cb wd d (k + 1) t l)
theorem mf_le (M : Nat) (H kd : Int32) (cb wd : Nat → Int32) (d t : Nat) (l : Int32) : ∀ k, mf M H kd cb wd d t l k ≤ 16777216 := by
  intro k
  induction k with
  | zero => exact Nat.le_refl _
  | succ k ih => show min _ _ ≤ _; omega
theorem mf_3 {M : Nat} {H kd : Int32} {cb wd : Nat → Int32} {d t : Nat} {l : Int32} (h : d ≠ 0) : mf M H kd cb wd d t l 3 = fw M H kd cb wd d t l := by
  rw [fw_s h]
  show min (min (min 16777216 (fv M H kd cb wd d 1 t l)) (fv M H kd cb wd d 2 t l)) (fv M H kd cb wd d 3 t l) = _
  omega
theorem fv_le {M : Nat} {H kd : Int32} {cb wd : Nat → Int32} (d p t : Nat) (l : Int32) : fv M H kd cb wd d p t l ≤ 16777216 := by
  unfold fv
  have := cf_le M H kd cb wd (d - p) ((t + 1) % 6) (lb kd l (cb (M - (d - p))) (wd t) (nI p))
  omega
theorem p_fillFlat {M : Nat} {H kd : Int32} {cb wd : Nat → Int32} (hM : 1 ≤ M ∧ M ≤ 15) (hH : 1 ≤ H.toInt ∧ H.toInt ≤ 12) (hR : Rd I (nI M) H cb wd) (hk : 0 ≤ kd.toInt ∧ kd.toInt ≤ 5) (q : YQv) (hq : ∀ I', F38 I I' → Tb (I' 38) nI (fw M H kd cb wd) M H (fun _ _ _ => True) → q I' J) :
    u_X9_fillFlat [.ref 37, .ref 3, .ref (42 + kd.toInt.toNat)] (shp u) I J q := by
  rw [e_X9_fillFlat, hR.1]
  refine zlp M (fun k L I' J' => (∃ o5 o6 o7 o8, L = [some (.ref 37), some (.ref 3), some (.ref (42 + kd.toInt.toNat)), some (.int (nI (M - k) - 1)), o5, o6, o7, o8]) ∧ F38 I I' ∧ Tb (I' 38) nI (fw M H kd cb wd) M H (fun c _ _ => M - k ≤ c) ∧ J' = J) ?_ ?_ _ _ _ ⟨⟨_, _, _, _, rfl⟩, fun _ _ => rfl, fun c t l h1 _ _ h => absurd h (by omega), rfl⟩
  · rintro k hkM r L I' J' ⟨⟨o5, o6, o7, o8, rfl⟩, hF, hT, rfl⟩ hr
    rw [g_X9_fillFlat_7]
    obtain ⟨c, hc, hcM⟩ : ∃ c, M - k = c + 1 ∧ c < M := ⟨M - k - 1, by omega, by omega⟩
    have ec : nI (M - k) - 1 = nI c := by rw [hc]; exact mI_sub (a := c + 1) (b := 1) (by omega)
    rw [ec]
    have hn0 : ¬ nI c < 0 := by rw [i_lt, i_nI _ (by omega)]; show ¬ (c : Int) < 0; omega
    refine ⟨fun h => absurd h hn0, fun _ => ?_⟩
    rw [hc] at hT
    refine zlp 6 (fun t L I' J'' => (∃ o6 o7 o8, L = [some (.ref 37), some (.ref 3), some (.ref (42 + kd.toInt.toNat)), some (.int (nI c)), some (.int (nI t)), o6, o7, o8]) ∧ F38 I I' ∧ Tb (I' 38) nI (fw M H kd cb wd) M H (fun c' t' _ => c < c' ∨ (c' = c ∧ t' < t)) ∧ J'' = J') ?_ ?_ _ _ _ ⟨⟨_, _, _, rfl⟩, hF, Tb_mono hT (fun c' t' l' _ _ _ h => by omega), rfl⟩
    · rintro t ht r2 L I2 J2 ⟨⟨o6, o7, o8, rfl⟩, hF, hT, rfl⟩ hr2
      rw [g_X9_fillFlat_14]
      refine ⟨fun h => absurd (show nI 6 ≤ nI t from h) (mI_ge ht (by omega)), fun _ => ?_⟩
      have e31 : I2 3 1 = H := by rw [hF 3 (by decide)]; exact hR.2.1
      have e0 : -(I2 3 1) = nI 0 - H := by rw [e31]; apply i_ext; rw [i_neg, i_sub, i_nI _ (by omega)]; omega
      rw [e0]
      refine zlp (2 * H.toInt.toNat + 1) (fun j L I' J'' => (∃ o7 o8, L = [some (.ref 37), some (.ref 3), some (.ref (42 + kd.toInt.toNat)), some (.int (nI c)), some (.int (nI t)), some (.int (nI j - H)), o7, o8]) ∧ F38 I I' ∧ Tb (I' 38) nI (fw M H kd cb wd) M H (fun c' t' l' => c < c' ∨ (c' = c ∧ (t' < t ∨ (t' = t ∧ l' < j - H.toInt)))) ∧ J'' = J2) ?_ ?_ _ _ _ ⟨⟨_, _, rfl⟩, hF, Tb_mono hT (fun c' t' l' _ _ hl h => by rw [i_neg] at hl; omega), rfl⟩
      · rintro j hj r3 L I3 J3 ⟨⟨o7, o8, rfl⟩, hF, hT, rfl⟩ hr3
        have e31 : I3 3 1 = H := by rw [hF 3 (by decide)]; exact hR.2.1
        obtain ⟨l1, l2, l3⟩ := lj_ok hH hj
        rw [g_X9_fillFlat_28, e31]
        refine ⟨fun h => absurd h l3, fun _ => ?_⟩
        have ej : nI j - H + 1 = nI (j + 1) - H := by
          have e1 : (1 : Int32).toInt = 1 := rfl
          apply i_ext; rw [i_add, l1, e1, i_sub, i_nI _ (by omega)]; omega
        refine zlp 3 (fun p L I' J'' => L = [some (.ref 37), some (.ref 3), some (.ref (42 + kd.toInt.toNat)), some (.int (nI c)), some (.int (nI t)), some (.int (nI j - H)), some (.int (nI (mf M H kd cb wd (M - c) t (nI j - H) p))), some (.int (nI (p + 1)))] ∧ I' = I3 ∧ J'' = J3) ?_ ?_ _ _ _ ⟨rfl, rfl, rfl⟩
        · rintro p hp r4 L I4 J4 ⟨rfl, rfl, rfl⟩ hr4
          rw [g_X9_fillFlat_44]
          refine ⟨fun h => absurd (show nI 3 < nI (p + 1) from h) (by rw [mI_lt (by omega) (by omega)]; omega), fun _ => ?_⟩
          refine p_few hM hH (Rd_fr hR (hF 3 (by decide)) (hF 4 (by decide)) (hF 5 (by decide))) hk hcM (by omega) ⟨by omega, by omega⟩ hT (fun c' t' l' h => Or.inl h) _ _ ?_
          have h1 := fv_le (M := M) (H := H) (kd := kd) (cb := cb) (wd := wd) (M - c) (p + 1) t (nI j - H)
          have h2 := mf_le M H kd cb wd (M - c) t (nI j - H) p
          rw [Nat.mod_eq_of_lt ht, mI_ite (by omega) (by omega), mI_one]
          exact hr4 _ _ _ ⟨rfl, rfl, rfl⟩
        · rintro r4 L I4 J4 ⟨rfl, rfl, rfl⟩
          rw [g_X9_fillFlat_44]
          refine ⟨fun _ => ?_, fun h => absurd (show nI 3 < nI (3 + 1) by decide) h⟩
          refine p_put hH (by omega) ht l2 _ _ ?_
          rw [ej, mf_3 (by omega)]
          refine hr3 _ _ _ ⟨⟨_, _, rfl⟩, fun a ha => by rw [zu_ne _ _ _ ha]; exact hF a ha, ?_, rfl⟩
          refine Tb_put hH.2 hT ht l2 (by rw [zu_rd, if_pos rfl, if_pos rfl]) (fun k hk => by rw [zu_rd, if_pos rfl, if_neg hk]) (fun c' t' l' h => ?_)
          rw [l1]
          omega
      · rintro r3 L I3 J3 ⟨⟨o7, o8, rfl⟩, hF, hT, rfl⟩
        have e31 : I3 3 1 = H := by rw [hF 3 (by decide)]; exact hR.2.1
        rw [g_X9_fillFlat_28, e31]
        have hgt : H < nI (2 * H.toInt.toNat + 1) - H := by rw [i_lt, i_sub, i_nI _ (by omega)]; omega
        refine ⟨fun _ => ?_, fun h => absurd hgt h⟩
        rw [mI_one]
        exact hr2 _ _ _ ⟨⟨_, _, _, rfl⟩, hF, Tb_mono hT (fun c' t' l' _ _ hl h => by omega), rfl⟩
    · rintro r2 L I2 J2 ⟨⟨o6, o7, o8, rfl⟩, hF, hT, rfl⟩
      rw [g_X9_fillFlat_14]
      refine ⟨fun _ => ?_, fun h => absurd (mI_rf 6) h⟩
      have en : nI c + (-1) = nI (M - (k + 1)) - 1 := by
        have e1 : (1 : Int32).toInt = 1 := rfl
        have e2 : (-1 : Int32).toInt = -1 := rfl
        have : M - (k + 1) = c := by omega
        rw [this]; apply i_ext; rw [i_add, i_sub, e1, e2, i_nI _ (by omega)]; omega
      rw [en]
      exact hr _ _ _ ⟨⟨_, _, _, _, rfl⟩, hF, Tb_mono hT (fun c' t' l' _ ht' _ h => by omega), rfl⟩
  · rintro r L I' J' ⟨⟨o5, o6, o7, o8, rfl⟩, hF, hT, rfl⟩
    rw [g_X9_fillFlat_7, Nat.sub_self]
    refine ⟨fun _ => ⟨rfl, hq I' hF (Tb_mono hT (fun _ _ _ _ _ _ _ => by omega))⟩, fun h => absurd (show (nI 0 - 1 : Int32) < 0 by decide) h⟩
theorem e_65 : (65536 : Int32).toInt = 65536 := rfl
theorem z_65 : ¬ (65536 : Int32) = 0 := fun h => by
  have h2 := congrArg Int32.toInt h
  rw [e_65] at h2
  have z0 : (0 : Int32).toInt = 0 := rfl
  rw [z0] at h2
  omega
theorem dm_65 {w : Nat} (hle : w ≤ 16777216) : nI w / 65536 = nI (w / 65536) ∧ nI w - nI (w / 65536) * 65536 = nI (w % 65536) := by
  have hw : (nI w).toInt = w := i_nI _ (by omega)
  have hd : (nI (w / 65536)).toInt = (w / 65536 : Nat) := i_nI _ (by omega)
  have hm : (nI (w % 65536)).toInt = (w % 65536 : Nat) := i_nI _ (by omega)
  refine ⟨?_, ?_⟩
  · apply i_ext
    rw [i_div (by rw [hw]; omega) (by rw [e_65]; omega), hw, hd, e_65]
    omega
  · apply i_ext
    rw [i_sub, i_mul, hw, hd, hm, e_65]
    omega
/-- the fewest flats of a told head, in the world n -/
noncomputable def flw (n : Nat → Int32) (h t : Nat) : Nat := cf (n 0).toInt.toNat (n 1) (n (27 + 2 * h)) (fun c => n (5 + c)) (fun i => n (21 + i)) (n 0).toInt.toNat t (n (28 + 2 * h))
noncomputable def a_flt (x1 x2 : Int32) (n : Nat → Int32) : Int32 := if flw n x1.toInt.toNat x2.toInt.toNat / 65536 ≤ 3 then nI (flw n x1.toInt.toNat x2.toInt.toNat % 65536) else -1
def g_flt (x1 x2 : Int32) (n : Nat → Int32) : Prop := (0 ≤ x1.toInt ∧ x1.toInt ≤ (n 2 - 1).toInt) ∧ (0 ≤ x2.toInt ∧ x2.toInt ≤ 5)
theorem c_flat (x1 x2 : Int32) (I : ZI) (q : YQi) (hW : Wd 2 I (I 49)) (hV : Vd (I 49)) (hn : ¬ g_flt x1 x2 (I 49) → q (zu I 0 10 (I 0 10 + 1)) J (-2)) (hy : g_flt x1 x2 (I 49) → ∀ I', Fr I I' → q I' J (a_flt x1 x2 (I 49))) :
    u_X11_flat [.ref 0, .int x1, .int x2] (shp u) I J q := by
  have w2 : I 2 2 = I 49 2 := hW.2.2.1
  have no : ¬ g_flt x1 x2 (I 49) → ∀ o1 o2 o3, b_X11_flat_15 u_X11_isHead u_X11_isStep u_X11_bad u_X10_kindOf u_X11_kind u_X9_fillFlat u_X10_setOf u_X9_costFrom (qi (shp u) q) [some (.ref 0), o1, o2, o3] [] (shp u) I J := by
    intro h o1 o2 o3
    rw [g_X11_flat_15, p_X11_bad]
    exact ⟨rfl, hn h⟩
  rw [e_X11_flat, p_X11_isHead, w2]
  refine ⟨fun h => no (fun z => b0n h z.1) _ _ _, fun h1 => ?_⟩
  rw [p_X11_isStep]
  refine ⟨fun h2 => ?_, fun h => no (fun z => b0n h z.2) _ _ _⟩
  have g1 := b0p h1
  have g2 := b0p h2
  obtain ⟨k1, k2, k3⟩ := hd_of hV g1
  obtain ⟨e10, e11⟩ := hdW hW k2
  have fin := hy ⟨g1, g2⟩
  unfold a_flt flw at fin
  rw [p_X10_kindOf _ _ _ k1, e10, p_X11_kind _ _ _ k3]
  have hR := Rd_of hW hV
  rw [n0_nI hV] at hR
  refine p_fillFlat (n0_rg hV) hV.2.1 hR k3 _ (fun I1 hF1 hT1 => ?_)
  have hW1 := Wd_q hW (Fr_38 hF1)
  rw [p_X10_setOf _ _ _ k1, (hdW hW1 k2).2]
  obtain ⟨t, ht, ht6⟩ : ∃ t : Nat, x2 = nI t ∧ t < 6 := ⟨_, mI_of g2.1, by omega⟩
  have et : x2.toInt.toNat = t := by rw [ht, i_nI _ (by omega)]; rfl
  rw [et] at fin
  rw [ht]
  have w0 : I1 3 0 = nI (I 49 0).toInt.toNat := by rw [← n0_nI hV]; exact hW1.1
  refine p_cost_f (c := 0) (n0_rg hV) hV.2.1 w0 hW1.2.1 hT1 (by omega) (by omega) (fun _ _ => trivial) _ ?_
  rw [Nat.mod_eq_of_lt ht6, Nat.sub_zero]
  have hle := cf_le (I 49 0).toInt.toNat (I 49 1) (I 49 (27 + 2 * x1.toInt.toNat)) (fun c => I 49 (5 + c)) (fun i => I 49 (21 + i)) (I 49 0).toInt.toNat t (I 49 (28 + 2 * x1.toInt.toNat))
  generalize cf (I 49 0).toInt.toNat (I 49 1) (I 49 (27 + 2 * x1.toInt.toNat)) (fun c => I 49 (5 + c)) (fun i => I 49 (21 + i)) (I 49 0).toInt.toNat t (I 49 (28 + 2 * x1.toInt.toNat)) = w at fin hle ⊢
  obtain ⟨hdv, hmd⟩ := dm_65 hle
  have h3 : (nI (w / 65536) ≤ 3) = (w / 65536 ≤ 3) := mI_le (a := w / 65536) (b := 3) (by omega) (by omega)
  rw [hdv, hmd, h3]
  refine ⟨z_65, fun h => ⟨z_65, ?_⟩, fun h => ?_⟩
  · rw [if_pos h] at fin
    rw [g_X11_flat_89]; exact ⟨rfl, fin I1 (Fr_38 hF1)⟩
  · rw [if_neg h] at fin
    rw [g_X11_flat_89]; exact ⟨rfl, fin I1 (Fr_38 hF1)⟩
