/-! ===== flat: the reference ===== -/
theorem pcn2_0 : ∀ k, pcn2 k 0 = 0 := by
  intro k
  induction k with
  | zero => rfl
  | succ k ih => show 0 % 2 + pcn2 k (0 / 2) = 0; simpa using ih
theorem pcn2_st : ∀ f g m, f ≤ g → m < 2 ^ f → pcn2 g m = pcn2 f m := by
  intro f
  induction f with
  | zero => intro g m _ h; have : m = 0 := by simpa using h
            subst this; rw [pcn2_0, pcn2_0]
  | succ f ih =>
    intro g m hg h
    obtain ⟨g', rfl⟩ : ∃ g', g = g' + 1 := ⟨g - 1, by omega⟩
    show m % 2 + pcn2 g' (m / 2) = m % 2 + pcn2 f (m / 2)
    rw [ih g' (m / 2) (by omega) (by rw [Nat.pow_succ] at h; omega)]
theorem pcn2_le : ∀ k m, pcn2 k m ≤ k := by
  intro k
  induction k with
  | zero => intro m; exact Nat.le_refl _
  | succ k ih => intro m; show m % 2 + pcn2 k (m / 2) ≤ k + 1; have := ih (m / 2); omega
def okm (M : Nat) (H kd : Int32) (cb wd : Nat → Int32) (t : Nat) (set : Int32) (m : Nat) : Prop := cw M H kd (cbm cb m) wd 0 M t set < 100
def binv (M : Nat) (H kd : Int32) (cb wd : Nat → Int32) (t : Nat) (set : Int32) (j : Nat) (best : Int32) : Prop :=
  (best = -1 ∧ ∀ i, i < j → pcn2 16 (2 * i) < 4 → ¬ okm M H kd cb wd t set (2 * i)) ∨
  (∃ i0, i0 < j ∧ best = nI (2 * i0) ∧ pcn2 16 (2 * i0) < 4 ∧ okm M H kd cb wd t set (2 * i0) ∧ ∀ i, i < j → pcn2 16 (2 * i) < 4 → okm M H kd cb wd t set (2 * i) → 65536 * pcn2 16 (2 * i0) + 2 * i0 ≤ 65536 * pcn2 16 (2 * i) + 2 * i)
theorem pow_le {M : Nat} (hM : M ≤ 15) : 2 ^ M ≤ 32768 := Nat.pow_le_pow_right (n := 2) (by omega) hM
theorem binv_end {M : Nat} {H kd : Int32} {cb wd : Nat → Int32} {t : Nat} {set best : Int32} (hM : 1 ≤ M ∧ M ≤ 15) (hb : binv M H kd cb wd t set (2 ^ M) best) : best = if cf M H kd cb wd M t set / 65536 ≤ 3 then nI (cf M H kd cb wd M t set % 65536) else -1 := by
  have hp := pow_le hM.2
  have hup : cf M H kd cb wd M t set < 16777216 → ∃ i, i < 2 ^ M ∧ 65536 * pcn2 16 (2 * i) + 2 * i = cf M H kd cb wd M t set ∧ okm M H kd cb wd t set (2 * i) := by
    intro h
    have hnf : ¬ fel H set := fun hx => by
      have e : cf M H kd cb wd M t set = 16777216 := cIf_t hx
      omega
    have e : cf M H kd cb wd M t set = fw M H kd cb wd M t set := cIf_f hnf
    rw [e] at h ⊢
    obtain ⟨m, m1, m2, m3, m4⟩ := fw_up M H kd cb wd hM.2 M (Nat.le_refl _) t set h
    have m0 := m2 0 (by omega)
    have hev : m % 2 = 0 := by
      rw [Nat.testBit_zero] at m0
      have : ¬ m % 2 = 1 := by simpa using m0
      omega
    have hc := csm_cost m1 hev
    have e2 : 2 * (m / 2) = m := by omega
    refine ⟨m / 2, by rw [Nat.pow_succ] at m1; omega, ?_, ?_⟩
    · rw [e2, pcn2_st (M + 1) 16 m (by omega) m1, ← hc, m3]
    · rw [e2]; unfold okm cw; rw [cIf_f hnf]; exact m4
  have hlow : ∀ i, i < 2 ^ M → okm M H kd cb wd t set (2 * i) → cf M H kd cb wd M t set ≤ 65536 * pcn2 16 (2 * i) + 2 * i := by
    intro i hi hok
    obtain ⟨hnf, hw⟩ := cw_lt hok
    unfold okm at hok
    rw [hw] at hok
    have e : cf M H kd cb wd M t set = fw M H kd cb wd M t set := cIf_f hnf
    have h1 : 2 * i < 2 ^ (M + 1) := by rw [Nat.pow_succ]; omega
    have := fw_low M H kd cb wd (2 * i) M (Nat.le_refl _) hM.2 t set hok
    rw [csm_cost h1 (by omega), ← pcn2_st (M + 1) 16 (2 * i) (by omega) h1] at this
    omega
  generalize cf M H kd cb wd M t set = w at hup hlow ⊢
  rcases hb with ⟨rfl, hno⟩ | ⟨i0, h0, rfl, hp0, hok0, hmin⟩
  · rw [if_neg]
    intro hle
    obtain ⟨i, hi, he, hok⟩ := hup (by omega)
    exact hno i hi (by omega) hok
  · have h1 := hlow i0 h0 hok0
    obtain ⟨i, hi, he, hok⟩ := hup (by omega)
    have h2 := hmin i hi (by omega) hok
    rw [if_pos (by omega)]
    congr 1; omega
variable {u : Nat} {I : ZI} {J : ZJ}
theorem p_bits {m : Nat} (hm : m < 65536) (q : YQi) (hq : q I J (nI (pcn2 16 m))) : u_X12_bits [.int (nI m)] (shp u) I J q := by
  rw [e_X12_bits]
  have hone : ((1 : Int32) &&& 31) = nI 1 &&& 31 := rfl
  refine zlp 16 (fun k L I' J' => (∃ o a, L = [o, some (.int (nI a)), some (.int (nI (m / 2 ^ k)))] ∧ a ≤ k ∧ a + pcn2 (16 - k) (m / 2 ^ k) = pcn2 16 m) ∧ I' = I ∧ J' = J) ?_ ?_ _ _ _ ⟨⟨_, 0, by rw [Nat.pow_zero, Nat.div_one]; rfl, Nat.le_refl _, by rw [Nat.pow_zero, Nat.div_one]; exact Nat.zero_add _⟩, rfl, rfl⟩
  · rintro k hk r L I' J' ⟨⟨o, a, rfl, ha, hs⟩, rfl, rfl⟩ hr
    have hdv : m / 2 ^ k ≤ m := Nat.div_le_self _ _
    rw [g_X12_bits_4]
    have e0 : (nI (m / 2 ^ k) ≤ 0) = (m / 2 ^ k ≤ 0) := mI_le (a := m / 2 ^ k) (b := 0) (by omega) (by omega)
    rw [e0]
    refine ⟨fun h => ⟨rfl, ?_⟩, fun h => ?_⟩
    · have : m / 2 ^ k = 0 := Nat.le_zero.mp h
      rw [this, pcn2_0, Nat.add_zero] at hs
      rw [hs]; exact hq
    · have e1 : nI (m / 2 ^ k) &&& 1 = nI (m / 2 ^ k % 2) := by
        have : (1 : Int32) = nI 1 := rfl
        rw [this, mI_and, Nat.and_one_is_mod]
      rw [hone, mI_shr (by omega) (by omega), e1, mI_add]
      have hdd : m / 2 ^ k / 2 = m / 2 ^ (k + 1) := by rw [Nat.div_div_eq_div_mul, ← Nat.pow_succ]
      refine hr _ _ _ ⟨⟨_, _, by rw [Nat.pow_one, hdd], by omega, ?_⟩, rfl, rfl⟩
      have e2 : 16 - k = (16 - (k + 1)) + 1 := by omega
      rw [e2] at hs
      have e3 : pcn2 (16 - (k + 1) + 1) (m / 2 ^ k) = m / 2 ^ k % 2 + pcn2 (16 - (k + 1)) (m / 2 ^ k / 2) := rfl
      rw [e3, hdd] at hs
      omega
  · rintro r L I' J' ⟨⟨o, a, rfl, ha, hs⟩, rfl, rfl⟩
    rw [g_X12_bits_4]
    have : m / 2 ^ 16 = 0 := Nat.div_eq_of_lt (by omega)
    rw [this, pcn2_0, Nat.add_zero] at hs
    rw [this, hs]
    exact ⟨fun _ => ⟨rfl, hq⟩, fun h => absurd (mI_rf 0) h⟩
/-- the reference's answer whether a told head comes through, over any cobbles -/
theorem p_thr {n : Nat → Int32} (hV : Vd n) (e49 : I 49 = n) {x : Int32} (hx : 0 ≤ x.toInt ∧ x.toInt ≤ 4) {kd : Int32} {cb wd : Nat → Int32} (hT : Tb (I 54) vm (wv (n 0).toInt.toNat (n 1) kd cb wd 0) (n 0).toInt.toNat (n 1) (fun _ _ _ => True)) {t : Nat} (ht : t < 6) (q : YQi) (hq : q I J (vm (cw (n 0).toInt.toNat (n 1) kd cb wd 0 (n 0).toInt.toNat t (n (28 + 2 * x.toInt.toNat))))) :
    u_X12_throughIn [.ref 48, .int x, .int (nI t)] (shp u) I J q := by
  rw [e_X12_throughIn, p_X12_setOf _ _ _ hx, p_X12_falls, e49]
  unfold cw at hq
  refine ⟨fun h => ?_, fun h => ?_⟩
  · have hf := b0n h
    rw [cIf_f hf] at hq
    rw [p_X12_setOf _ _ _ hx, e49]
    refine p_late_w (c := 0) (n0_rg hV) hV.2.1 (by rw [e49]; exact n0_nI hV) hT (by omega) (by omega) hf (fun _ _ => trivial) _ ?_
    rw [g_X12_throughIn_28, Nat.mod_eq_of_lt ht, Nat.sub_zero]
    exact ⟨rfl, hq⟩
  · rw [cIf_t (b0p h)] at hq
    rw [g_X12_throughIn_28]
    exact ⟨rfl, hq⟩
theorem m_flat (x1 x2 : Int32) (I : ZI) (q : YQi) (hV : Vd (I 49)) (hn : ¬ g_flt x1 x2 (I 49) → q (zu I 52 0 (I 52 0 + 1)) J (-2)) (hy : g_flt x1 x2 (I 49) → ∀ I', Fr I I' → q I' J (a_flt x1 x2 (I 49))) :
    u_X12_flat [.ref 48, .int x1, .int x2] (shp u) I J q := by
  have no : ¬ g_flt x1 x2 (I 49) → ∀ o1 o2 o3 o4 o5 o6, b_X12_flat_15 u_X12_isHead u_X12_isStep u_X12_bad u_X12_fountain u_X12_bits u_X12_layStones u_X12_kindOf u_X12_layLatest u_X12_throughIn (qi (shp u) q) [some (.ref 48), o1, o2, o3, o4, o5, o6] [] (shp u) I J := by
    intro h o1 o2 o3 o4 o5 o6
    rw [g_X12_flat_15, p_X12_bad]
    exact ⟨rfl, hn h⟩
  rw [e_X12_flat, p_X12_isHead]
  refine ⟨fun h => no (fun z => b0n h z.1) _ _ _ _ _ _, fun h1 => ?_⟩
  rw [p_X12_isStep]
  refine ⟨fun h2 => ?_, fun h => no (fun z => b0n h z.2) _ _ _ _ _ _⟩
  have g1 := b0p h1
  have g2 := b0p h2
  obtain ⟨k1, k2, k3⟩ := hd_of hV g1
  have fin := hy ⟨g1, g2⟩
  unfold a_flt flw at fin
  obtain ⟨t, ht, ht6⟩ : ∃ t : Nat, x2 = nI t ∧ t < 6 := ⟨_, mI_of g2.1, by omega⟩
  have et : x2.toInt.toNat = t := by rw [ht, i_nI _ (by omega)]; rfl
  rw [et] at fin
  rw [ht]
  have hM := n0_rg hV
  have e0 := n0_nI hV
  clear no hn hy h1 h2
  generalize hMM : (I 49 0).toInt.toNat = M at *
  have hp := pow_le hM.2
  generalize hset : I 49 (28 + 2 * x1.toInt.toNat) = set at fin
  generalize hkd : I 49 (27 + 2 * x1.toInt.toNat) = kd at fin k3
  refine zlp (2 ^ M) (fun j L I' J' => (∃ o5 o6 best, L = [some (.ref 48), some (.int x1), some (.int (nI t)), some (.int best), some (.int (nI (2 * j))), o5, o6] ∧ binv M (I 49 1) kd (fun c => I 49 (5 + c)) (fun i => I 49 (21 + i)) t set j best) ∧ FX I I' ∧ J' = J) ?_ ?_ _ _ _ ⟨⟨_, _, _, rfl, Or.inl ⟨rfl, fun i hi => absurd hi (by omega)⟩⟩, FX_rf I, rfl⟩
  · rintro j hj r L I' J' ⟨⟨o5, o6, best, rfl, hb⟩, hF, rfl⟩ hr
    have e49 : I' 49 = I 49 := hF.1 49 (by decide) (by decide)
    have hlim : (1 : Int32) <<< ((nI M + 1) &&& 31) = nI (2 ^ (M + 1)) := by
      rw [mI_one]; exact shl_1 ⟨M + 1, by omega⟩
    have hp1 : 2 ^ (M + 1) = 2 * 2 ^ M := by rw [Nat.pow_succ]; omega
    have h16 := pcn2_le 16 (2 * j)
    have next : ∀ (I2 : ZI) (b' : Int32) (o5 o6 : Option Value), FX I I2 → binv M (I 49 1) kd (fun c => I 49 (5 + c)) (fun i => I 49 (21 + i)) t set (j + 1) b' → b_X12_flat_146 u_X12_isHead u_X12_isStep u_X12_bad u_X12_fountain u_X12_bits u_X12_layStones u_X12_kindOf u_X12_layLatest u_X12_throughIn (qi (shp u) q) r [some (.ref 48), some (.int x1), some (.int (nI t)), some (.int b'), some (.int (nI (2 * j))), o5, o6] [] (shp u) I2 J' := by
      intro I2 b' o5 o6 hF2 hb2
      have e2 : nI (2 * j) + 2 = nI (2 * (j + 1)) := (mI_add _ 2).trans (congrArg nI (by omega))
      rw [g_X12_flat_146, e2]
      exact hr _ _ _ ⟨⟨_, _, _, rfl, hb2⟩, hF2, rfl⟩
    have work : pcn2 16 (2 * j) < 4 → (best = -1 ∨ ∃ i0, i0 < j ∧ best = nI (2 * i0) ∧ pcn2 16 (2 * j) < pcn2 16 (2 * i0)) → ∀ o5 o6, b_X12_flat_67 u_X12_isHead u_X12_isStep u_X12_bad u_X12_fountain u_X12_bits u_X12_layStones u_X12_kindOf u_X12_layLatest u_X12_throughIn (qi (shp u) q) r [some (.ref 48), some (.int x1), some (.int (nI t)), some (.int best), some (.int (nI (2 * j))), o5, o6] [] (shp u) I' J' := by
      intro h4 hbb o5 o6
      have yes : okm M (I 49 1) kd (fun c => I 49 (5 + c)) (fun i => I 49 (21 + i)) t set (2 * j) → binv M (I 49 1) kd (fun c => I 49 (5 + c)) (fun i => I 49 (21 + i)) t set (j + 1) (nI (2 * j)) := by
        intro hok
        refine Or.inr ⟨j, by omega, rfl, h4, hok, fun i hi hpi hoki => ?_⟩
        by_cases hij : i = j
        · subst hij; exact Nat.le_refl _
        · rcases hb with ⟨rfl, hno⟩ | ⟨i0, h0, hbe, hp0, hok0, hmin⟩
          · exact absurd hoki (hno i (by omega) hpi)
          · have h5 := hmin i (by omega) hpi hoki
            rcases hbb with hbb | ⟨i1, h1', hb1, hlt⟩
            · rw [hbe] at hbb
              have := congrArg Int32.toInt hbb
              have em : (-1 : Int32).toInt = -1 := rfl
              rw [i_nI _ (by omega), em] at this; omega
            · rw [hbe] at hb1
              have := congrArg Int32.toInt hb1
              rw [i_nI _ (by omega), i_nI _ (by omega)] at this
              have : i1 = i0 := by omega
              subst this
              omega
      have nope : ¬ okm M (I 49 1) kd (fun c => I 49 (5 + c)) (fun i => I 49 (21 + i)) t set (2 * j) → binv M (I 49 1) kd (fun c => I 49 (5 + c)) (fun i => I 49 (21 + i)) t set (j + 1) best := by
        intro hok
        rcases hb with ⟨hbe, hno⟩ | ⟨i0, h0, hbe, hp0, hok0, hmin⟩
        · refine Or.inl ⟨hbe, fun i hi hpi hoki => ?_⟩
          by_cases hij : i = j
          · subst hij; exact hok hoki
          · exact hno i (by omega) hpi hoki
        · refine Or.inr ⟨i0, by omega, hbe, hp0, hok0, fun i hi hpi hoki => ?_⟩
          by_cases hij : i = j
          · subst hij; exact absurd hoki hok
          · exact hmin i (by omega) hpi hoki
      rw [g_X12_flat_67]
      refine p_X12_layStones u I' J' _ ?_
      have l49 : lay I' 16 49 = I 49 := by rw [lay_49, e49]
      have l53 : ∀ c, c < 16 → lay I' 16 53 c = I 49 (5 + c) := fun c hc => by rw [lay_53 I' c hc, l49]
      have lF : FX I (lay I' 16) := FX_tr hF ⟨fun a ha hb => by funext i; unfold lay; rw [if_neg (by omega)], fun i _ _ _ => by unfold lay; rw [if_neg (by omega)]⟩
      generalize lay I' 16 = I0 at l49 l53 lF ⊢
      refine zlp M (fun k L I2 J2 => (∃ o5, L = [some (.ref 48), some (.int x1), some (.int (nI t)), some (.int best), some (.int (nI (2 * j))), o5, some (.int (nI (k + 1)))]) ∧ I2 49 = I 49 ∧ (∀ c, c < 16 → I2 53 c = if c ≤ k then cbm (fun c => I 49 (5 + c)) (2 * j) c else I 49 (5 + c)) ∧ FX I I2 ∧ J2 = J') ?_ ?_ _ _ _ ⟨⟨_, rfl⟩, l49, fun c hc => ?_, lF, rfl⟩
      · rintro k hk r2 L I2 J2 ⟨⟨o5, rfl⟩, m49, m53, mF, rfl⟩ hr2
        rw [g_X12_flat_74, p_X12_fountain, m49, e0, mI_lt (by omega) (by omega)]
        refine ⟨fun h => by omega, fun _ => ?_⟩
        rw [bit_r (by omega) (by omega)]
        have st : ∀ v : Int32, v = cbm (fun c => I 49 (5 + c)) (2 * j) (k + 1) → b_X12_flat_111 u_X12_isHead u_X12_isStep u_X12_bad u_X12_fountain u_X12_bits u_X12_layStones u_X12_kindOf u_X12_layLatest u_X12_throughIn (qi (shp u) q) r r2 [some (.ref 48), some (.int x1), some (.int (nI t)), some (.int best), some (.int (nI (2 * j))), none, some (.int (nI (k + 1)))] [.int v, .int (nI (k + 1)), .ref 53] (shp u) I2 J2 := by
          intro v hv
          rw [g_X12_flat_111, mI_nat (by omega), mI_one]
          refine ⟨mI_in (by omega) (by omega), hr2 _ _ _ ⟨⟨_, rfl⟩, by rw [zu_ne _ _ _ (by decide)]; exact m49, fun c hc => ?_, FX_tr mF ⟨fun a a1 a2 => zu_ne _ _ _ (by omega), fun i _ _ _ => by rw [zu_rd, if_neg (by decide)]⟩, rfl⟩⟩
          rw [zu_rd, if_pos rfl]
          by_cases hck : c = k + 1
          · subst hck; rw [if_pos rfl, if_pos (Nat.le_refl _)]; exact hv
          · rw [if_neg hck, m53 c hc]
            by_cases hc2 : c ≤ k
            · rw [if_pos hc2, if_pos (by omega)]
            · rw [if_neg hc2, if_neg (by omega)]
        refine ⟨fun h => ⟨mI_in (by omega) (by omega), ?_⟩, fun h => ?_⟩
        · rw [mI_nat (by omega), m53 (k + 1) (by omega), if_neg (by omega)]
          exact st _ (by unfold cbm; rw [if_neg h])
        · exact st _ (by unfold cbm; rw [if_pos h])
      · rintro r2 L I2 J2 ⟨⟨o5, rfl⟩, m49, m53, mF, rfl⟩
        rw [g_X12_flat_74, p_X12_fountain, m49, e0, mI_lt (by omega) (by omega)]
        refine ⟨fun _ => ?_, fun h => absurd (by omega) h⟩
        rw [p_X12_kindOf _ _ _ k1, m49, hkd]
        have hMd : Md I2 (nI M) (I 49 1) (cbm (fun c => I 49 (5 + c)) (2 * j)) (fun i => I 49 (21 + i)) := by
          refine ⟨by rw [m49]; exact e0, by rw [m49], fun c hc => ?_, fun i hi => by rw [m49], by rw [i_nI _ (by omega)]; omega, by rw [i_nI _ (by omega)]; omega⟩
          rw [m53 c hc]
          by_cases hcM : c ≤ M
          · rw [if_pos hcM]
          · rw [if_neg hcM]
            unfold cbm
            rw [if_neg]
            rw [Nat.testBit_lt_two_pow]
            · decide
            · have : 2 ^ (M + 1) ≤ 2 ^ c := Nat.pow_le_pow_right (by omega) (by omega)
              omega
        refine p_lay hM hV.2.1 hMd k3 (by decide) _ (fun I3 hF3 hT3 => ?_)
        have n49 : I3 49 = I 49 := by rw [hF3 49 (by decide), m49]
        have hF4 : FX I I3 := FX_tr mF ⟨fun a _ hb => hF3 a (by omega), fun i _ _ _ => by rw [hF3 48 (by decide)]⟩
        refine p_thr (n := I 49) hV n49 k1 (kd := kd) (cb := cbm (fun c => I 49 (5 + c)) (2 * j)) (wd := fun i => I 49 (21 + i)) (by rw [hMM]; exact hT3) ht6 _ ?_
        rw [hMM, hset]
        have hfar := vm_far (cw M (I 49 1) kd (cbm (fun c => I 49 (5 + c)) (2 * j)) (fun i => I 49 (21 + i)) 0 M t set)
        refine ⟨fun h => ?_, fun h => ?_⟩
        · rw [g_X12_flat_145]
          refine next _ _ _ _ hF4 (nope (fun hok => ?_))
          unfold okm at hok
          rw [← hfar, i_lt] at hok
          rw [i_le] at h
          omega
        · rw [g_X12_flat_145]
          refine next _ _ _ _ hF4 (yes ?_)
          unfold okm
          rw [← hfar, i_lt]
          rw [i_le] at h
          omega
      · rw [l53 c hc]
        by_cases hc0 : c ≤ 0
        · rw [if_pos hc0]
          unfold cbm
          have : c = 0 := by omega
          subst this
          rw [if_neg]
          rw [Nat.testBit_zero]; simp
        · rw [if_neg hc0]
    rw [g_X12_flat_27, p_X12_fountain, e49, e0, hlim, mI_le (by omega) (by omega)]
    refine ⟨fun h => by omega, fun _ => ?_⟩
    refine p_bits (by omega) _ ?_
    have h4 : ((4 : Int32) ≤ nI (pcn2 16 (2 * j))) = (4 ≤ pcn2 16 (2 * j)) := mI_le (a := 4) (by omega) (by omega)
    rw [h4]
    have skip : (pcn2 16 (2 * j) < 4 → okm M (I 49 1) kd (fun c => I 49 (5 + c)) (fun i => I 49 (21 + i)) t set (2 * j) → ∃ i0, best = nI (2 * i0) ∧ i0 < j ∧ pcn2 16 (2 * i0) ≤ pcn2 16 (2 * j)) → binv M (I 49 1) kd (fun c => I 49 (5 + c)) (fun i => I 49 (21 + i)) t set (j + 1) best := by
      intro hsk
      rcases hb with ⟨hbe, hno⟩ | ⟨i0, h0, hbe, hp0, hok0, hmin⟩
      · refine Or.inl ⟨hbe, fun i hi hpi hoki => ?_⟩
        by_cases hij : i = j
        · subst hij
          obtain ⟨i1, e1, h1', _⟩ := hsk hpi hoki
          rw [hbe] at e1
          have := congrArg Int32.toInt e1
          have em : (-1 : Int32).toInt = -1 := rfl
          rw [i_nI _ (by omega), em] at this; omega
        · exact hno i (by omega) hpi hoki
      · refine Or.inr ⟨i0, by omega, hbe, hp0, hok0, fun i hi hpi hoki => ?_⟩
        by_cases hij : i = j
        · subst hij
          obtain ⟨i1, e1, h1', h2'⟩ := hsk hpi hoki
          rw [hbe] at e1
          have := congrArg Int32.toInt e1
          rw [i_nI _ (by omega), i_nI _ (by omega)] at this
          have : i1 = i0 := by omega
          subst this
          omega
        · exact hmin i (by omega) hpi hoki
    refine ⟨fun h => next _ _ _ _ hF (skip (fun z => by omega)), fun h => ⟨fun hbe => work (by omega) (Or.inl hbe) _ _, fun hbe => ?_⟩⟩
    obtain ⟨i0, h0, hb0⟩ : ∃ i0, i0 < j ∧ best = nI (2 * i0) := by
      rcases hb with ⟨hb1, _⟩ | ⟨i0, h0, hb1, _⟩
      · exact absurd hb1 hbe
      · exact ⟨i0, h0, hb1⟩
    rw [hb0]
    refine p_bits (by omega) _ ?_
    have h17 := pcn2_le 16 (2 * i0)
    rw [mI_le (by omega) (by omega), ← hb0]
    refine ⟨fun hle => next _ _ _ _ hF (skip (fun _ _ => ⟨i0, hb0, h0, hle⟩)), fun hle => work (by omega) (Or.inr ⟨i0, h0, hb0, by omega⟩) _ _⟩
  · rintro r L I' J' ⟨⟨o5, o6, best, rfl, hb⟩, hF, rfl⟩
    have e49 : I' 49 = I 49 := hF.1 49 (by decide) (by decide)
    have hlim : (1 : Int32) <<< ((nI M + 1) &&& 31) = nI (2 ^ (M + 1)) := by
      rw [mI_one]; exact shl_1 ⟨M + 1, by omega⟩
    have hp1 : 2 ^ (M + 1) = 2 * 2 ^ M := by rw [Nat.pow_succ]; omega
    rw [g_X12_flat_27, p_X12_fountain, e49, e0, hlim, hp1]
    refine ⟨fun _ => ⟨rfl, ?_⟩, fun h => absurd (mI_rf _) h⟩
    rw [binv_end hM hb]
    exact fin I' (Fr_X hF)
theorem o_flat (hR : Rl u I J) (x1 x2 : Int32) (Q : ZI → ZJ → Int32 → Int32 → Prop) (hQ : ∀ I' J' v, Rl u I' J' → Q I' J' v v) :
    u_X11_flat [.ref 0, .int x1, .int x2] (shp u) I J (fun I1 J1 v1 => u_X12_flat [.ref 48, .int x1, .int x2] (shp u) I1 J1 (fun I2 J2 v2 => Q I2 J2 v1 v2)) :=
  qj hR (c_flat x1 x2) (m_flat x1 x2) Q hQ
