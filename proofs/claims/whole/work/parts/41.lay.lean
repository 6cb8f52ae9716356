/-! ===== the reference's table ===== -/
variable {u : Nat} {I : ZI} {J : ZJ}
def F54 (I I' : ZI) : Prop := ∀ a, a ≠ 54 → I' a = I a
theorem pl_m {H x : Int32} {c t : Nat} (hH : 1 ≤ H.toInt ∧ H.toInt ≤ 12) (hc : c < 15) (ht : t < 6) (h : ¬ fel H x) {w : Int32} (hw : w = nI t) : ((((25 : Int32) * (((6 : Int32) * nI c) + w)) + x) + 12 : Int32) = nI (pl c t x) ∧ pl c t x < 2250 := by
  have hx := lok hH h
  have e1 : 6 * nI c = nI (6 * c) := mI_mul 6 c
  have e2 : 25 * nI (6 * c + t) = nI (25 * (6 * c + t)) := mI_mul 25 _
  rw [hw, e1, mI_add, e2]
  have e12 : (12 : Int32).toInt = 12 := rfl
  unfold pl
  refine ⟨?_, by omega⟩
  apply i_ext
  rw [i_add, i_add, e12, i_nI _ (by omega), i_nI _ (by omega)]
  omega
theorem rem_nI (t : Nat) (h : t < 1000000) : nI t - nI t / 6 * 6 = nI (t % 6) := by
  apply i_ext
  have e := i_nI t (by omega)
  rw [rem_6 (by rw [e]; omega), e, i_nI _ (by omega)]
  omega
theorem p_late {M : Nat} {H : Int32} (hM : 1 ≤ M ∧ M ≤ 15) (hH : 1 ≤ H.toInt ∧ H.toInt ≤ 12) (h0 : I 49 0 = nI M) {c t : Nat} {x w : Int32} (hc : c ≤ M) (ht : t < 1000) (hx : ¬ fel H x) (h0' : c = M → w = 0) (hw : c < M → I 54 (pl c (t % 6) x) = w) (q : YQi) (hq : q I J w) :
    u_X12_latestAt [.ref 48, .int (nI c), .int x, .int (nI t)] (shp u) I J q := by
  rw [e_X12_latestAt, p_X12_fountain, h0, mI_eq (by omega) (by omega)]
  refine ⟨fun h => ⟨by decide, ?_⟩, fun h => ?_⟩
  · obtain ⟨p1, p2⟩ := pl_m hH (show c < 15 by omega) (show t % 6 < 6 by omega) hx (rem_nI t (by omega))
    rw [p1, g_X12_latestAt_34, mI_nat (by omega), hw (by omega)]
    exact ⟨mI_in (by omega) (by omega), rfl, hq⟩
  · rw [g_X12_latestAt_34]
    rw [h0' h] at hq; exact ⟨rfl, hq⟩
theorem p_late_w {M : Nat} {H kd b : Int32} {cb wd : Nat → Int32} {P : Nat → Nat → Int → Prop} (hM : 1 ≤ M ∧ M ≤ 15) (hH : 1 ≤ H.toInt ∧ H.toInt ≤ 12) (h0 : I 49 0 = nI M) (hT : Tb (I 54) vm (wv M H kd cb wd b) M H P) {c t : Nat} {x : Int32} (hc : c ≤ M) (ht : t < 1000) (hx : ¬ fel H x) (hP : ∀ t l, P c t l) (q : YQi) (hq : q I J (vm (wv M H kd cb wd b (M - c) (t % 6) x))) :
    u_X12_latestAt [.ref 48, .int (nI c), .int x, .int (nI t)] (shp u) I J q := by
  refine p_late hM hH h0 hc ht hx (fun h2 => ?_) (fun h2 => ?_) q hq
  · rw [h2, Nat.sub_self, wv_0]; rfl
  · exact hT c (t % 6) x h2 (by omega) hx (hP _ _)
/-- how the reference's worst so far stands for a number of steps -/
def rlw (y : Int32) (m : Nat) : Prop := (m ≤ 15 ∧ y.toInt = m + 1) ∨ (m = 100 ∧ 1000000 ≤ y.toInt ∧ y.toInt ≤ 1000001)
def mxa (A : Nat → Nat) : Nat → Nat
  | 0 => 0
  | k + 1 => max (mxa A k) (A k)
theorem rlw_0 (A : Nat → Nat) {z y : Int32} {k : Nat} (hy : (k = 0 ∧ y.toInt = 0) ∨ (k ≠ 0 ∧ rlw y (mxa A k))) (hz : rlw z (A k)) : rlw (if z ≤ y then y else z) (mxa A (k + 1)) := by
  show rlw _ (max (mxa A k) (A k))
  unfold rlw at *
  rcases hy with ⟨rfl, hy⟩ | ⟨_, hy⟩
  · have : mxa A 0 = 0 := rfl
    rw [this]
    by_cases h : z ≤ y
    · rw [i_le] at h; omega
    · rw [if_neg h]; omega
  · by_cases h : z ≤ y
    · rw [if_pos h]; rw [i_le] at h; omega
    · rw [if_neg h]; rw [i_le] at h; omega
theorem rlw_cap {y : Int32} {m : Nat} (h : rlw y m) : (if y ≤ 1000000 then y else 1000000) = vm (min 100 (1 + m)) := by
  have e : (1000000 : Int32).toInt = 1000000 := rfl
  apply i_ext
  rw [vm_i]
  unfold rlw at h
  by_cases hy : y ≤ 1000000
  · rw [if_pos hy]; rw [i_le, e] at hy
    rcases h with h | h
    · rw [if_pos (by omega)]; omega
    · rw [if_neg (by omega)]; omega
  · rw [if_neg hy, e]; rw [i_le, e] at hy
    rcases h with h | h
    · omega
    · rw [if_neg (by omega)]
theorem p_byPace {M : Nat} {H kd b : Int32} {cb wd : Nat → Int32} {P : Nat → Nat → Int → Prop} (hM : 1 ≤ M ∧ M ≤ 15) (hH : 1 ≤ H.toInt ∧ H.toInt ≤ 12) (hR : Md I (nI M) H cb wd) (hk : 0 ≤ kd.toInt ∧ kd.toInt ≤ 5) (hb : 0 ≤ b.toInt ∧ b.toInt ≤ 3) {c t p : Nat} (hc : c < M) (ht : t < 900) (hp : 1 ≤ p ∧ p ≤ 3) (hT : Tb (I 54) vm (wv M H kd cb wd b) M H P) (hP : ∀ c' t l, c < c' → P c' t l) (l : Int32) (q : YQi) (hq : q I J (vm (min 100 (1 + pv M H kd cb wd b (M - c) p (t % 6) l)))) :
    u_X12_byPace [.ref 48, .int kd, .int (nI c), .int l, .int (nI t), .int (nI p), .int b] (shp u) I J q := by
  obtain ⟨r0, r1, r2, r3, _, _⟩ := hR
  have hto : min M (c + p) = M - (M - c - p) := by omega
  have hto2 : M - min M (c + p) = M - c - p := by omega
  have hlt : c < min M (c + p) := by omega
  have hle : min M (c + p) ≤ M := by omega
  have et : (nI (min M (c + p))).toInt = (min M (c + p) : Nat) := i_nI _ (by omega)
  have ecel : cel (I 49 0) (nI c) (nI p) = nI (min M (c + p)) := by rw [r0, cel_nat hM (by omega) (by omega)]
  rw [e_X12_byPace, p_X12_cellBy, p_X12_leanBehind _ _ _ hk (by rw [ecel, et]; omega) (by rw [i_nI _ (by omega)]; omega), ecel, et, Int.toNat_natCast, r2 _ (by omega), wn_nI (by omega), r3 _ (by omega)]
  unfold pv at hq
  rw [← hto] at hq
  generalize lb kd l (cb (min M (c + p))) (wd (t % 6)) (nI p) = X at hq ⊢
  have x0 : X + (nI 0 - 1) * b = X - b := by
    apply i_ext; have e : (nI 0 - 1 : Int32).toInt = -1 := rfl
    rw [i_add, i_mul, e, i_sub]; omega
  have x1 : X + (nI 1 - 1) * b = X := by
    apply i_ext; have e : (nI 1 - 1 : Int32).toInt = 0 := rfl
    have := i_rg X
    rw [i_add, i_mul, e]; omega
  have x2 : X + (nI 2 - 1) * b = X + b := by
    apply i_ext; have e : (nI 2 - 1 : Int32).toInt = 1 := rfl
    rw [i_add, i_mul, e, i_add]; omega
  have hA : ∀ k, cw M H kd cb wd b (M - c - p) ((t % 6 + 1) % 6) (X + (nI k - 1) * b) ≤ 15 ∨ cw M H kd cb wd b (M - c - p) ((t % 6 + 1) % 6) (X + (nI k - 1) * b) = 100 := fun k => by
    have := cw_le M H kd cb wd b (show M - c - p ≤ 15 by omega) ((t % 6 + 1) % 6) (X + (nI k - 1) * b)
    omega
  have hfin : max (max (cw M H kd cb wd b (M - c - p) ((t % 6 + 1) % 6) X) (cw M H kd cb wd b (M - c - p) ((t % 6 + 1) % 6) (X - b))) (cw M H kd cb wd b (M - c - p) ((t % 6 + 1) % 6) (X + b)) = mxa (fun k => cw M H kd cb wd b (M - c - p) ((t % 6 + 1) % 6) (X + (nI k - 1) * b)) 3 := by
    show _ = max (max (max 0 (cw M H kd cb wd b (M - c - p) ((t % 6 + 1) % 6) (X + (nI 0 - 1) * b))) (cw M H kd cb wd b (M - c - p) ((t % 6 + 1) % 6) (X + (nI 1 - 1) * b))) (cw M H kd cb wd b (M - c - p) ((t % 6 + 1) % 6) (X + (nI 2 - 1) * b))
    rw [x0, x1, x2]; omega
  rw [hfin] at hq
  refine zlp 3 (fun k L I' J' => (∃ o1 o2 o3 o5 o11 o12 y, L = [some (.ref 48), o1, o2, o3, some (.int (nI t)), o5, some (.int b), some (.int (nI (min M (c + p)))), some (.int X), some (.int y), some (.int (nI k - 1)), o11, o12] ∧ ((k = 0 ∧ y.toInt = 0) ∨ (k ≠ 0 ∧ rlw y (mxa (fun k => cw M H kd cb wd b (M - c - p) ((t % 6 + 1) % 6) (X + (nI k - 1) * b)) k)))) ∧ I' = I ∧ J' = J) ?_ ?_ _ _ _ ⟨⟨_, _, _, _, _, _, 0, rfl, Or.inl ⟨rfl, rfl⟩⟩, rfl, rfl⟩
  · rintro k hk3 r L I' J' ⟨⟨o1, o2, o3, o5, o11, o12, y, rfl, hy⟩, rfl, rfl⟩ hr
    have e2 : (nI k - 1 : Int32).toInt = k - 1 := by
      have e1 : (1 : Int32).toInt = 1 := rfl
      rw [i_sub, i_nI _ (by omega), e1]; omega
    have h2 : ¬ (2 : Int32) ≤ nI k - 1 := by rw [i_le, e2]; show ¬ (2 : Int) ≤ _; omega
    have en : nI k - 1 + 1 = nI (k + 1) - 1 := by
      have e1 : (1 : Int32).toInt = 1 := rfl
      apply i_ext; rw [i_add, e2, i_sub, i_nI _ (by omega), e1]; omega
    have hAk := hA k
    have next : ∀ (z : Int32) (o1 o2 o3 o5 o11 o12 : Option Value), rlw z (cw M H kd cb wd b (M - c - p) ((t % 6 + 1) % 6) (X + (nI k - 1) * b)) → b_X12_byPace_72 u_X12_cellBy u_X12_leanBehind u_X12_falls u_X12_latestAt (qi (shp u) q) r [some (.ref 48), o1, o2, o3, some (.int (nI t)), o5, some (.int b), some (.int (nI (min M (c + p)))), some (.int X), some (.int y), some (.int (nI k - 1)), o11, o12] [.int z] (shp u) I' J' := by
      intro z o1 o2 o3 o5 o11 o12 hz
      have hs := rlw_0 (fun k => cw M H kd cb wd b (M - c - p) ((t % 6 + 1) % 6) (X + (nI k - 1) * b)) hy hz
      rw [g_X12_byPace_72]
      refine ⟨fun h => ?_, fun h => ?_⟩
      · rw [if_pos h] at hs
        rw [g_X12_byPace_88, en]
        exact hr _ _ _ ⟨⟨_, _, _, _, _, _, y, rfl, Or.inr ⟨by omega, hs⟩⟩, rfl, rfl⟩
      · rw [if_neg h] at hs
        rw [g_X12_byPace_88, en]
        exact hr _ _ _ ⟨⟨_, _, _, _, _, _, z, rfl, Or.inr ⟨by omega, hs⟩⟩, rfl, rfl⟩
    rw [g_X12_byPace_28]
    refine ⟨fun h => absurd h h2, fun _ => ?_⟩
    rw [p_X12_falls, r1]
    refine ⟨fun h => ?_, fun h => ?_⟩
    · have hx := b0n h
      rw [mI_one]
      refine p_late_w hM hH r0 hT hle (by omega) hx (fun t l => hP _ t l hlt) _ ?_
      refine next _ _ _ _ _ _ _ ?_
      rw [hto2]
      have et6 : (t + 1) % 6 = (t % 6 + 1) % 6 := by omega
      unfold cw at hAk ⊢
      rw [cIf_f hx] at hAk ⊢
      rw [et6]
      generalize wv M H kd cb wd b (M - c - p) ((t % 6 + 1) % 6) (X + (nI k - 1) * b) = w at hAk ⊢
      have e1 : (1 : Int32).toInt = 1 := rfl
      have hv := vm_i w
      have hs : ((1 : Int32) + vm w).toInt = 1 + (vm w).toInt := by
        rw [i_add, e1, hv]; split <;> omega
      unfold rlw
      rw [hs, hv]
      rcases hAk with h | h
      · rw [if_pos (by omega)]; omega
      · rw [if_neg (by omega)]; omega
    · have hx := b0p h
      refine next _ _ _ _ _ _ _ ?_
      unfold cw
      rw [cIf_t hx]
      exact Or.inr ⟨rfl, by decide, by decide⟩
  · rintro r L I' J' ⟨⟨o1, o2, o3, o5, o11, o12, y, rfl, hy⟩, rfl, rfl⟩
    rw [g_X12_byPace_28]
    have hs := hy.resolve_left (fun z => absurd z.1 (by decide))
    rw [← rlw_cap hs.2] at hq
    refine ⟨fun _ => ⟨fun h => ?_, fun h => ?_⟩, fun h => absurd (show (2 : Int32) ≤ nI 3 - 1 by decide) h⟩
    · rw [if_pos h] at hq
      rw [g_X12_byPace_110]; exact ⟨rfl, hq⟩
    · rw [if_neg h] at hq
      rw [g_X12_byPace_110]; exact ⟨rfl, hq⟩
theorem vm_min {a m : Nat} (ha : a ≤ 100) (hm : m ≤ 100) : vm (min m a) = if vm m ≤ vm a then vm m else vm a := by
  have h1 := vm_i a
  have h2 := vm_i m
  by_cases h : vm m ≤ vm a
  · rw [if_pos h]
    rw [i_le, h1, h2] at h
    have : min m a = m := by split at h <;> split at h <;> omega
    rw [this]
  · rw [if_neg h]
    rw [i_le, h1, h2] at h
    have : min m a = a := by split at h <;> split at h <;> omega
    rw [this]
theorem p_lay {M : Nat} {H kd b : Int32} {cb wd : Nat → Int32} (hM : 1 ≤ M ∧ M ≤ 15) (hH : 1 ≤ H.toInt ∧ H.toInt ≤ 12) (hR : Md I (nI M) H cb wd) (hk : 0 ≤ kd.toInt ∧ kd.toInt ≤ 5) (hb : 0 ≤ b.toInt ∧ b.toInt ≤ 3) (q : YQv) (hq : ∀ I', F54 I I' → Tb (I' 54) vm (wv M H kd cb wd b) M H (fun _ _ _ => True) → q I' J) :
    u_X12_layLatest [.ref 48, .int kd, .int b] (shp u) I J q := by
  rw [e_X12_layLatest, p_X12_fountain, hR.1]
  refine zlp M (fun k L I' J' => (∃ o4 o5 o6 o7 o8, L = [some (.ref 48), some (.int kd), some (.int b), some (.int (nI (M - k) - 1)), o4, o5, o6, o7, o8]) ∧ F54 I I' ∧ Tb (I' 54) vm (wv M H kd cb wd b) M H (fun c _ _ => M - k ≤ c) ∧ J' = J) ?_ ?_ _ _ _ ⟨⟨_, _, _, _, _, rfl⟩, fun _ _ => rfl, fun c t l h1 _ _ h => absurd h (by omega), rfl⟩
  · rintro k hkM r L I' J' ⟨⟨o4, o5, o6, o7, o8, rfl⟩, hF, hT, rfl⟩ hr
    rw [g_X12_layLatest_7]
    obtain ⟨c, hc, hcM⟩ : ∃ c, M - k = c + 1 ∧ c < M := ⟨M - k - 1, by omega, by omega⟩
    have ec : nI (M - k) - 1 = nI c := by rw [hc]; exact mI_sub (a := c + 1) (b := 1) (by omega)
    rw [ec]
    have hn0 : ¬ nI c < 0 := by rw [i_lt, i_nI _ (by omega)]; show ¬ (c : Int) < 0; omega
    refine ⟨fun h => absurd h hn0, fun _ => ?_⟩
    rw [hc] at hT
    refine zlp 6 (fun t L I' J'' => (∃ o5 o6 o7 o8, L = [some (.ref 48), some (.int kd), some (.int b), some (.int (nI c)), some (.int (nI t)), o5, o6, o7, o8]) ∧ F54 I I' ∧ Tb (I' 54) vm (wv M H kd cb wd b) M H (fun c' t' _ => c < c' ∨ (c' = c ∧ t' < t)) ∧ J'' = J') ?_ ?_ _ _ _ ⟨⟨_, _, _, _, rfl⟩, hF, Tb_mono hT (fun c' t' l' _ _ _ h => by omega), rfl⟩
    · rintro t ht r2 L I2 J2 ⟨⟨o5, o6, o7, o8, rfl⟩, hF, hT, rfl⟩ hr2
      rw [g_X12_layLatest_14]
      refine ⟨fun h => absurd (show nI 6 ≤ nI t from h) (mI_ge ht (by omega)), fun _ => ?_⟩
      have e31 : I2 49 1 = H := by rw [hF 49 (by decide)]; exact hR.2.1
      have e0 : -(I2 49 1) = nI 0 - H := by rw [e31]; apply i_ext; rw [i_neg, i_sub, i_nI _ (by omega)]; omega
      rw [e0]
      refine zlp (2 * H.toInt.toNat + 1) (fun j L I' J'' => (∃ o6 o7 o8, L = [some (.ref 48), some (.int kd), some (.int b), some (.int (nI c)), some (.int (nI t)), some (.int (nI j - H)), o6, o7, o8]) ∧ F54 I I' ∧ Tb (I' 54) vm (wv M H kd cb wd b) M H (fun c' t' l' => c < c' ∨ (c' = c ∧ (t' < t ∨ (t' = t ∧ l' < j - H.toInt)))) ∧ J'' = J2) ?_ ?_ _ _ _ ⟨⟨_, _, _, rfl⟩, hF, Tb_mono hT (fun c' t' l' _ _ hl h => by rw [i_neg] at hl; omega), rfl⟩
      · rintro j hj r3 L I3 J3 ⟨⟨o6, o7, o8, rfl⟩, hF, hT, rfl⟩ hr3
        have e31 : I3 49 1 = H := by rw [hF 49 (by decide)]; exact hR.2.1
        obtain ⟨l1, l2, l3⟩ := lj_ok hH hj
        rw [g_X12_layLatest_30, e31]
        refine ⟨fun h => absurd h l3, fun _ => ?_⟩
        have ej : nI j - H + 1 = nI (j + 1) - H := by
          have e1 : (1 : Int32).toInt = 1 := rfl
          apply i_ext; rw [i_add, l1, e1, i_sub, i_nI _ (by omega)]; omega
        refine zlp 3 (fun p L I' J'' => (∃ o8, L = [some (.ref 48), some (.int kd), some (.int b), some (.int (nI c)), some (.int (nI t)), some (.int (nI j - H)), some (.int (vm (mn M H kd cb wd b (M - c) t (nI j - H) p))), some (.int (nI (p + 1))), o8]) ∧ I' = I3 ∧ J'' = J3) ?_ ?_ _ _ _ ⟨⟨_, rfl⟩, rfl, rfl⟩
        · rintro p hp r4 L I4 J4 ⟨⟨o8, rfl⟩, rfl, rfl⟩ hr4
          rw [g_X12_layLatest_48]
          refine ⟨fun h => absurd (show nI 4 ≤ nI (p + 1) from h) (mI_ge (by omega) (by omega)), fun _ => ?_⟩
          refine p_byPace hM hH (Md_fr hR (hF 49 (by decide)) (hF 53 (by decide))) hk hb hcM (by omega) ⟨by omega, by omega⟩ hT (fun c' t' l' h => Or.inl h) _ _ ?_
          rw [Nat.mod_eq_of_lt ht]
          have hm := vm_min (a := min 100 (1 + pv M H kd cb wd b (M - c) (p + 1) t (nI j - H))) (by omega) (mn_le M H kd cb wd b (M - c) t (nI j - H) p)
          refine ⟨fun h => ?_, fun h => ?_⟩
          · rw [if_pos h] at hm
            rw [g_X12_layLatest_83, mI_one, ← hm]
            exact hr4 _ _ _ ⟨⟨_, rfl⟩, rfl, rfl⟩
          · rw [if_neg h] at hm
            rw [g_X12_layLatest_83, mI_one, ← hm]
            exact hr4 _ _ _ ⟨⟨_, rfl⟩, rfl, rfl⟩
        · rintro r4 L I4 J4 ⟨⟨o8, rfl⟩, rfl, rfl⟩
          rw [g_X12_layLatest_48]
          refine ⟨fun _ => ?_, fun h => absurd (show nI 4 ≤ nI (3 + 1) by decide) h⟩
          obtain ⟨p1, p2⟩ := pl_m hH (show c < 15 by omega) ht l2 rfl
          rw [p1, ej, mn_3 (by omega), mI_nat (by omega)]
          refine ⟨mI_in (by omega) (by omega), hr3 _ _ _ ⟨⟨_, _, _, rfl⟩, fun a ha => by rw [zu_ne _ _ _ ha]; exact hF a ha, ?_, rfl⟩⟩
          refine Tb_put hH.2 hT ht l2 (by rw [zu_rd, if_pos rfl, if_pos rfl]) (fun k hk => by rw [zu_rd, if_pos rfl, if_neg hk]) (fun c' t' l' h => ?_)
          rw [l1]
          omega
      · rintro r3 L I3 J3 ⟨⟨o6, o7, o8, rfl⟩, hF, hT, rfl⟩
        have e31 : I3 49 1 = H := by rw [hF 49 (by decide)]; exact hR.2.1
        rw [g_X12_layLatest_30, e31]
        have hgt : H < nI (2 * H.toInt.toNat + 1) - H := by rw [i_lt, i_sub, i_nI _ (by omega)]; omega
        refine ⟨fun _ => ?_, fun h => absurd hgt h⟩
        rw [mI_one]
        exact hr2 _ _ _ ⟨⟨_, _, _, _, rfl⟩, hF, Tb_mono hT (fun c' t' l' _ _ hl h => by omega), rfl⟩
    · rintro r2 L I2 J2 ⟨⟨o5, o6, o7, o8, rfl⟩, hF, hT, rfl⟩
      rw [g_X12_layLatest_14]
      refine ⟨fun _ => ?_, fun h => absurd (mI_rf 6) h⟩
      have en : nI c + (-1) = nI (M - (k + 1)) - 1 := by
        have e1 : (1 : Int32).toInt = 1 := rfl
        have e2 : (-1 : Int32).toInt = -1 := rfl
        have : M - (k + 1) = c := by omega
        rw [this]; apply i_ext; rw [i_add, i_sub, e1, e2, i_nI _ (by omega)]; omega
      rw [en]
      exact hr _ _ _ ⟨⟨_, _, _, _, _, rfl⟩, hF, Tb_mono hT (fun c' t' l' _ ht' _ h => by omega), rfl⟩
  · rintro r L I' J' ⟨⟨o4, o5, o6, o7, o8, rfl⟩, hF, hT, rfl⟩
    rw [g_X12_layLatest_7, Nat.sub_self]
    refine ⟨fun _ => ⟨rfl, hq I' hF (Tb_mono hT (fun _ _ _ _ _ _ _ => by omega))⟩, fun h => absurd (show (nI 0 - 1 : Int32) < 0 by decide) h⟩
