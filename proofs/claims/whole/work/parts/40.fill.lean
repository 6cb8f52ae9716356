/-! ===== the class's table ===== -/
variable {u : Nat} {I : ZI} {J : ZJ}
def F38 (I I' : ZI) : Prop := ∀ a, a ≠ 38 → I' a = I a
theorem lok {H x : Int32} (hH : 1 ≤ H.toInt ∧ H.toInt ≤ 12) (h : ¬ fel H x) : -12 ≤ x.toInt ∧ x.toInt ≤ 12 ∧ -H.toInt ≤ x.toInt ∧ x.toInt ≤ H.toInt := by
  unfold fel at h; rw [i_neg] at h; omega
theorem pl_i {H x : Int32} {c t : Nat} (hH : 1 ≤ H.toInt ∧ H.toInt ≤ 12) (hc : c < 15) (ht : t < 6) (h : ¬ fel H x) : (((nI c * 6 + nI t) * 25 + x) + 12 : Int32) = nI (pl c t x) ∧ pl c t x < 2250 := by
  have hx := lok hH h
  have e1 : nI c * 6 = nI (c * 6) := mI_mul c 6
  have e2 : nI (c * 6 + t) * 25 = nI ((c * 6 + t) * 25) := mI_mul _ 25
  rw [e1, mI_add, e2]
  have e12 : (12 : Int32).toInt = 12 := rfl
  unfold pl
  refine ⟨?_, by omega⟩
  apply i_ext
  rw [i_add, i_add, e12, i_nI _ (by omega), i_nI _ (by omega)]
  omega
theorem zfm_nI (t : Nat) (h : t < 1000000) : zfm (nI t) 6 = nI (t % 6) := by
  apply i_ext
  have e := i_nI t (by omega)
  rw [zfm_6 (by rw [e]; omega), e, i_nI _ (by omega)]
  omega
theorem fel_dec (H x : Int32) : fel H x ∨ ¬ fel H x := Classical.em _
theorem p_cost {M : Nat} {H : Int32} (hM : 1 ≤ M ∧ M ≤ 15) (hH : 1 ≤ H.toInt ∧ H.toInt ≤ 12) (h0 : I 3 0 = nI M) (h1 : I 3 1 = H) {c t : Nat} {x w : Int32} (hc : c ≤ M) (ht : t < 1000) (hf : fel H x → w = 16777216) (h0' : ¬ fel H x → c = M → w = 0) (hw : ¬ fel H x → c < M → I 38 (pl c (t % 6) x) = w) (q : YQi) (hq : q I J w) :
    u_X9_costFrom [.ref 37, .ref 3, .int (nI c), .int (nI t), .int x] (shp u) I J q := by
  rw [e_X9_costFrom, p_X5_fells, h1]
  refine ⟨fun h => ?_, fun h => ?_⟩
  · have hx := b0n h
    rw [h0, mI_lt (by omega) (by omega)]
    refine ⟨fun hcM => ?_, fun hcM => ⟨rfl, ?_⟩⟩
    · rw [e_X9_placeOf, zfm_nI t (by omega)]
      obtain ⟨p1, p2⟩ := pl_i hH (show c < 15 by omega) (show t % 6 < 6 by omega) hx
      rw [p1]
      refine ⟨by decide, rfl, ?_⟩
      rw [p_X11_within]
      have e : (nI 2250 - 1).toInt = 2249 := by decide
      have hin : (0 : Int32).toInt ≤ (nI (pl c (t % 6) x)).toInt ∧ (nI (pl c (t % 6) x)).toInt ≤ (nI 2250 - 1).toInt := by
        rw [e, i_nI _ (by omega)]; exact ⟨by show (0 : Int) ≤ _; omega, by omega⟩
      refine ⟨fun z => b0t hin z, fun _ => ⟨mI_in p2 (by omega), ?_⟩⟩
      rw [g_X9_costFrom_59, mI_nat (by omega), hw hx hcM]
      exact ⟨rfl, hq⟩
    · rw [h0' hx (by omega)] at hq; exact hq
  · rw [hf (b0p h)] at hq; exact ⟨rfl, hq⟩
theorem p_cost_w {M : Nat} {H kd b : Int32} {cb wd : Nat → Int32} {P : Nat → Nat → Int → Prop} (hM : 1 ≤ M ∧ M ≤ 15) (hH : 1 ≤ H.toInt ∧ H.toInt ≤ 12) (h0 : I 3 0 = nI M) (h1 : I 3 1 = H) (hT : Tb (I 38) vc (wv M H kd cb wd b) M H P) {c t : Nat} {x : Int32} (hc : c ≤ M) (ht : t < 1000) (hP : ∀ t l, P c t l) (q : YQi) (hq : q I J (vc (cw M H kd cb wd b (M - c) (t % 6) x))) :
    u_X9_costFrom [.ref 37, .ref 3, .int (nI c), .int (nI t), .int x] (shp u) I J q := by
  refine p_cost hM hH h0 h1 hc ht (fun h => ?_) (fun h h2 => ?_) (fun h h2 => ?_) q hq
  · unfold cw; rw [cIf_t h]; rfl
  · unfold cw; rw [cIf_f h, h2, Nat.sub_self, wv_0]; rfl
  · unfold cw; rw [cIf_f h]; exact hT c (t % 6) x h2 (by omega) h (hP _ _)
theorem i_s0 (x : Int32) : x - 0 = x := by
  apply i_ext; have e : (0 : Int32).toInt = 0 := rfl
  have := i_rg x
  rw [i_sub, e]; omega
theorem i_a0 (x : Int32) : x + 0 = x := by
  apply i_ext; have e : (0 : Int32).toInt = 0 := rfl
  have := i_rg x
  rw [i_add, e]; omega
theorem p_worst {M : Nat} {H kd b : Int32} {cb wd : Nat → Int32} {P : Nat → Nat → Int → Prop} (hM : 1 ≤ M ∧ M ≤ 15) (hH : 1 ≤ H.toInt ∧ H.toInt ≤ 12) (hR : Rd I (nI M) H cb wd) (hk : 0 ≤ kd.toInt ∧ kd.toInt ≤ 5) {c t p : Nat} (hc : c < M) (ht : t < 900) (hp : 1 ≤ p ∧ p ≤ 3) (hT : Tb (I 38) vc (wv M H kd cb wd b) M H P) (hP : ∀ c' t l, c < c' → P c' t l) (l : Int32) (q : YQi) (hq : q I J (vc (pv M H kd cb wd b (M - c) p (t % 6) l) + 1)) :
    u_X9_worst [.ref 37, .ref 3, .ref (42 + kd.toInt.toNat), .int (nI c), .int (nI t), .int l, .int (nI p), .int b] (shp u) I J q := by
  obtain ⟨r0, r1, r2, r3, _, _⟩ := hR
  rw [e_X9_worst, p_X5_cellBehind, r0, cel_nat hM (by omega) (by omega)]
  have hto : min M (c + p) = M - (M - c - p) := by omega
  have hto2 : M - min M (c + p) = M - c - p := by omega
  have hlt : c < min M (c + p) := by omega
  have hle : min M (c + p) ≤ M := by omega
  have et : (nI (min M (c + p))).toInt = (min M (c + p) : Nat) := i_nI _ (by omega)
  rw [p_X5_cobbleOf _ _ _ (by rw [et]; omega), et, Int.toNat_natCast, r2 _ (by omega), p_X5_windIn _ _ _ (by rw [i_nI _ (by omega)]; omega), wn_nI (by omega), r3 _ (by omega), p_LB _ _ _ hk, mI_one]
  have hx : ∀ y, cw M H kd cb wd b (M - min M (c + p)) ((t + 1) % 6) y = cw M H kd cb wd b (M - c - p) ((t % 6 + 1) % 6) y := fun y => by
    rw [hto2]; congr 1; omega
  unfold pv at hq
  rw [← hto] at hq
  refine p_cost_w hM hH r0 r1 hT hle (by omega) (fun t l => hP _ t l hlt) _ ?_
  rw [hx]
  generalize lb kd l (cb (min M (c + p))) (wd (t % 6)) (nI p) = X at hq ⊢
  have c1 := cw_le M H kd cb wd b (show M - c - p ≤ 15 by omega) ((t % 6 + 1) % 6) X
  have c2 := cw_le M H kd cb wd b (show M - c - p ≤ 15 by omega) ((t % 6 + 1) % 6) (X - b)
  have c3 := cw_le M H kd cb wd b (show M - c - p ≤ 15 by omega) ((t % 6 + 1) % 6) (X + b)
  refine ⟨fun hb => ?_, fun hb => ?_⟩
  · rw [g_X9_worst_97]
    refine ⟨rfl, ?_⟩
    rw [hb, i_s0, i_a0, Nat.max_self, Nat.max_self] at hq
    rw [hb]; exact hq
  · refine p_cost_w hM hH r0 r1 hT hle (by omega) (fun t l => hP _ t l hlt) _ ?_
    rw [hx]
    refine p_cost_w hM hH r0 r1 hT hle (by omega) (fun t l => hP _ t l hlt) _ ?_
    rw [hx, g_X9_worst_97, vc_max (by omega) (by omega), vc_max (by omega) (by omega)]
    exact ⟨rfl, hq⟩
theorem p_put {H : Int32} (hH : 1 ≤ H.toInt ∧ H.toInt ≤ 12) {c t : Nat} {x : Int32} (hc : c < 15) (ht : t < 6) (hx : ¬ fel H x) (v : Int32) (q : YQv) (hq : q (zu I 38 (pl c t x) v) J) :
    u_X9_put [.ref 37, .int (nI c), .int (nI t), .int x, .int v] (shp u) I J q := by
  obtain ⟨p1, p2⟩ := pl_i hH hc ht hx
  rw [e_X9_put, e_X9_placeOf, zfm_nI t (by omega), Nat.mod_eq_of_lt ht, p1]
  refine ⟨by decide, rfl, ?_⟩
  rw [p_X11_within]
  have e : (nI 2250 - 1).toInt = 2249 := by decide
  have hin : (0 : Int32).toInt ≤ (nI (pl c t x)).toInt ∧ (nI (pl c t x)).toInt ≤ (nI 2250 - 1).toInt := by
    rw [e, i_nI _ (by omega)]; exact ⟨by show (0 : Int) ≤ _; omega, by omega⟩
  refine ⟨fun z => b0t hin z, fun _ => ⟨mI_in p2 (by omega), ?_⟩⟩
  rw [g_X9_put_33, mI_nat (by omega)]
  exact ⟨rfl, hq⟩
noncomputable def mn (M : Nat) (H kd : Int32) (cb wd : Nat → Int32) (b : Int32) (d t : Nat) (l : Int32) : Nat → Nat
  | 0 => 100
  | k + 1 => min (mn M H kd cb wd b d t l k) (min 100 (1 + pv M H kd cb wd b d (k + 1) t l))
theorem mn_le (M : Nat) (H kd : Int32) (cb wd : Nat → Int32) (b : Int32) (d t : Nat) (l : Int32) : ∀ k, mn M H kd cb wd b d t l k ≤ 100 := by
  intro k
  cases k with
  | zero => exact Nat.le_refl _
  | succ k => show min _ (min 100 _) ≤ 100; omega
theorem mn_3 {M : Nat} {H kd : Int32} {cb wd : Nat → Int32} {b : Int32} {d t : Nat} {l : Int32} (h : d ≠ 0) : mn M H kd cb wd b d t l 3 = wv M H kd cb wd b d t l := by
  rw [wv_s h]
  show min (min (min 100 (min 100 (1 + pv M H kd cb wd b d 1 t l))) (min 100 (1 + pv M H kd cb wd b d 2 t l))) (min 100 (1 + pv M H kd cb wd b d 3 t l)) = _
  omega
theorem lj_ok {H : Int32} (hH : 1 ≤ H.toInt ∧ H.toInt ≤ 12) {j : Nat} (hj : j < 2 * H.toInt.toNat + 1) : (nI j - H).toInt = j - H.toInt ∧ ¬ fel H (nI j - H) ∧ ¬ H < nI j - H := by
  have e : (nI j - H).toInt = j - H.toInt := by rw [i_sub, i_nI _ (by omega)]; omega
  refine ⟨e, ?_, ?_⟩
  · unfold fel; rw [i_neg, e]; omega
  · rw [i_lt, e]; omega
theorem p_fill {M : Nat} {H kd b : Int32} {cb wd : Nat → Int32} (hM : 1 ≤ M ∧ M ≤ 15) (hH : 1 ≤ H.toInt ∧ H.toInt ≤ 12) (hR : Rd I (nI M) H cb wd) (hk : 0 ≤ kd.toInt ∧ kd.toInt ≤ 5) (q : YQv) (hq : ∀ I', F38 I I' → Tb (I' 38) vc (wv M H kd cb wd b) M H (fun _ _ _ => True) → q I' J) :
    u_X9_fillSure [.ref 37, .ref 3, .ref (42 + kd.toInt.toNat), .int b] (shp u) I J q := by
  rw [e_X9_fillSure, hR.1]
  refine zlp M (fun k L I' J' => (∃ o5 o6 o7 o8, L = [some (.ref 37), some (.ref 3), some (.ref (42 + kd.toInt.toNat)), some (.int b), some (.int (nI (M - k) - 1)), o5, o6, o7, o8]) ∧ F38 I I' ∧ Tb (I' 38) vc (wv M H kd cb wd b) M H (fun c _ _ => M - k ≤ c) ∧ J' = J) ?_ ?_ _ _ _ ⟨⟨_, _, _, _, rfl⟩, fun _ _ => rfl, fun c t l h1 _ _ h => absurd h (by omega), rfl⟩
  · rintro k hkM r L I' J' ⟨⟨o5, o6, o7, o8, rfl⟩, hF, hT, rfl⟩ hr
    rw [g_X9_fillSure_8]
    obtain ⟨c, hc, hcM⟩ : ∃ c, M - k = c + 1 ∧ c < M := ⟨M - k - 1, by omega, by omega⟩
    have ec : nI (M - k) - 1 = nI c := by rw [hc]; exact mI_sub (a := c + 1) (b := 1) (by omega)
    rw [ec]
    have hn0 : ¬ nI c < 0 := by rw [i_lt, i_nI _ (by omega)]; show ¬ (c : Int) < 0; omega
    refine ⟨fun h => absurd h hn0, fun _ => ?_⟩
    rw [hc] at hT
    refine zlp 6 (fun t L I' J'' => (∃ o6 o7 o8, L = [some (.ref 37), some (.ref 3), some (.ref (42 + kd.toInt.toNat)), some (.int b), some (.int (nI c)), some (.int (nI t)), o6, o7, o8]) ∧ F38 I I' ∧ Tb (I' 38) vc (wv M H kd cb wd b) M H (fun c' t' _ => c < c' ∨ (c' = c ∧ t' < t)) ∧ J'' = J') ?_ ?_ _ _ _ ⟨⟨_, _, _, rfl⟩, hF, Tb_mono hT (fun c' t' l' _ _ _ h => by omega), rfl⟩
    · rintro t ht r2 L I2 J2 ⟨⟨o6, o7, o8, rfl⟩, hF, hT, rfl⟩ hr2
      rw [g_X9_fillSure_16]
      refine ⟨fun h => absurd (show nI 6 ≤ nI t from h) (mI_ge ht (by omega)), fun _ => ?_⟩
      have e31 : I2 3 1 = H := by rw [hF 3 (by decide)]; exact hR.2.1
      have e0 : -(I2 3 1) = nI 0 - H := by rw [e31]; apply i_ext; rw [i_neg, i_sub, i_nI _ (by omega)]; omega
      rw [e0]
      refine zlp (2 * H.toInt.toNat + 1) (fun j L I' J'' => (∃ o7 o8, L = [some (.ref 37), some (.ref 3), some (.ref (42 + kd.toInt.toNat)), some (.int b), some (.int (nI c)), some (.int (nI t)), some (.int (nI j - H)), o7, o8]) ∧ F38 I I' ∧ Tb (I' 38) vc (wv M H kd cb wd b) M H (fun c' t' l' => c < c' ∨ (c' = c ∧ (t' < t ∨ (t' = t ∧ l' < j - H.toInt)))) ∧ J'' = J2) ?_ ?_ _ _ _ ⟨⟨_, _, rfl⟩, hF, Tb_mono hT (fun c' t' l' _ _ hl h => by rw [i_neg] at hl; omega), rfl⟩
      · rintro j hj r3 L I3 J3 ⟨⟨o7, o8, rfl⟩, hF, hT, rfl⟩ hr3
        have e31 : I3 3 1 = H := by rw [hF 3 (by decide)]; exact hR.2.1
        obtain ⟨l1, l2, l3⟩ := lj_ok hH hj
        rw [g_X9_fillSure_30, e31]
        refine ⟨fun h => absurd h l3, fun _ => ?_⟩
        have ej : nI j - H + 1 = nI (j + 1) - H := by
          have e1 : (1 : Int32).toInt = 1 := rfl
          apply i_ext; rw [i_add, l1, e1, i_sub, i_nI _ (by omega)]; omega
        refine zlp 3 (fun p L I' J'' => L = [some (.ref 37), some (.ref 3), some (.ref (42 + kd.toInt.toNat)), some (.int b), some (.int (nI c)), some (.int (nI t)), some (.int (nI j - H)), some (.int (vc (mn M H kd cb wd b (M - c) t (nI j - H) p))), some (.int (nI (p + 1)))] ∧ I' = I3 ∧ J'' = J3) ?_ ?_ _ _ _ ⟨rfl, rfl, rfl⟩
        · rintro p hp r4 L I4 J4 ⟨rfl, rfl, rfl⟩ hr4
          rw [g_X9_fillSure_46]
          refine ⟨fun h => absurd (show nI 3 < nI (p + 1) from h) (by rw [mI_lt (by omega) (by omega)]; omega), fun _ => ?_⟩
          refine p_worst hM hH (Rd_fr hR (hF 3 (by decide)) (hF 4 (by decide)) (hF 5 (by decide))) hk hcM (by omega) ⟨by omega, by omega⟩ hT (fun c' t' l' h => Or.inl h) _ _ ?_
          rw [Nat.mod_eq_of_lt ht, vc_min (pv_le M H kd cb wd b (by omega) _ _ _) (mn_le _ _ _ _ _ _ _ _ _ _), mI_one]
          exact hr4 _ _ _ ⟨rfl, rfl, rfl⟩
        · rintro r4 L I4 J4 ⟨rfl, rfl, rfl⟩
          rw [g_X9_fillSure_46]
          refine ⟨fun _ => ?_, fun h => absurd (show nI 3 < nI (3 + 1) by decide) h⟩
          refine p_put hH (by omega) ht l2 _ _ ?_
          rw [ej, mn_3 (by omega)]
          refine hr3 _ _ _ ⟨⟨_, _, rfl⟩, fun a ha => by rw [zu_ne _ _ _ ha]; exact hF a ha, ?_, rfl⟩
          refine Tb_put hH.2 hT ht l2 (by rw [zu_rd, if_pos rfl, if_pos rfl]) (fun k hk => by rw [zu_rd, if_pos rfl, if_neg hk]) (fun c' t' l' h => ?_)
          rw [l1]
          omega
      · rintro r3 L I3 J3 ⟨⟨o7, o8, rfl⟩, hF, hT, rfl⟩
        have e31 : I3 3 1 = H := by rw [hF 3 (by decide)]; exact hR.2.1
        rw [g_X9_fillSure_30, e31]
        have hgt : H < nI (2 * H.toInt.toNat + 1) - H := by rw [i_lt, i_sub, i_nI _ (by omega)]; omega
        refine ⟨fun _ => ?_, fun h => absurd hgt h⟩
        rw [mI_one]
        exact hr2 _ _ _ ⟨⟨_, _, _, rfl⟩, hF, Tb_mono hT (fun c' t' l' _ _ hl h => by omega), rfl⟩
    · rintro r2 L I2 J2 ⟨⟨o6, o7, o8, rfl⟩, hF, hT, rfl⟩
      rw [g_X9_fillSure_16]
      refine ⟨fun _ => ?_, fun h => absurd (mI_rf 6) h⟩
      have en : nI c + (-1) = nI (M - (k + 1)) - 1 := by
        have e1 : (1 : Int32).toInt = 1 := rfl
        have e2 : (-1 : Int32).toInt = -1 := rfl
        have : M - (k + 1) = c := by omega
        rw [this]; apply i_ext; rw [i_add, i_sub, e1, e2, i_nI _ (by omega)]; omega
      rw [en]
      exact hr _ _ _ ⟨⟨_, _, _, _, rfl⟩, hF, Tb_mono hT (fun c' t' l' _ ht' _ h => by omega), rfl⟩
  · rintro r L I' J' ⟨⟨o5, o6, o7, o8, rfl⟩, hF, hT, rfl⟩
    rw [g_X9_fillSure_8, Nat.sub_self]
    refine ⟨fun _ => ⟨rfl, hq I' hF (Tb_mono hT (fun _ _ _ _ _ _ _ => by omega))⟩, fun h => absurd (show (nI 0 - 1 : Int32) < 0 by decide) h⟩
