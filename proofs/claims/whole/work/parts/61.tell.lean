/-! ===== the class tells ===== -/
def FD (I I' : ZI) : Prop := (∀ a, a ≠ 31 → ¬ (16 ≤ a ∧ a ≤ 29) → I' a = I a) ∧ ∀ k, k ≠ 2 → k ≠ 3 → k ≠ 4 → I' 31 k = I 31 k
theorem FD_31 {I I' : ZI} (h : F31 I I') : FD I I' := ⟨fun a ha _ => h.1 a ha, h.2⟩
theorem FD_tr {I I1 I2 : ZI} (h : FD I I1) (h2 : FD I1 I2) : FD I I2 := ⟨fun a ha hb => by rw [h2.1 a ha hb, h.1 a ha hb], fun k a b c => by rw [h2.2 k a b c, h.2 k a b c]⟩
theorem FD_u (I : ZI) {a : Nat} (h : 16 ≤ a ∧ a ≤ 29) (k : Nat) (v : Int32) : FD I (zu I a k v) := ⟨fun b hb hc => zu_ne _ _ _ (by omega), fun j _ _ _ => by rw [zu_ne _ _ _ (by omega)]⟩
theorem FD_flr (I : ZI) {a : Nat} (h : 16 ≤ a ∧ a ≤ 29) (lo n : Nat) (f : Nat → Int32) : FD I (flr I a lo f n) := ⟨fun b hb hc => flr_ne _ _ (by omega), fun j _ _ _ => by rw [flr_ne _ _ (by omega)]⟩
theorem Tp_d {I I' : ZI} {n : Nat} {T : Nat → Int32} (h : Tp I n T) (hF : FD I I') : Tp I' n T := ⟨by rw [hF.2 1 (by omega) (by omega) (by omega)]; exact h.1, h.2.1, fun i hi => by rw [hF.1 32 (by decide) (by omega)]; exact h.2.2 i hi⟩
theorem W_31 {I I' : ZI} {D : Nat → Int32} (h : Wd 16 I D) (hF : F31 I I') : Wd 16 I' D := Wd_fr h (fun a a1 a2 => hF.1 a (by omega))
theorem W_c {I : ZI} {D : Nat → Int32} (h : Wd 16 I D) (hD : Dr D) {c : Nat} (hc : c < 16) (v : Int32) : Wd 16 (zu I 18 c v) (updn D (5 + c) v) := by
  obtain ⟨w0, w1, w2, w3, w4, w5, w6, w7, w8, w9, w10, w11, w12, w13⟩ := h
  have z0 : (0 : Int32).toInt = 0 := rfl
  have g : ∀ k, k ≠ 5 + c → updn D (5 + c) v k = D k := fun k hk => if_neg hk
  have ne : ∀ a, a ≠ 18 → zu I 18 c v a = I a := fun a ha => zu_ne _ _ _ ha
  have hh := hD.1.2.2.1
  unfold Wd
  simp only [Nat.reduceAdd] at *
  rw [g 0 (by omega), g 1 (by omega), g 2 (by omega), g 3 (by omega), g 4 (by omega), g 37 (by omega), g 38 (by omega), g 39 (by omega), g 40 (by omega), hD.2.1, hD.2.2, z0, ne 16 (by decide), ne 17 (by decide), ne 19 (by decide), ne 20 (by decide), ne 24 (by decide), ne 25 (by decide)]
  refine ⟨w0, w1, w2, by rw [w3, hD.2.1], by rw [w4, hD.2.2], fun k hk => ?_, fun i hi => by rw [g _ (by omega)]; exact w6 i hi, fun k hk => by rw [g (27 + 2 * k) (by omega), g (28 + 2 * k) (by omega)]; exact w7 k hk, w8, w9, w10, w11, fun k hk => by omega, fun k hk => by omega⟩
  rw [zu_rd, if_pos rfl]
  by_cases hkc : k = c
  · subst hkc; rw [if_pos rfl]; unfold updn; rw [if_pos rfl]
  · rw [if_neg hkc, g _ (by omega)]; exact w5 k hk
theorem W_w {I : ZI} {D : Nat → Int32} (h : Wd 16 I D) (hD : Dr D) {c : Nat} (hc : c < 6) (v : Int32) : Wd 16 (zu I 19 c v) (updn D (21 + c) v) := by
  obtain ⟨w0, w1, w2, w3, w4, w5, w6, w7, w8, w9, w10, w11, w12, w13⟩ := h
  have z0 : (0 : Int32).toInt = 0 := rfl
  have g : ∀ k, k ≠ 21 + c → updn D (21 + c) v k = D k := fun k hk => if_neg hk
  have ne : ∀ a, a ≠ 19 → zu I 19 c v a = I a := fun a ha => zu_ne _ _ _ ha
  have hh := hD.1.2.2.1
  unfold Wd
  simp only [Nat.reduceAdd] at *
  rw [g 0 (by omega), g 1 (by omega), g 2 (by omega), g 3 (by omega), g 4 (by omega), g 37 (by omega), g 38 (by omega), g 39 (by omega), g 40 (by omega), hD.2.1, hD.2.2, z0, ne 16 (by decide), ne 17 (by decide), ne 18 (by decide), ne 20 (by decide), ne 24 (by decide), ne 25 (by decide)]
  refine ⟨w0, w1, w2, by rw [w3, hD.2.1], by rw [w4, hD.2.2], fun k hk => by rw [g _ (by omega)]; exact w5 k hk, fun i hi => ?_, fun k hk => by rw [g (27 + 2 * k) (by omega), g (28 + 2 * k) (by omega)]; exact w7 k hk, w8, w9, w10, w11, fun k hk => by omega, fun k hk => by omega⟩
  rw [zu_rd, if_pos rfl]
  by_cases hkc : i = c
  · subst hkc; rw [if_pos rfl]; unfold updn; rw [if_pos rfl]
  · rw [if_neg hkc, g _ (by omega)]; exact w6 i hi
theorem W_h {I : ZI} {D : Nat → Int32} (h : Wd 16 I D) (hD : Dr D) (h5 : (D 2).toInt < 5) (sg x y : Int32) : Wd 16 (zu (zu (zu I 24 (D 2).toInt.toNat x) 25 (D 2).toInt.toNat (sg * y)) 16 2 (D 2 + 1)) (efH D sg x y) := by
  obtain ⟨w0, w1, w2, w3, w4, w5, w6, w7, w8, w9, w10, w11, w12, w13⟩ := h
  have z0 : (0 : Int32).toInt = 0 := rfl
  have e1 : (1 : Int32).toInt = 1 := rfl
  have hh := hD.1.2.2.1
  have hs : (D 2 + 1).toInt = (D 2).toInt + 1 := by rw [i_add, e1]; omega
  have g : ∀ k, k ≠ 2 → k ≠ 27 + 2 * (D 2).toInt.toNat → k ≠ 28 + 2 * (D 2).toInt.toNat → efH D sg x y k = D k := fun k h1 h2 h3 => by
    unfold efH updn; rw [if_neg h1, if_neg h3, if_neg h2]
  have g2 : efH D sg x y 2 = D 2 + 1 := by unfold efH updn; rw [if_pos rfl]
  have g27 : efH D sg x y (27 + 2 * (D 2).toInt.toNat) = x := by unfold efH updn; rw [if_neg (by omega), if_neg (by omega), if_pos rfl]
  have g28 : efH D sg x y (28 + 2 * (D 2).toInt.toNat) = sg * y := by unfold efH updn; rw [if_neg (by omega), if_pos rfl]
  generalize hI' : zu (zu (zu I 24 (D 2).toInt.toNat x) 25 (D 2).toInt.toNat (sg * y)) 16 2 (D 2 + 1) = I'
  have ne : ∀ a, a ≠ 24 → a ≠ 25 → a ≠ 16 → I' a = I a := fun a h1 h2 h3 => by rw [← hI', zu_ne _ _ _ h3, zu_ne _ _ _ h2, zu_ne _ _ _ h1]
  have n24 : ∀ k, I' 24 k = if k = (D 2).toInt.toNat then x else I 24 k := fun k => by rw [← hI']; simp only [zu_rd, Nat.reduceEqDiff, reduceIte]
  have n25 : ∀ k, I' 25 k = if k = (D 2).toInt.toNat then sg * y else I 25 k := fun k => by rw [← hI']; simp only [zu_rd, Nat.reduceEqDiff, reduceIte]
  have n162 : I' 16 2 = D 2 + 1 := by rw [← hI']; simp only [zu_rd, Nat.reduceEqDiff, reduceIte]
  have n165 : I' 16 5 = I 16 5 := by rw [← hI']; simp only [zu_rd, Nat.reduceEqDiff, reduceIte]
  clear hI'
  unfold Wd
  simp only [Nat.reduceAdd] at *
  rw [g 0 (by omega) (by omega) (by omega), g 1 (by omega) (by omega) (by omega), g2, hs, g 3 (by omega) (by omega) (by omega), g 4 (by omega) (by omega) (by omega), g 37 (by omega) (by omega) (by omega), g 38 (by omega) (by omega) (by omega), g 39 (by omega) (by omega) (by omega), g 40 (by omega) (by omega) (by omega), hD.2.1, hD.2.2, z0, ne 17 (by decide) (by decide) (by decide), ne 18 (by decide) (by decide) (by decide), ne 19 (by decide) (by decide) (by decide), ne 20 (by decide) (by decide) (by decide), n165]
  refine ⟨w0, w1, n162, by rw [w3, hD.2.1], by rw [w4, hD.2.2], fun k hk => by rw [g _ (by omega) (by omega) (by omega)]; exact w5 k hk, fun i hi => by rw [g _ (by omega) (by omega) (by omega)]; exact w6 i hi, fun k hk => ?_, w8, w9, w10, w11, fun k hk => by omega, fun k hk => by omega⟩
  rw [n24, n25]
  by_cases hkk : k = (D 2).toInt.toNat
  · rw [if_pos hkk, if_pos hkk, hkk, g27, g28]; exact ⟨rfl, rfl⟩
  · rw [if_neg hkk, if_neg hkk, g _ (by omega) (by omega) (by omega), g _ (by omega) (by omega) (by omega)]; exact w7 k (by omega)
variable {u : Nat} {I : ZI} {J : ZJ}
theorem p_X5_beginAnew_17 (x y : Int32) (q : YQv) (hq : q (flr (flr (zu (zu I 17 0 x) 17 1 y) 18 0 (fun _ => 0) 16) 19 0 (fun _ => 0) 6) J) : u_X5_beginAnew [.ref 17, .int x, .int y] (shp u) I J q := by
  rw [e_X5_beginAnew_a]
  generalize zu (zu I 17 0 x) 17 1 y = I0 at hq ⊢
  refine zlp 16 (fun k L I' J' => (∃ o1 o2, L = [some (.ref 17), o1, o2, some (.int (nI k))]) ∧ I' = flr I0 18 0 (fun _ => 0) k ∧ J' = J) ?_ ?_ _ _ _ ⟨⟨_, _, rfl⟩, (flr_0 _ _ _ _).symm, rfl⟩
  · rintro k hk r L I' J' ⟨⟨o1, o2, rfl⟩, rfl, rfl⟩ hr
    rw [g_X5_beginAnew_a_12]
    refine ⟨fun h => absurd h (mI_ge hk (by omega)), fun _ => ⟨mI_in hk (by omega), ?_⟩⟩
    rw [mI_nat (by omega), mI_one]
    refine hr _ _ _ ⟨⟨_, _, rfl⟩, ?_, rfl⟩
    have := flr_s I0 18 0 (fun _ => 0) k
    rw [Nat.zero_add] at this; exact this
  · rintro r L I' J' ⟨⟨o1, o2, rfl⟩, rfl, rfl⟩
    rw [g_X5_beginAnew_a_12]
    refine ⟨fun _ => ?_, fun h => absurd (mI_rf 16) h⟩
    generalize flr I0 18 0 (fun _ => 0) 16 = I1 at hq ⊢
    refine zlp 6 (fun k L I' J'' => (∃ o1 o2, L = [some (.ref 17), o1, o2, some (.int (nI k))]) ∧ I' = flr I1 19 0 (fun _ => 0) k ∧ J'' = J') ?_ ?_ _ _ _ ⟨⟨_, _, rfl⟩, (flr_0 _ _ _ _).symm, rfl⟩
    · rintro k hk r L I' J'' ⟨⟨o1, o2, rfl⟩, rfl, rfl⟩ hr
      rw [g_X5_beginAnew_a_36]
      refine ⟨fun h => absurd h (mI_ge hk (by omega)), fun _ => ⟨mI_in hk (by omega), ?_⟩⟩
      rw [mI_nat (by omega), mI_one]
      refine hr _ _ _ ⟨⟨_, _, rfl⟩, ?_, rfl⟩
      have := flr_s I1 19 0 (fun _ => 0) k
      rw [Nat.zero_add] at this; exact this
    · rintro r L I' J'' ⟨⟨o1, o2, rfl⟩, rfl, rfl⟩
      rw [g_X5_beginAnew_a_36]
      exact ⟨fun _ => ⟨rfl, hq⟩, fun h => absurd (mI_rf 6) h⟩
theorem c_begin (x y : Int32) (q : YQv) (hq : ∀ I', FD I I' → I' 31 = I 31 → Wd 16 I' (drf x y) → q I' J) : u_X10_beginAnew [.ref 16, .int x, .int y] (shp u) I J q := by
  rw [e_X10_beginAnew_a]
  refine p_X5_beginAnew_17 x y _ ?_
  rw [e_X8_begin_b]
  refine ⟨rfl, rfl, hq _ ?_ ?_ ?_⟩
  · refine FD_tr (FD_tr (FD_tr (FD_tr (FD_tr (FD_tr (FD_tr (FD_tr (FD_tr (FD_tr (FD_u I (by omega) _ _) (FD_u _ (by omega) _ _)) (FD_flr _ (by omega) _ _ _)) (FD_flr _ (by omega) _ _ _)) (FD_u _ (by omega) _ _)) (FD_u _ (by omega) _ _)) (FD_u _ (by omega) _ _)) (FD_u _ (by omega) _ _)) (FD_u _ (by omega) _ _)) (FD_u _ (by omega) _ _)) (FD_u _ (by omega) _ _)
  · rw [zu_ne _ _ _ (by decide), zu_ne _ _ _ (by decide), zu_ne _ _ _ (by decide), zu_ne _ _ _ (by decide), zu_ne _ _ _ (by decide), zu_ne _ _ _ (by decide), zu_ne _ _ _ (by decide), flr_ne _ _ (by decide), flr_ne _ _ (by decide), zu_ne _ _ _ (by decide), zu_ne _ _ _ (by decide)]
  · have z0 : (0 : Int32).toInt = 0 := rfl
    have nz : ∀ k, k ≠ 0 → k ≠ 1 → k ≠ 37 → drf x y k = 0 := fun k h0 h1 h2 => by unfold drf; rw [if_neg h0, if_neg h1, if_neg h2]
    generalize hI1 : zu (zu (zu (zu (zu (zu (zu (flr (flr (zu (zu I 17 0 x) 17 1 y) 18 0 (fun _ => 0) 16) 19 0 (fun _ => 0) 6) 20 0 (-1)) 20 1 0) 20 2 0) 20 3 0) 20 4 0) 16 2 0) 16 5 0 = I1
    have c30 : I1 17 0 = x := by rw [← hI1]; simp only [zu_rd, Nat.reduceEqDiff, reduceIte, flr_ne _ _ (show (17 : Nat) ≠ 18 by decide), flr_ne _ _ (show (17 : Nat) ≠ 19 by decide)]
    have c31 : I1 17 1 = y := by rw [← hI1]; simp only [zu_rd, Nat.reduceEqDiff, reduceIte, flr_ne _ _ (show (17 : Nat) ≠ 18 by decide), flr_ne _ _ (show (17 : Nat) ≠ 19 by decide)]
    have c4 : ∀ i, i < 16 → I1 18 i = 0 := fun i hi => by
      rw [← hI1]; simp only [zu_rd, Nat.reduceEqDiff, reduceIte, flr_ne _ _ (show (18 : Nat) ≠ 19 by decide)]
      exact flr_in _ _ (by omega) (by omega)
    have c5 : ∀ i, i < 6 → I1 19 i = 0 := fun i hi => by
      rw [← hI1]; simp only [zu_rd, Nat.reduceEqDiff, reduceIte]
      exact flr_in _ _ (by omega) (by omega)
    have c60 : I1 20 0 = -1 := by rw [← hI1]; simp only [zu_rd, Nat.reduceEqDiff, reduceIte]
    have c61 : I1 20 1 = 0 := by rw [← hI1]; simp only [zu_rd, Nat.reduceEqDiff, reduceIte]
    have c62 : I1 20 2 = 0 := by rw [← hI1]; simp only [zu_rd, Nat.reduceEqDiff, reduceIte]
    have c63 : I1 20 3 = 0 := by rw [← hI1]; simp only [zu_rd, Nat.reduceEqDiff, reduceIte]
    have c64 : I1 20 4 = 0 := by rw [← hI1]; simp only [zu_rd, Nat.reduceEqDiff, reduceIte]
    have c22 : I1 16 2 = 0 := by rw [← hI1]; simp only [zu_rd, Nat.reduceEqDiff, reduceIte]
    have c25 : I1 16 5 = 0 := by rw [← hI1]; simp only [zu_rd, Nat.reduceEqDiff, reduceIte]
    unfold Wd
    simp only [Nat.reduceAdd]
    rw [show drf x y 0 = x from rfl, show drf x y 1 = y from rfl, show drf x y 37 = -1 from rfl, nz 2 (by omega) (by omega) (by omega), nz 3 (by omega) (by omega) (by omega), nz 4 (by omega) (by omega) (by omega), nz 38 (by omega) (by omega) (by omega), nz 39 (by omega) (by omega) (by omega), nz 40 (by omega) (by omega) (by omega), z0]
    refine ⟨c30, c31, c22, c25, c64, fun c hc => ?_, fun i hi => ?_, fun h hh => by omega, c60, c61, c62, c63, fun k hk => by omega, fun k hk => by omega⟩
    · rw [c4 c hc, nz _ (by omega) (by omega) (by omega)]
    · rw [c5 i hi, nz _ (by omega) (by omega) (by omega)]
theorem c_cob {n p : Nat} {T D : Nat → Int32} (h : Tp I n T) (hp : p ≤ n) (h4 : I 31 4 = nI p) (hW : Wd 16 I D) (hD : Dr D) (sg : Int32) (q : YQi)
    (hN : ∀ I' a, FD I I' → I' 31 3 = nI a → mpr (efC D sg) (ptwo n T p 0 (D 0) 0 4) = .inl a → q I' J 0)
    (hY : ∀ I' D' e, FD I I' → I' 31 4 = nI e → Wd 16 I' D' → mpr (efC D sg) (ptwo n T p 0 (D 0) 0 4) = .inr (D', e) → q I' J 1) : u_X4_tellCobble [.ref 31, .ref 16, .int sg] (shp u) I J q := by
  have w0 : I 17 0 = D 0 := hW.1
  have z0 : (0 : Int32).toInt = 0 := rfl
  rw [e_X4_tellCobble, w0]
  refine c_two h hp h4 (by decide) (by decide) (fun I' J' v1 y0 => b_X4_tellCobble_28 u_X4_nextNumber u_X4_nextIsEnd u_X5_layCobble (qi (shp u) q) [some (.ref 31), some (.ref 16), some (.int sg), some (.int v1), none] [.int y0] (shp u) I' J') (fun I' J' v1 y0 => b_X4_tellCobble_43 u_X4_nextNumber u_X4_nextIsEnd u_X5_layCobble (qi (shp u) q) [some (.ref 31), some (.ref 16), some (.int sg), some (.int v1), some (.int y0)] [] (shp u) I' J') (fun I' J' v1 y0 => u_X5_layCobble [.ref 17, .int v1, .int (sg * y0)] (shp u) I' J' (fun I2 J2 => (((1 : Int32) = 0 ∨ (1 : Int32) = 1) ∧ (shp u = shp u ∧ q I2 J2 1)))) ?_ ?_ ?_
  · intro I' J' v1 y0 a b
    rw [g_X4_tellCobble_28]; exact ⟨a, b⟩
  · intro I' a v1 y0 hF h3 hr
    rw [g_X4_tellCobble_43]
    exact ⟨Or.inl rfl, rfl, hN I' a (FD_31 hF) h3 (by rw [hr]; rfl)⟩
  · intro I' v1 v2 e hF h4' hr
    obtain ⟨k1, k2, k3, k4⟩ := ptwo_ok hp hr
    have hv0 := hD.1.1
    rw [z0] at k1
    have e15 : (nI 16 - 1).toInt = 15 := by decide
    have hin : (0 : Int32).toInt ≤ v1.toInt ∧ v1.toInt ≤ (nI 16 - 1).toInt := by rw [e15, z0]; omega
    rw [e_X5_layCobble_a, p_X11_within]
    refine ⟨fun z => b0t hin z, fun _ => ⟨by rw [i_vp]; omega, ?_⟩⟩
    rw [g_X5_layCobble_a_22, i_nat]
    refine ⟨rfl, Or.inr rfl, rfl, hY _ _ e (FD_tr (FD_31 hF) (FD_u _ (by omega) _ _)) (by rw [zu_ne _ _ _ (by decide)]; exact h4') (W_c (W_31 hW hF) hD (by omega) _) (by rw [hr]; rfl)⟩
theorem c_win {n p : Nat} {T D : Nat → Int32} (h : Tp I n T) (hp : p ≤ n) (h4 : I 31 4 = nI p) (hW : Wd 16 I D) (hD : Dr D) (sg : Int32) (q : YQi)
    (hN : ∀ I' a, FD I I' → I' 31 3 = nI a → mpr (efW D sg) (ptwo n T p 0 5 0 3) = .inl a → q I' J 0)
    (hY : ∀ I' D' e, FD I I' → I' 31 4 = nI e → Wd 16 I' D' → mpr (efW D sg) (ptwo n T p 0 5 0 3) = .inr (D', e) → q I' J 1) : u_X4_tellWind [.ref 31, .ref 16, .int sg] (shp u) I J q := by
  have z0 : (0 : Int32).toInt = 0 := rfl
  have z5 : (5 : Int32).toInt = 5 := rfl
  rw [e_X4_tellWind]
  refine c_two h hp h4 (by decide) (by decide) (fun I' J' v1 y0 => b_X4_tellWind_22 u_X4_nextNumber u_X4_nextIsEnd u_X5_setWind (qi (shp u) q) [some (.ref 31), some (.ref 16), some (.int sg), some (.int v1), none] [.int y0] (shp u) I' J') (fun I' J' v1 y0 => b_X4_tellWind_37 u_X4_nextNumber u_X4_nextIsEnd u_X5_setWind (qi (shp u) q) [some (.ref 31), some (.ref 16), some (.int sg), some (.int v1), some (.int y0)] [] (shp u) I' J') (fun I' J' v1 y0 => u_X5_setWind [.ref 17, .int v1, .int (sg * y0)] (shp u) I' J' (fun I2 J2 => (((1 : Int32) = 0 ∨ (1 : Int32) = 1) ∧ (shp u = shp u ∧ q I2 J2 1)))) ?_ ?_ ?_
  · intro I' J' v1 y0 a b
    rw [g_X4_tellWind_22]; exact ⟨a, b⟩
  · intro I' a v1 y0 hF h3 hr
    rw [g_X4_tellWind_37]
    exact ⟨Or.inl rfl, rfl, hN I' a (FD_31 hF) h3 (by rw [hr]; rfl)⟩
  · intro I' v1 v2 e hF h4' hr
    obtain ⟨k1, k2, k3, k4⟩ := ptwo_ok hp hr
    rw [z0, z5] at k1
    have hz := zfm_6 k1.1
    have ez : zfm v1 6 = v1 := i_ext (by rw [hz]; omega)
    rw [e_X5_setWind_a, ez, i_nat]
    refine ⟨by decide, by rw [i_vp]; omega, rfl, Or.inr rfl, rfl, hY _ _ e (FD_tr (FD_31 hF) (FD_u _ (by omega) _ _)) (by rw [zu_ne _ _ _ (by decide)]; exact h4') (W_w (W_31 hW hF) hD (by omega) _) (by rw [hr]; rfl)⟩
theorem c_hd {n p : Nat} {T D : Nat → Int32} (h : Tp I n T) (hp : p ≤ n) (hT : Tk I n T p) (hW : Wd 16 I D) (hD : Dr D) (sg : Int32) (q : YQi)
    (hN : ∀ I' a, FD I I' → I' 31 3 = nI a → phd n T D p sg = .inl a → q I' J 0)
    (hY : ∀ I' D' e, FD I I' → I' 31 4 = nI e → Wd 16 I' D' → phd n T D p sg = .inr (D', e) → q I' J 1) : u_X4_tellHead [.ref 31, .ref 16, .int sg] (shp u) I J q := by
  have z0 : (0 : Int32).toInt = 0 := rfl
  have z5 : (5 : Int32).toInt = 5 := rfl
  have w2 : I 16 2 = D 2 := hW.2.2.1
  have hh := hD.1.2.2.1
  have a1 := tE_rg T hp
  rw [e_X4_tellHead, w2]
  refine ⟨fun hlt => ?_, fun hge => ⟨Or.inl rfl, rfl, hN I _ (FD_31 (F31_rf I)) hT.2.1 ?_⟩⟩
  · have h5 : ¬ D 2 = 5 := fun z => by rw [z, i_lt] at hlt; omega
    have hlt' : (D 2).toInt < 5 := by rw [i_lt, z5] at hlt; exact hlt
    have ep : phd n T D p sg = mpr (efH D sg) (ptwo n T (tE n T p) 0 5 0 12) := cIf_f h5
    rw [ep] at hN hY
    refine c_two h a1.2.1 hT.2.2 (by decide) (by decide) (fun I' J' v1 y0 => b_X4_tellHead_33 u_X4_nextNumber u_X4_nextIsEnd u_X10_addHead (qi (shp u) q) [some (.ref 31), some (.ref 16), some (.int sg), some (.int v1), none] [.int y0] (shp u) I' J') (fun I' J' v1 y0 => b_X4_tellHead_48 u_X4_nextNumber u_X4_nextIsEnd u_X10_addHead (qi (shp u) q) [some (.ref 31), some (.ref 16), some (.int sg), some (.int v1), some (.int y0)] [] (shp u) I' J') (fun I' J' v1 y0 => u_X10_addHead [.ref 16, .int v1, .int (sg * y0)] (shp u) I' J' (fun I2 J2 => (((1 : Int32) = 0 ∨ (1 : Int32) = 1) ∧ (shp u = shp u ∧ q I2 J2 1)))) ?_ ?_ ?_
    · intro I' J' v1 y0 a b
      rw [g_X4_tellHead_33]; exact ⟨a, b⟩
    · intro I' a v1 y0 hF h3 hr
      rw [g_X4_tellHead_48]
      exact ⟨Or.inl rfl, rfl, hN I' a (FD_31 hF) h3 (by rw [hr]; rfl)⟩
    · intro I' v1 v2 e hF h4' hr
      have w2' : I' 16 2 = D 2 := by rw [hF.1 16 (by decide)]; exact w2
      have z4 : (4 : Int32).toInt = 4 := rfl
      have hin : (0 : Int32).toInt ≤ (D 2).toInt ∧ (D 2).toInt ≤ (4 : Int32).toInt := by rw [z0, z4]; omega
      have hv : vp_in (D 2) 5 := by rw [i_vp]; omega
      rw [e_X10_addHead_a, p_X11_within, w2']
      refine ⟨fun z => b0t hin z, fun _ => ⟨hv, hv, ?_⟩⟩
      rw [g_X10_addHead_a_42, i_nat]
      refine ⟨rfl, Or.inr rfl, rfl, hY _ _ e (FD_tr (FD_31 hF) (FD_tr (FD_u _ (by omega) _ _) (FD_tr (FD_u _ (by omega) _ _) (FD_u _ (by omega) _ _)))) (by rw [zu_ne _ _ _ (by decide), zu_ne _ _ _ (by decide), zu_ne _ _ _ (by decide)]; exact h4') (W_h (W_31 hW hF) hD hlt' _ _ _) (by rw [hr]; rfl)⟩
  · have h5 : D 2 = 5 := i_ext (by rw [i_lt, z5] at hge; rw [z5]; omega)
    exact cIf_t h5
theorem c_item {n p : Nat} {T D : Nat → Int32} (h : Tp I n T) (hp : p ≤ n) (hT : Tk I n T p) (hW : Wd 16 I D) (hD : Dr D) (q : YQi)
    (hN : ∀ I' a, FD I I' → I' 31 3 = nI a → pitem n T D p = .inl a → q I' J 0)
    (hY : ∀ I' D' e, FD I I' → I' 31 4 = nI e → Wd 16 I' D' → pitem n T D p = .inr (D', e) → q I' J 1) : u_X4_tellItem [.ref 31, .ref 16] (shp u) I J q := by
  have a1 := tE_rg T hp
  unfold pitem at hN hY
  rw [e_X4_tellItem]
  refine p_isw_2 h hp hT _ ⟨fun z => ?_, fun z => ?_⟩
  · rw [cIf_f (b0n z)] at hN hY
    refine p_isw_3 h hp hT _ ⟨fun z => ?_, fun z => ?_⟩
    · rw [cIf_f (b0n z)] at hN hY
      refine p_isw_4 h hp hT _ ⟨fun z => ?_, fun z => ?_⟩
      · rw [cIf_f (b0n z)] at hN hY
        refine p_isw_5 h hp hT _ ⟨fun z => ?_, fun z => ?_⟩
        · rw [cIf_f (b0n z)] at hN hY
          refine p_isw_6 h hp hT _ ⟨fun z => ?_, fun z => ?_⟩
          · rw [cIf_f (b0n z)] at hN hY
            refine p_isw_7 h hp hT _ ⟨fun z => ?_, fun z => ?_⟩
            · rw [cIf_f (b0n z)] at hN hY
              rw [g_X4_tellItem_102, g_X4_tellItem_103]
              exact ⟨Or.inl rfl, rfl, hN I _ (FD_31 (F31_rf I)) hT.2.1 rfl⟩
            · rw [cIf_t (b0p z)] at hN hY
              refine c_hd h hp hT hW hD _ _ (fun I' a f1 f2 f3 => ⟨fun _ => ?_, fun y => absurd rfl y⟩) (fun I' D' e f1 f2 f3 f4 => ⟨fun y => absurd y (by decide), fun _ => ?_⟩)
              · rw [g_X4_tellItem_102, g_X4_tellItem_103]
                exact ⟨Or.inl rfl, rfl, hN I' a f1 f2 f3⟩
              · rw [g_X4_tellItem_103]
                exact ⟨Or.inr rfl, rfl, hY I' D' e f1 f2 f3 f4⟩
          · rw [cIf_t (b0p z)] at hN hY
            exact c_hd h hp hT hW hD _ _ (fun I' a f1 f2 f3 => ⟨Or.inl rfl, rfl, hN I' a f1 f2 f3⟩) (fun I' D' e f1 f2 f3 f4 => ⟨Or.inr rfl, rfl, hY I' D' e f1 f2 f3 f4⟩)
        · rw [cIf_t (b0p z)] at hN hY
          exact c_win h a1.2.1 hT.2.2 hW hD _ _ (fun I' a f1 f2 f3 => ⟨Or.inl rfl, rfl, hN I' a f1 f2 f3⟩) (fun I' D' e f1 f2 f3 f4 => ⟨Or.inr rfl, rfl, hY I' D' e f1 f2 f3 f4⟩)
      · rw [cIf_t (b0p z)] at hN hY
        exact c_win h a1.2.1 hT.2.2 hW hD _ _ (fun I' a f1 f2 f3 => ⟨Or.inl rfl, rfl, hN I' a f1 f2 f3⟩) (fun I' D' e f1 f2 f3 f4 => ⟨Or.inr rfl, rfl, hY I' D' e f1 f2 f3 f4⟩)
    · rw [cIf_t (b0p z)] at hN hY
      exact c_cob h a1.2.1 hT.2.2 hW hD _ _ (fun I' a f1 f2 f3 => ⟨Or.inl rfl, rfl, hN I' a f1 f2 f3⟩) (fun I' D' e f1 f2 f3 f4 => ⟨Or.inr rfl, rfl, hY I' D' e f1 f2 f3 f4⟩)
  · rw [cIf_t (b0p z)] at hN hY
    exact c_cob h a1.2.1 hT.2.2 hW hD _ _ (fun I' a f1 f2 f3 => ⟨Or.inl rfl, rfl, hN I' a f1 f2 f3⟩) (fun I' D' e f1 f2 f3 f4 => ⟨Or.inr rfl, rfl, hY I' D' e f1 f2 f3 f4⟩)
theorem c_rd {n p : Nat} {T : Nat → Int32} (h : Tp I n T) (hp : p ≤ n) (hT : Tk I n T p) (q : YQi)
    (hN : ∀ I' a, FD I I' → I' 31 3 = nI a → proad n T p = .inl a → q I' J 0)
    (hY : ∀ I' D' e, FD I I' → I' 31 4 = nI e → Wd 16 I' D' → proad n T p = .inr (D', e) → q I' J 1) : u_X4_tellRoad [.ref 31, .ref 16] (shp u) I J q := by
  have a1 := tE_rg T hp
  unfold proad at hN hY
  rw [e_X4_tellRoad]
  refine p_isw_1 h hp hT _ ⟨fun z => ?_, fun z => ?_⟩
  · rw [cIf_t (b0p z)] at hN hY
    refine c_two h a1.2.1 hT.2.2 (by decide) (by decide) (fun I' J' v1 y0 => b_X4_tellRoad_35 u_X4_isWord u_X4_nextNumber u_X4_nextIsEnd u_X10_beginAnew (qi (shp u) q) [some (.ref 31), some (.ref 16), some (.int v1), none] [.int y0] (shp u) I' J') (fun I' J' v1 y0 => b_X4_tellRoad_48 u_X4_isWord u_X4_nextNumber u_X4_nextIsEnd u_X10_beginAnew (qi (shp u) q) [some (.ref 31), some (.ref 16), some (.int v1), some (.int y0)] [] (shp u) I' J') (fun I' J' v1 y0 => u_X10_beginAnew [.ref 16, .int v1, .int y0] (shp u) I' J' (fun I2 J2 => (((1 : Int32) = 0 ∨ (1 : Int32) = 1) ∧ (shp u = shp u ∧ q I2 J2 1)))) ?_ ?_ ?_
    · intro I' J' v1 y0 a b
      rw [g_X4_tellRoad_35]; exact ⟨a, b⟩
    · intro I' a v1 y0 hF h3 hr
      rw [g_X4_tellRoad_48]
      exact ⟨Or.inl rfl, rfl, hN I' a (FD_31 hF) h3 (by rw [hr]; rfl)⟩
    · intro I' v1 v2 e hF h4' hr
      refine c_begin v1 v2 _ (fun I2 f1 f2 f3 => ⟨Or.inr rfl, rfl, hY I2 _ e (FD_tr (FD_31 hF) f1) (by rw [f2]; exact h4') f3 (by rw [hr]; rfl)⟩)
  · rw [cIf_f (b0n z)] at hN hY
    exact ⟨Or.inl rfl, rfl, hN I _ (FD_31 (F31_rf I)) hT.2.1 rfl⟩
