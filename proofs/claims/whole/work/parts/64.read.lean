/-! ===== read ===== -/
variable {u : Nat} {I : ZI} {J : ZJ}
theorem p_begin59 (x y : Int32) (q : YQv) (hq : q (zu (zu (zu (flr I 59 0 (fun _ => 0) 66) 59 0 x) 59 1 y) 59 37 (-1)) J) : u_X12_begin [.ref 59, .int x, .int y] (shp u) I J q := by
  rw [e_X12_begin_a]
  refine zlp 66 (fun k L I' J' => L = [some (.ref 59), some (.int x), some (.int y), some (.int (nI k))] ∧ I' = flr I 59 0 (fun _ => 0) k ∧ J' = J) ?_ ?_ _ _ _ ⟨rfl, (flr_0 _ _ _ _).symm, rfl⟩
  · rintro k hk r L I' J' ⟨rfl, rfl, rfl⟩ hr
    rw [g_X12_begin_a_2]
    refine ⟨fun h => absurd (show nI 66 ≤ nI k from h) (mI_ge hk (by omega)), fun _ => ⟨mI_in (by omega) (by omega), ?_⟩⟩
    rw [mI_nat (by omega), mI_one]
    refine hr _ _ _ ⟨rfl, ?_, rfl⟩
    have := flr_s I 59 0 (fun _ => 0) k
    rw [Nat.zero_add] at this; exact this
  · rintro r L I' J' ⟨rfl, rfl, rfl⟩
    rw [g_X12_begin_a_2]
    exact ⟨fun _ => ⟨rfl, hq⟩, fun h => absurd (mI_rf 66) h⟩
theorem m_rd {n p : Nat} {T : Nat → Int32} (h : Tq I n T) (hp : p ≤ n) (hT : RT I n T p) (q : YQi)
    (hN : ∀ I' a, FT I I' → I' 48 16 = nI a → proad n T p = .inl a → q I' J 0)
    (hY : ∀ I' D p3, FT I I' → RT I' n T p3 → p3 ≤ n → (∀ k, k < 66 → I' 59 k = D k) → proad n T p = .inr (D, tE n T p3) → q I' J 1) : u_X12_takesRoad [.ref 48] (shp u) I J q := by
  have a1 := tE_rg T hp
  have a2 := tE_rg T a1.2.1
  have a3 := tE_rg T a2.2.1
  unfold proad at hN hY
  rw [e_X12_takesRoad]
  refine m_isw_1 h hp hT _ ⟨fun z => ?_, fun z => ?_⟩
  · rw [cIf_t (b0p z)] at hN hY
    refine p_goB h hp hT _ (fun I1 hF1 hR1 => ?_)
    have hq1 := Tq_f h hF1
    refine m_takes (k := 0) hq1 a1.2.1 hR1 (by omega) 1 15 _ (fun hk I2 f1 f2 f3 f4 f5 => ⟨fun z => absurd z (by decide), fun _ => ?_⟩) (fun hk => ⟨fun _ => ?_, fun z => absurd rfl z⟩)
    · have hq2 := Tq_t hq1 f1
      refine m_takes (k := 1) hq2 a2.2.1 f5 (by omega) 1 12 _ (fun hk2 I3 g1 g2 g3 g4 g5 => ⟨fun _ => ?_, fun z => absurd z (by decide)⟩) (fun hk2 => ⟨fun z => absurd rfl z, fun _ => ?_⟩)
      · obtain ⟨e1, e2⟩ := ptwo_e hk hk2
        have e60 : I3 60 0 = nvl n T (tE n T p) := by rw [g4 0 (by omega), f3]
        rw [e60, g3]
        refine p_begin59 _ _ _ ?_
        have hF4 : FT I (zu (zu (zu (flr I3 59 0 (fun _ => 0) 66) 59 0 (nvl n T (tE n T p))) 59 1 (nvl n T (tE n T (tE n T p)))) 59 37 (-1)) := FT_tr (FT_4 hF1) (FT_tr f1 (FT_tr g1 ⟨fun a b1 b2 b3 => by rw [zu_ne _ _ _ b2, zu_ne _ _ _ b2, zu_ne _ _ _ b2, flr_ne _ _ b2], fun k _ => by rw [zu_ne _ _ _ (by decide), zu_ne _ _ _ (by decide), zu_ne _ _ _ (by decide), flr_ne _ _ (by decide)]⟩))
        have hR4 : RT (zu (zu (zu (flr I3 59 0 (fun _ => 0) 66) 59 0 (nvl n T (tE n T p))) 59 1 (nvl n T (tE n T (tE n T p)))) 59 37 (-1)) n T (tE n T (tE n T (tE n T p))) := RT_ne g5 (by rw [zu_ne _ _ _ (by decide), zu_ne _ _ _ (by decide), zu_ne _ _ _ (by decide), flr_ne _ _ (by decide)])
        have hD4 : ∀ k, k < 66 → zu (zu (zu (flr I3 59 0 (fun _ => 0) 66) 59 0 (nvl n T (tE n T p))) 59 1 (nvl n T (tE n T (tE n T p)))) 59 37 (-1) 59 k = drf (nvl n T (tE n T p)) (nvl n T (tE n T (tE n T p))) k := fun k hk => by
          unfold drf
          simp only [zu_rd, reduceIte]
          by_cases h37 : k = 37
          · subst h37; rw [if_pos rfl, if_neg (by decide), if_neg (by decide), if_pos rfl]
          · rw [if_neg h37]
            by_cases h1 : k = 1
            · subst h1; rw [if_pos rfl, if_neg (by decide), if_pos rfl]
            · rw [if_neg h1]
              by_cases h0 : k = 0
              · subst h0; rw [if_pos rfl, if_pos rfl]
              · rw [if_neg h0, if_neg h0, if_neg h1, if_neg h37]; exact flr_in _ _ (by omega) (by omega)
        generalize zu (zu (zu (flr I3 59 0 (fun _ => 0) 66) 59 0 (nvl n T (tE n T p))) 59 1 (nvl n T (tE n T (tE n T p)))) 59 37 (-1) = I4 at hF4 hR4 hD4 ⊢
        have hk4 := tkn_rg n T (tE n T (tE n T (tE n T p)))
        have q3 : (nI (tkn n T (tE n T (tE n T (tE n T p)))) = 3) = (tS n T (tE n T (tE n T (tE n T p))) = 3) := (mI_eq (b := 3) (by omega) (by omega)).trans (tkn_3 n T _)
        rw [hR4.2.2.1, q3, g_X12_takesRoad_80, g_X12_takesRoad_80]
        refine ⟨fun w => ⟨Or.inl rfl, rfl, hN I4 _ hF4 hR4.1 (by rw [e2 w]; rfl)⟩, fun w => ⟨Or.inr rfl, rfl, hY I4 _ _ hF4 hR4 a3.2.1 hD4 (by rw [e1 w]; rfl)⟩⟩
      · rw [g_X12_takesRoad_46]
        exact ⟨Or.inl rfl, rfl, hN I2 _ (FT_tr (FT_4 hF1) f1) f5.1 (by unfold ptwo; rw [cIf_t hk, cIf_f hk2]; rfl)⟩
    · rw [g_X12_takesRoad_46]
      exact ⟨Or.inl rfl, rfl, hN I1 _ (FT_4 hF1) hR1.1 (by unfold ptwo; rw [cIf_f hk]; rfl)⟩
  · rw [cIf_f (b0n z)] at hN hY
    exact ⟨Or.inl rfl, rfl, hN I _ (FT_rf I) hT.1 rfl⟩
theorem m_read {n : Nat} {T : Nat → Int32} (h : Tq I n T) (q : YQi)
    (hN : ∀ I' a, FT I I' → pread n T = .inl a → q I' J ((-10 : Int32) - nI a))
    (hY : ∀ I' k D, FT I I' → pread n T = .inr (k, D) → Dr D → (∀ j, j < 66 → I' 59 j = D j) → q (flr I' 49 0 (fun j => I' 59 j) 66) J (nI k)) : u_X12_read [.ref 48] (shp u) I J q := by
  have hn := h.2.1
  rw [e_X12_read]
  refine p_look (p := 0) h (by omega) _ (fun I1 hF1 hR1 => ?_)
  have hq1 := Tq_f h hF1
  refine m_rd hq1 (by omega) hR1 _ (fun I2 a f1 f2 f3 => ⟨fun z => absurd rfl z, fun _ => ⟨rfl, by rw [f2]; exact hN I2 a (FT_tr (FT_4 hF1) f1) (by unfold pread; rw [f3])⟩⟩) (fun I2 D p3 f1 f2 f3 f4 f5 => ⟨fun _ => ?_, fun z => absurd z (by decide)⟩)
  obtain ⟨d1, d2, d3⟩ := proad_ok f5
  have hq2 := Tq_t hq1 f1
  refine p_goB hq2 f3 f2 _ (fun I3 hF3 hR3 => ?_)
  have hM3 : ∀ k, k < 66 → I3 59 k = D k := fun k hk => by rw [hF3.1 59 (by decide)]; exact f4 k hk
  have hF03 : FT I I3 := FT_tr (FT_4 hF1) (FT_tr f1 (FT_4 hF3))
  refine zlp 76 (fun k L I' J' => (∃ o2, L = [some (.ref 48), some (.int (nI (k + 1))), o2]) ∧ (FT I I' ∧ ∃ D p, Dr D ∧ (∀ j, j < 66 → I' 59 j = D j) ∧ RT I' n T p ∧ p ≤ n ∧ 2 * (k + 1) ≤ p ∧ pread n T = pmn n T (150 - k) (k + 1) D p) ∧ J' = J) ?_ ?_ _ _ _ ⟨⟨_, rfl⟩, ⟨hF03, D, _, d1, hM3, hR3, d3, by omega, by unfold pread; rw [f5]⟩, rfl⟩
  · rintro k hk r L I' J' ⟨⟨o2, rfl⟩, ⟨hF, D, p, hD, hM, hR, hp, h2, hpr⟩, rfl⟩ hr
    have hT := Tq_t h hF
    have hk4 := tkn_rg n T p
    have q0 : (nI (tkn n T p) = 0) = (tS n T p = 0) := (mI_eq (b := 0) (by omega) (by omega)).trans (tkn_0 n T p)
    have ef : 150 - k = (150 - (k + 1)) + 1 := by omega
    rw [ef] at hpr
    rw [g_X12_read_26, hR.2.2.1, q0]
    refine ⟨fun z => ?_, fun z => ?_⟩
    · have fin := hY I' (k + 1) D hF (by rw [hpr]; exact pmn_0 z) hD hM
      refine zlp 66 (fun i L I4 J4 => L = [some (.ref 48), some (.int (nI (k + 1))), some (.int (nI i))] ∧ I4 = flr I' 49 0 (fun j => I' 59 j) i ∧ J4 = J') ?_ ?_ _ _ _ ⟨rfl, (flr_0 _ _ _ _).symm, rfl⟩
      · rintro i hi r2 L I4 J4 ⟨rfl, rfl, rfl⟩ hr2
        rw [g_X12_read_68, mI_nat (by omega), mI_one, flr_ne _ _ (show (59 : Nat) ≠ 49 by decide)]
        refine ⟨fun y => absurd (show nI 66 ≤ nI i from y) (mI_ge hi (by omega)), fun _ => ⟨mI_in (by omega) (by omega), mI_in (by omega) (by omega), hr2 _ _ _ ⟨rfl, ?_, rfl⟩⟩⟩
        have := flr_s I' 49 0 (fun j => I' 59 j) i
        rw [Nat.zero_add] at this; exact this
      · rintro r2 L I4 J4 ⟨rfl, rfl, rfl⟩
        rw [g_X12_read_68]
        exact ⟨fun _ => ⟨rfl, fin⟩, fun y => absurd (mI_rf 66) y⟩
    · have fail : ∀ (I4 : ZI) (a : Nat) (o1 o2 : Option Value), FT I I4 → I4 48 16 = nI a → pitem n T D p = .inl a → b_X12_read_48 u_X12_lookAt u_X12_takesRoad u_X12_goBehind u_X12_takesItem (qi (shp u) q) [some (.ref 48), o1, o2] [] (shp u) I4 J' := by
        intro I4 a o1 o2 g1 g2 g3
        rw [g_X12_read_48, g2]
        exact ⟨rfl, hN I4 a g1 (by rw [hpr]; exact pmn_l z g3)⟩
      refine m_item hT hp hR hM hD _ (fun I4 a g1 g2 g3 => ⟨fun _ => fail I4 a _ _ (FT_tr hF g1) g2 g3, fun y => absurd rfl y⟩) (fun I4 g1 g2 => ⟨fun y => absurd y (by decide), fun _ => ?_⟩)
      obtain ⟨D', p3', m1, m2, m3, m4, m5⟩ := g2
      have hk5 := tkn_rg n T p3'
      have q3 : (nI (tkn n T p3') = 3) = (tS n T p3' = 3) := (mI_eq (b := 3) (by omega) (by omega)).trans (tkn_3 n T _)
      rw [m1.2.2.1, q3]
      refine ⟨fun y => ?_, fun y => fail I4 _ _ _ (FT_tr hF g1) m1.1 (m5 y)⟩
      obtain ⟨e1, e2, e3⟩ := pitem_ok hp hD (m4 y)
      refine p_goB (Tq_t hT g1) m2 m1 _ (fun I5 hF5 hR5 => ?_)
      rw [mI_one]
      exact hr _ _ _ ⟨⟨_, rfl⟩, ⟨FT_tr hF (FT_tr g1 (FT_4 hF5)), D', _, e1, fun j hj => by rw [hF5.1 59 (by decide)]; exact m3 j hj, hR5, e3, by omega, by rw [hpr]; exact pmn_r z (m4 y)⟩, rfl⟩
  · rintro r L I' J' ⟨⟨o2, rfl⟩, ⟨hF, D, p, hD, hM, hR, hp, h2, hpr⟩, rfl⟩
    omega
theorem Vd_66 {n n' : Nat → Int32} (h : Dr n) (e : ∀ k, k < 66 → n' k = n k) : Vd n' := by
  obtain ⟨⟨v0, v1, v2, v3, v4, v5, v6, v7, v8, v9, v10, v11⟩, d3, d4⟩ := h
  have z0 : (0 : Int32).toInt = 0 := rfl
  unfold Vd
  rw [e 0 (by omega), e 1 (by omega), e 2 (by omega), e 3 (by omega), e 4 (by omega), e 37 (by omega), e 38 (by omega), e 39 (by omega), e 40 (by omega), e 41 (by omega)]
  refine ⟨v0, v1, v2, v3, v4, fun h hh => ?_, v6, v7, v8, v9, fun k hk => ?_, fun k hk => ?_⟩
  · rw [e _ (by omega)]; exact v5 h hh
  · rw [d4, z0] at hk; omega
  · rw [d3, z0] at hk; omega
theorem Wd_66 {b : Nat} {I : ZI} {n n' : Nat → Int32} (hV : Dr n) (h : Wd b I n) (e : ∀ k, k < 66 → n' k = n k) : Wd b I n' := by
  obtain ⟨⟨v0, v1, v2, v3, v4, v5, v6, v7, v8, v9, v10, v11⟩, d3, d4⟩ := hV
  obtain ⟨w0, w1, w2, w3, w4, w5, w6, w7, w8, w9, w10, w11, w12, w13⟩ := h
  have z0 : (0 : Int32).toInt = 0 := rfl
  unfold Wd
  rw [e 0 (by omega), e 1 (by omega), e 2 (by omega), e 3 (by omega), e 4 (by omega), e 37 (by omega), e 38 (by omega), e 39 (by omega), e 40 (by omega)]
  refine ⟨w0, w1, w2, w3, w4, fun c hc => ?_, fun i hi => ?_, fun h hh => ?_, w8, w9, w10, w11, fun k hk => ?_, fun k hk => ?_⟩
  · rw [e _ (by omega)]; exact w5 c hc
  · rw [e _ (by omega)]; exact w6 i hi
  · rw [e (27 + 2 * h) (by omega), e (28 + 2 * h) (by omega)]; exact w7 h hh
  · rw [d4, z0] at hk; omega
  · rw [d3, z0] at hk; omega
theorem o_read (hR : Rl u I J) (Q : ZI → ZJ → Int32 → Int32 → Prop) (hQ : ∀ I' J' v, Rl u I' J' → Q I' J' v v) :
    u_X11_read [.ref 0] (shp u) I J (fun I1 J1 v1 => u_X12_read [.ref 48] (shp u) I1 J1 (fun I2 J2 v2 => Q I2 J2 v1 v2)) := by
  have hT := hR.2.2.2.2.1
  obtain ⟨t1, t2, t3⟩ := hT
  have e1 : I 31 1 = nI (I 31 1).toInt.toNat := mI_of t2.1
  have hn : (I 31 1).toInt.toNat ≤ 150 := by omega
  have hTp : Tp I (I 31 1).toInt.toNat (I 32) := ⟨e1, hn, fun _ _ => rfl⟩
  have FrD : ∀ {I1 : ZI}, FD I I1 → Fr I I1 := fun h => ⟨fun a a1 a2 a3 _ _ _ _ => h.1 a a1 a3, h.2 1 (by omega) (by omega) (by omega), by rw [h.1 48 (by decide) (by omega)]⟩
  have FrT : ∀ {I1 I2 : ZI}, FT I1 I2 → Fr I1 I2 := fun h => ⟨fun a _ a2 _ _ _ a6 a7 => h.1 a a2 a6 a7, by rw [h.1 31 (by decide) (by decide) (by decide)], h.2 15 (by omega)⟩
  have hTq : ∀ {I1 : ZI}, I1 48 = I 48 → I1 58 = I 58 → Tq I1 (I 31 1).toInt.toNat (I 32) := fun h48 h58 => ⟨by rw [h48, ← t1]; exact e1, hn, fun i hi => by rw [h58]; exact (t3 i hi).1.symm⟩
  generalize (I 31 1).toInt.toNat = n at hTp hn hTq
  rw [e_X11_read]
  refine c_tell hTp _ (fun I1 a f1 f2 f3 f4 => ⟨fun z => absurd rfl z, fun _ => ⟨rfl, ?_⟩⟩) (fun I1 k D f1 f2 f3 f4 f5 f6 => ⟨fun _ => ?_, fun z => ?_⟩)
  · rw [f2]
    have h48 : I1 48 = I 48 := f1.1 48 (by decide) (by omega)
    have h58 : I1 58 = I 58 := f1.1 58 (by decide) (by omega)
    refine m_read (hTq h48 h58) _ (fun I2 b g1 g2 => ?_) (fun I2 k D g1 g2 g3 g4 => by rw [f4] at g2; cases g2)
    rw [f4] at g2
    cases g2
    exact hQ _ _ _ (Rl_fr hR (Fr_tr (FrD f1) (FrT g1)) rfl rfl)
  · refine p_copy_2_16_u _ ⟨rfl, ?_⟩
    have hW2 : Wd 2 (cpW_2_16 I1) D := cpW_2_16_Wd f4 f5.1.2.2.1.2 f5.1.2.2.2.1.2 f5.1.2.2.2.2.1.2
    have hne : ∀ a, ¬ (2 ≤ a ∧ a ≤ 15) → cpW_2_16 I1 a = I1 a := fun a ha => cpW_2_16_ne I1 (by omega)
    generalize cpW_2_16 I1 = I2 at hW2 hne
    have h48 : I2 48 = I 48 := by rw [hne 48 (by omega)]; exact f1.1 48 (by decide) (by omega)
    have h58 : I2 58 = I 58 := by rw [hne 58 (by omega)]; exact f1.1 58 (by decide) (by omega)
    refine m_read (hTq h48 h58) _ (fun I3 b g1 g2 => by rw [f6] at g2; cases g2) (fun I3 k' D' g1 g2 g3 g4 => ?_)
    rw [f6] at g2
    cases g2
    refine hQ _ _ _ ?_
    have e49 : ∀ j, j < 66 → flr I3 49 0 (fun j => I3 59 j) 66 49 j = D j := fun j hj => by rw [flr_in _ _ (by omega) (by omega)]; exact g4 j hj
    have ene : ∀ a, a ≠ 49 → flr I3 49 0 (fun j => I3 59 j) 66 a = I3 a := fun a ha => flr_ne _ _ ha
    generalize flr I3 49 0 (fun j => I3 59 j) 66 = I4 at e49 ene
    have hfr : Fr I (fun a => if (2 ≤ a ∧ a ≤ 15) ∨ a = 49 then I a else I4 a) := by
      refine ⟨fun a a1 a2 a3 a4 a5 a6 a7 => ?_, ?_, ?_⟩
      · show (if (2 ≤ a ∧ a ≤ 15) ∨ a = 49 then I a else I4 a) = I a
        by_cases hc : (2 ≤ a ∧ a ≤ 15) ∨ a = 49
        · rw [if_pos hc]
        · rw [if_neg hc, ene a (by omega), g1.1 a a2 a6 a7, hne a (by omega), f1.1 a a1 a3]
      · show (if _ then _ else _ : Nat → Int32) 1 = _
        rw [if_neg (by omega), ene 31 (by decide), g1.1 31 (by decide) (by decide) (by decide), hne 31 (by omega)]
        exact f1.2 1 (by omega) (by omega) (by omega)
      · show (if _ then _ else _ : Nat → Int32) 15 = _
        rw [if_neg (by omega), ene 48 (by decide), g1.2 15 (by omega), h48]
    refine Rl_w (Rl_fr hR hfr (J' := J) rfl rfl) (fun a a1 a2 => ?_) ?_ ?_
    · rw [if_neg (by omega)]
    · have w : Wd 2 I4 D := Wd_fr hW2 (fun a a1 a2 => by rw [ene a (by omega), g1.1 a (by omega) (by omega) (by omega)])
      exact Wd_66 f5 w e49
    · exact Vd_66 f5 e49
  · exfalso
    have zm : (-1 : Int32).toInt = -1 := rfl
    have := congrArg Int32.toInt z
    rw [i_nI _ (by omega), zm] at this
    omega
