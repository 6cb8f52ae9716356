/-! ===== soonest, of the reference ===== -/
variable {u : Nat} {I : ZI} {J : ZJ}
theorem m_soonest (x1 x2 x3 : Int32) (I : ZI) (q : YQi) (hV : Vd (I 49)) (hn : ¬ g_soo x1 x2 x3 (I 49) → q (zu I 52 0 (I 52 0 + 1)) J (-10)) (hy : g_soo x1 x2 x3 (I 49) → ∀ I', Fr I I' → q I' J (a_soo x1 x2 x3 (I 49))) :
    u_X12_soonest [.ref 48, .int x1, .int x2, .int x3] (shp u) I J q := by
  have no : ¬ g_soo x1 x2 x3 (I 49) → ∀ o1 o2 o3 o4 o5, b_X12_soonest_20 u_X12_isHead u_X12_isStep u_X12_bad u_X12_layStones u_X12_kindOf u_X12_layLatest u_X12_throughIn u_X12_setOf u_X12_beginAt u_X12_byPace u_X12_latestAt u_X12_goStep (qi (shp u) q) [some (.ref 48), o1, o2, o3, o4, o5] [] (shp u) I J := by
    intro h o1 o2 o3 o4 o5
    rw [g_X12_soonest_20, p_X12_bad]
    exact ⟨rfl, hn h⟩
  rw [e_X12_soonest, p_X12_isHead]
  refine ⟨fun h => no (fun z => b0n h z.1) _ _ _ _ _, fun h1 => ?_⟩
  rw [p_X12_isStep]
  refine ⟨fun h => no (fun z => b0n h z.2.1) _ _ _ _ _, fun h2 => ⟨fun h3 => ?_, fun h => no (fun z => h z.2.2) _ _ _ _ _⟩⟩
  have g1 := b0p h1
  have g2 := b0p h2
  obtain ⟨k1, k2, k3⟩ := hd_of hV g1
  have fin := hy ⟨g1, g2, h3⟩
  unfold a_soo at fin
  refine p_X12_layStones u I J _ ?_
  have l49 := lay_49 I
  have l53 := lay_53 I
  have lF := lay_Fr I
  generalize lay I 16 = I0 at l49 l53 lF ⊢
  rw [p_X12_kindOf _ _ _ k1]
  refine m_fill (by rw [l49]; exact hV) (by rw [l49]; exact k3) (by decide) l53 _ (fun I1 hF1 hT1 => ?_)
  rw [l49] at hT1
  have e49 : I1 49 = I 49 := by rw [hF1 49 (by decide), l49]
  have hF := Fr_tr lF (Fr_54 hF1)
  clear hF1 lF l53 l49
  obtain ⟨t, ht, ht6⟩ : ∃ t : Nat, x2 = nI t ∧ t < 6 := ⟨_, mI_of g2.1, by omega⟩
  have et : x2.toInt.toNat = t := by rw [ht, i_nI _ (by omega)]; rfl
  rw [et] at fin
  rw [ht]
  have h15 := thr_le hV x1.toInt.toNat 0 t
  refine m_thr hV e49 k1 hT1 ht6 _ ?_
  rw [vm_far]
  refine ⟨fun hw => ?_, fun hw => ⟨rfl, ?_⟩⟩
  · rw [if_pos hw] at fin
    rw [vm_lt hw]
    refine ⟨fun hx => ?_, fun hx => ⟨fun hlt => ?_, fun hlt => ?_⟩⟩
    · rw [if_pos hx] at fin
      rw [g_X12_soonest_69]
      refine ⟨fun z => absurd hx z, fun _ => ?_⟩
      rw [g_X12_soonest_81]; exact ⟨rfl, fin I1 hF⟩
    · rw [if_neg hx, if_neg (by rw [i_le]; rw [i_lt] at hlt; omega)] at fin
      have h3p : 0 ≤ x3.toInt := by
        have e1 : (-1 : Int32).toInt = -1 := rfl
        rw [i_le, e1] at h3
        rcases Int.lt_or_le x3.toInt 0 with z | z
        · exact absurd (i_ext (show x3.toInt = (-1 : Int32).toInt by rw [e1]; omega)) hx
        · exact z
      obtain ⟨i, hi⟩ : ∃ i : Nat, x3 = nI i ∧ x3.toInt.toNat = i := ⟨_, mI_of h3p, rfl⟩
      have hi2 : x3.toInt < thr (I 49) x1.toInt.toNat 0 t := by rw [i_lt, i_nI _ (by omega)] at hlt; omega
      rw [hi.2] at fin
      have hit : i < thr (I 49) x1.toInt.toNat 0 t := by omega
      rw [hi.1]
      clear hlt h3 no hn hy
      rw [p_X12_setOf _ _ _ k1, e49]
      refine p_X12_beginAt u I1 J (Mw_of (I := I1) (by rw [e49]; exact hV)) _ (fun I4 hF4 hM4 hT4 => ?_)
      rw [e49] at hM4 hT4
      have hM := n0_rg hV
      have ok := fps_ok (M := (I 49 0).toInt.toNat) (H := I 49 1) (kd := I 49 (27 + 2 * x1.toInt.toNat)) (cb := fun c => I 49 (5 + c)) (wd := fun i => I 49 (21 + i)) ht6 (set := I 49 (28 + 2 * x1.toInt.toNat)) hM.2 hw
      have hFr4 := Fr_tr hF (Fr_M hF4)
      refine zlp (i + 1) (fun k L I' J' => (∃ o4 x, L = [some (.ref 48), some (.int x1), some (.int (nI t)), some (.int (nI i)), o4, some (.int x)] ∧ (k ≠ 0 → x = nI (spp (I 49) x1.toInt.toNat t (k - 1)))) ∧ Tm I' (I 49 0) (nI (sps (I 49) x1.toInt.toNat t k).1, (sps (I 49) x1.toInt.toNat t k).2) k ∧ Md I' (I 49 0) (I 49 1) (fun c => I 49 (5 + c)) (fun i => I 49 (21 + i)) ∧ I' 54 = I1 54 ∧ I' 49 = I 49 ∧ Fr I I' ∧ J' = J) ?_ ?_ _ _ _ ⟨⟨_, _, rfl, fun z => absurd rfl z⟩, hT4, hM4, hF4.1 54 (by decide) (by decide), (hF4.1 49 (by decide) (by decide)).trans e49, hFr4, rfl⟩
      · rintro k hki r L I' J' ⟨⟨o4, x, rfl, hx⟩, hTm, hMd, h54, h49, hFr, rfl⟩ hr
        obtain ⟨o1, o2', o3'⟩ := ok k (by show k ≤ thr (I 49) x1.toInt.toNat 0 t; omega)
        have o1 : (sps (I 49) x1.toInt.toNat t k).1 ≤ (I 49 0).toInt.toNat := o1
        have o2' : ¬ fel (I 49 1) (sps (I 49) x1.toInt.toNat t k).2 := o2'
        have o3' : wv (I 49 0).toInt.toNat (I 49 1) (I 49 (27 + 2 * x1.toInt.toNat)) (fun c => I 49 (5 + c)) (fun i => I 49 (21 + i)) 0 ((I 49 0).toInt.toNat - (sps (I 49) x1.toInt.toNat t k).1) ((t + k) % 6) (sps (I 49) x1.toInt.toNat t k).2 + k = thr (I 49) x1.toInt.toNat 0 t := o3'
        have hlt : (sps (I 49) x1.toInt.toNat t k).1 < (I 49 0).toInt.toNat := by
          rcases Nat.lt_or_ge (sps (I 49) x1.toInt.toNat t k).1 (I 49 0).toInt.toNat with z | z
          · exact z
          · rw [show (I 49 0).toInt.toNat - (sps (I 49) x1.toInt.toNat t k).1 = 0 by omega, wv_0] at o3'; omega
        have hss := sps_s hV (h := x1.toInt.toNat) (t := t) (k := k) o1
        have hpr := spp_rg (I 49) x1.toInt.toNat t k
        have heq : 1 + pv (I 49 0).toInt.toNat (I 49 1) (I 49 (27 + 2 * x1.toInt.toNat)) (fun c => I 49 (5 + c)) (fun i => I 49 (21 + i)) 0 ((I 49 0).toInt.toNat - (sps (I 49) x1.toInt.toNat t k).1) (spp (I 49) x1.toInt.toNat t k) ((t + k) % 6) (sps (I 49) x1.toInt.toNat t k).2 = _ := bp_eq (by omega) (by omega)
        have hne : ∀ p, 1 ≤ p → p < spp (I 49) x1.toInt.toNat t k → ¬ 1 + pv (I 49 0).toInt.toNat (I 49 1) (I 49 (27 + 2 * x1.toInt.toNat)) (fun c => I 49 (5 + c)) (fun i => I 49 (21 + i)) 0 ((I 49 0).toInt.toNat - (sps (I 49) x1.toInt.toNat t k).1) p ((t + k) % 6) (sps (I 49) x1.toInt.toNat t k).2 = wv (I 49 0).toInt.toNat (I 49 1) (I 49 (27 + 2 * x1.toInt.toNat)) (fun c => I 49 (5 + c)) (fun i => I 49 (21 + i)) 0 ((I 49 0).toInt.toNat - (sps (I 49) x1.toInt.toNat t k).1) ((t + k) % 6) (sps (I 49) x1.toInt.toNat t k).2 := fun p hp h => bp_lt hp h
        have hM2 := hMd
        rw [n0_nI hV] at hM2
        have hT2 : Tb (I' 54) vm (wv (I 49 0).toInt.toNat (I 49 1) (I 49 (27 + 2 * x1.toInt.toNat)) (fun c => I 49 (5 + c)) (fun i => I 49 (21 + i)) 0) (I 49 0).toInt.toNat (I 49 1) (fun _ _ _ => True) := by rw [h54]; exact hT1
        rw [g_X12_soonest_94, hTm.2.2.1, mI_lt (by omega) (by omega)]
        refine ⟨fun h => by omega, fun _ => ?_⟩
        refine zlp 2 (fun j L I'' J'' => (∃ o4, L = [some (.ref 48), some (.int x1), some (.int (nI t)), some (.int (nI i)), o4, some (.int (nI (j + 1)))]) ∧ j < spp (I 49) x1.toInt.toNat t k ∧ I'' = I' ∧ J'' = J') ?_ ?_ _ _ _ ⟨⟨_, rfl⟩, by omega, rfl, rfl⟩
        all_goals
          have step : ∀ (r2 : ZK) (j : Nat) (o4 : Option Value), j < 3 → j < spp (I 49) x1.toInt.toNat t k → (j + 1 < spp (I 49) x1.toInt.toNat t k → r2 [some (.ref 48), some (.int x1), some (.int (nI t)), some (.int (nI i)), none, some (.int (nI (j + 1 + 1)))] [] (shp u) I' J') → bb_X12_soonest_105 u_X12_isHead u_X12_isStep u_X12_bad u_X12_layStones u_X12_kindOf u_X12_layLatest u_X12_throughIn u_X12_setOf u_X12_beginAt u_X12_byPace u_X12_latestAt u_X12_goStep (qi (shp u) q) r r2 [some (.ref 48), some (.int x1), some (.int (nI t)), some (.int (nI i)), o4, some (.int (nI (j + 1)))] [] (shp u) I' J' := by
            intro r2 j o4 hj3 hj hn2
            rw [g_X12_soonest_105, p_X12_kindOf _ _ _ k1, h49, hTm.1, hTm.2.1, hTm.2.2.1, mI_add]
            refine p_byPace hM hV.2.1 hM2 k3 (by decide) hlt (by omega) ⟨by omega, by omega⟩ hT2 (fun _ _ _ _ => trivial) _ _ ?_
            rw [hTm.1, hTm.2.1, hTm.2.2.1, mI_add]
            refine p_late_w hM hV.2.1 hM2.1 hT2 o1 (by omega) o2' (fun _ _ => trivial) _ ?_
            have hp15 := pv_le (I 49 0).toInt.toNat (I 49 1) (I 49 (27 + 2 * x1.toInt.toNat)) (fun c => I 49 (5 + c)) (fun i => I 49 (21 + i)) 0 (d := (I 49 0).toInt.toNat - (sps (I 49) x1.toInt.toNat t k).1) (by omega) (j + 1) ((t + k) % 6) (sps (I 49) x1.toInt.toNat t k).2
            have hcmp : (vm (min 100 (1 + pv (I 49 0).toInt.toNat (I 49 1) (I 49 (27 + 2 * x1.toInt.toNat)) (fun c => I 49 (5 + c)) (fun i => I 49 (21 + i)) 0 ((I 49 0).toInt.toNat - (sps (I 49) x1.toInt.toNat t k).1) (j + 1) ((t + k) % 6) (sps (I 49) x1.toInt.toNat t k).2)) = vm (wv (I 49 0).toInt.toNat (I 49 1) (I 49 (27 + 2 * x1.toInt.toNat)) (fun c => I 49 (5 + c)) (fun i => I 49 (21 + i)) 0 ((I 49 0).toInt.toNat - (sps (I 49) x1.toInt.toNat t k).1) ((t + k) % 6) (sps (I 49) x1.toInt.toNat t k).2)) = (1 + pv (I 49 0).toInt.toNat (I 49 1) (I 49 (27 + 2 * x1.toInt.toNat)) (fun c => I 49 (5 + c)) (fun i => I 49 (21 + i)) 0 ((I 49 0).toInt.toNat - (sps (I 49) x1.toInt.toNat t k).1) (j + 1) ((t + k) % 6) (sps (I 49) x1.toInt.toNat t k).2 = wv (I 49 0).toInt.toNat (I 49 1) (I 49 (27 + 2 * x1.toInt.toNat)) (fun c => I 49 (5 + c)) (fun i => I 49 (21 + i)) 0 ((I 49 0).toInt.toNat - (sps (I 49) x1.toInt.toNat t k).1) ((t + k) % 6) (sps (I 49) x1.toInt.toNat t k).2) := by
              generalize pv (I 49 0).toInt.toNat (I 49 1) (I 49 (27 + 2 * x1.toInt.toNat)) (fun c => I 49 (5 + c)) (fun i => I 49 (21 + i)) 0 ((I 49 0).toInt.toNat - (sps (I 49) x1.toInt.toNat t k).1) (j + 1) ((t + k) % 6) (sps (I 49) x1.toInt.toNat t k).2 = a at hp15 ⊢
              generalize wv (I 49 0).toInt.toNat (I 49 1) (I 49 (27 + 2 * x1.toInt.toNat)) (fun c => I 49 (5 + c)) (fun i => I 49 (21 + i)) 0 ((I 49 0).toInt.toNat - (sps (I 49) x1.toInt.toNat t k).1) ((t + k) % 6) (sps (I 49) x1.toInt.toNat t k).2 = w at o3' ⊢
              rw [i_eq, vm_i, vm_i]; apply propext
              rw [if_pos (show w < 100 by omega)]
              split <;> omega
            rw [hcmp]
            refine ⟨fun he => ?_, fun he => ?_⟩
            · have hB : spp (I 49) x1.toInt.toNat t k = j + 1 := by
                rcases Nat.lt_or_ge (j + 1) (spp (I 49) x1.toInt.toNat t k) with z | z
                · exact absurd he (hne _ (by omega) z)
                · omega
              rw [p_X12_kindOf _ _ _ k1, h49]
              refine go_m u I' J' (t := t) hMd hTm k3 (p := nI (j + 1)) (by rw [i_nI _ (by omega)]; omega) (by omega) 0 _ (fun I2 hF2 hTm2 => ?_)
              rw [← hB, hss] at hTm2
              rw [← hB]
              exact hr _ _ _ ⟨⟨_, _, rfl, fun _ => rfl⟩, hTm2, Md_fr hMd (hF2.1 49 (by decide)) (hF2.1 53 (by decide)), (hF2.1 54 (by decide)).trans h54, (hF2.1 49 (by decide)).trans h49, Fr_tr hFr (Fr_X (FX_48 hF2)), rfl⟩
            · rw [mI_one]
              apply hn2
              rcases Nat.lt_or_ge (j + 1) (spp (I 49) x1.toInt.toNat t k) with z | z
              · exact z
              · have hB : spp (I 49) x1.toInt.toNat t k = j + 1 := by omega
                rw [hB] at heq; exact absurd heq he
        · rintro j hj r2 L I2 J2 ⟨⟨o4, rfl⟩, hB, rfl, rfl⟩ hr2
          exact step r2 j o4 (by omega) hB (fun h => hr2 _ _ _ ⟨⟨_, rfl⟩, h, rfl, rfl⟩)
        · rintro r2 L I2 J2 ⟨⟨o4, rfl⟩, hB, rfl, rfl⟩
          exact step r2 2 o4 (by omega) hB (fun h => by omega)
      · rintro r L I' J' ⟨⟨o4, x, rfl, hx⟩, hTm, hMd, h54, h49, hFr, rfl⟩
        rw [g_X12_soonest_94, hTm.2.2.1, mI_lt (by omega) (by omega), hx (by omega), Nat.add_sub_cancel]
        exact ⟨fun _ => ⟨rfl, fin I' hFr⟩, fun h => absurd (by omega) h⟩
    · rw [if_neg hx, if_pos (by rw [i_le]; rw [i_lt] at hlt; omega)] at fin
      rw [g_X12_soonest_69]
      refine ⟨fun _ => ?_, fun z => absurd z hx⟩
      rw [g_X12_soonest_81]; exact ⟨rfl, fin I1 hF⟩
  · rw [if_neg hw] at fin; exact fin I1 hF
theorem o_soonest (hR : Rl u I J) (x1 x2 x3 : Int32) (Q : ZI → ZJ → Int32 → Int32 → Prop) (hQ : ∀ I' J' v, Rl u I' J' → Q I' J' v v) :
    u_X11_soonest [.ref 0, .int x1, .int x2, .int x3] (shp u) I J (fun I1 J1 v1 => u_X12_soonest [.ref 48, .int x1, .int x2, .int x3] (shp u) I1 J1 (fun I2 J2 v2 => Q I2 J2 v1 v2)) :=
  qj hR (c_soonest x1 x2 x3) (m_soonest x1 x2 x3) Q hQ
