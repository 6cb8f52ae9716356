/-! ===== bowl, of the reference ===== -/
variable {u : Nat} {I : ZI} {J : ZJ}
/-- the reference's trial by one pace, to its end -/
theorem m_bowl (x : Int32) (I : ZI) (q : YQi) (hV : Vd (I 49)) (hn : ¬ g_is x (I 49) → q (zu I 52 0 (I 52 0 + 1)) J (-2)) (hy : g_is x (I 49) → ∀ I', Fr I I' → q I' J (a_bwl x (I 49))) :
    u_X12_bowl [.ref 48, .int x] (shp u) I J q := by
  rw [e_X12_bowl, p_X12_isHead]
  refine ⟨fun h => ?_, fun h => by rw [p_X12_bad]; exact ⟨rfl, hn (b0n h)⟩⟩
  have g1 := b0p h
  have fin := hy g1
  unfold a_bwl at fin
  obtain ⟨h1, h2, h3⟩ := hd_of hV g1
  refine p_X12_kindsOf hV g1 _ (fun I1 hF1 => ?_)
  have hm := kmask_lt (fun kd => ∀ k : Nat, (k : Int) < (I 49 3).toInt → fit (I 49) x kd k)
  generalize kmask (fun kd => ∀ k : Nat, (k : Int) < (I 49 3).toInt → fit (I 49) x kd k) = m at hm fin ⊢
  have em : (nI m ≤ 0) = (m ≤ 0) := mI_le (a := m) (b := 0) (by omega) (by omega)
  generalize hset : I 49 (28 + 2 * x.toInt.toNat) = set at fin
  by_cases hm0 : m = 0
  · rw [if_pos hm0] at fin
    refine zlp 0 (fun j L I' J' => L = [some (.ref 48), some (.int x), some (.int (nI m)), some (.int (-1)), some (.int 1000000), some (.int 1), none, none] ∧ I' = I1 ∧ J' = J) ?_ ?_ _ _ _ ⟨rfl, rfl, rfl⟩
    · intro j hj; omega
    · rintro r L I' J' ⟨rfl, rfl, rfl⟩
      rw [g_X12_bowl_30, em]
      refine ⟨fun z => absurd z (by decide), fun _ => ⟨fun _ => ?_, fun z => absurd (by omega) z⟩⟩
      rw [g_X12_bowl_201]
      exact ⟨rfl, fin _ (Fr_M hF1)⟩
  · rw [if_neg hm0] at fin
    refine zlp 3 (fun j L I' J' => (∃ o6 o7, L = [some (.ref 48), some (.int x), some (.int (nI m)), some (.int (bwl (I 49) set m 1000000 j).1), some (.int (bwl (I 49) set m 1000000 j).2), some (.int (nI (j + 1))), o6, o7]) ∧ FX I I' ∧ J' = J) ?_ ?_ _ _ _ ⟨⟨none, none, rfl⟩, FX_M hF1, rfl⟩
    · rintro j hj r L I' J' ⟨⟨o6, o7, rfl⟩, hF, rfl⟩ hr
      rw [g_X12_bowl_30, em]
      refine ⟨fun h => absurd (show nI 4 ≤ nI (j + 1) from h) (mI_ge (by omega) (by omega)), fun _ => ⟨fun z => absurd z (by omega), fun _ => ?_⟩⟩
      have hp : 1 ≤ (nI (j + 1)).toInt ∧ (nI (j + 1)).toInt ≤ 3 := by rw [i_nI _ (by omega)]; omega
      generalize hB : bwl (I 49) set m 1000000 j = B at hr ⊢
      generalize hP : nI (j + 1) = p at hp hr ⊢
      refine zlp 16 (fun k L I' J'' => L = [some (.ref 48), some (.int x), some (.int (nI m)), some (.int B.1), some (.int B.2), some (.int p), some (.int 0), some (.int (nI k))] ∧ (∀ i, i < k → I' 55 i = 0) ∧ FX I I' ∧ J'' = J') ?_ ?_ _ _ _ ⟨rfl, fun i hi => absurd hi (by omega), hF, rfl⟩
      · rintro k hk r2 L I2 J'' ⟨rfl, hz, hF, rfl⟩ hr2
        rw [g_X12_bowl_46]
        refine ⟨fun h => absurd (show nI 16 ≤ nI k from h) (mI_ge hk (by omega)), fun _ => ⟨mI_in (by omega) (by omega), ?_⟩⟩
        rw [mI_nat (by omega), mI_one]
        refine hr2 _ _ _ ⟨rfl, fun i hi => ?_, FX_tr hF ⟨fun a a1 a2 => zu_ne _ _ _ (by omega), fun i _ _ _ => by rw [zu_rd, if_neg (by decide)]⟩, rfl⟩
        rw [zu_rd, if_pos rfl]
        by_cases h : i = k
        · rw [if_pos h]
        · rw [if_neg h]; exact hz i (by omega)
      · rintro r2 L I2 J'' ⟨rfl, hz, hF, rfl⟩
        rw [g_X12_bowl_46]
        refine ⟨fun _ => ?_, fun h => absurd (mI_rf 16) h⟩
        refine zlp 6 (fun k L I' J3 => L = [some (.ref 48), some (.int x), some (.int (nI m)), some (.int B.1), some (.int B.2), some (.int p), some (.int (bst (I 49) set p m k).2), some (.int (nI k))] ∧ (∀ i, i < 16 → I' 55 i = (bst (I 49) set p m k).1 i) ∧ FX I I' ∧ J3 = J'') ?_ ?_ _ _ _ ⟨rfl, hz, hF, rfl⟩
        · rintro k hk r3 L I3 J3 ⟨rfl, hz, hF, rfl⟩ hr3
          have e49 : I3 49 = I 49 := hF.1 49 (by decide) (by decide)
          rw [g_X12_bowl_70]
          refine ⟨fun h => absurd (show nI 6 ≤ nI k from h) (mI_ge hk (by omega)), fun _ => ⟨fun h => ?_, fun h => ?_⟩⟩
          · have hb : ¬ m.testBit k = true := fun z => h ((bit_m ⟨m, hm⟩ ⟨k, hk⟩).2 z)
            have st : bst (I 49) set p m (k + 1) = bst (I 49) set p m k := bst_f hb
            rw [g_X12_bowl_159, mI_one, ← st]
            exact hr3 _ _ _ ⟨rfl, by rw [st]; exact hz, hF, rfl⟩
          · have hb : m.testBit k = true := (bit_m ⟨m, hm⟩ ⟨k, hk⟩).1 h
            rw [p_X12_setOf _ _ _ h1, e49, hset]
            refine p_X12_beginAt u I3 J3 (Mw_of (I := I3) (by rw [e49]; exact hV)) _ (fun I4 hF4 hM4 hT4 => ?_)
            rw [e49] at hM4 hT4
            have st := bst_t (n := I 49) (set := set) (p := p) hb
            have hrg := eop_rg hV (nI k) set hp
            have hN := hV.1
            have hdef : eop (I 49) (nI k) set p = (rn (I 49 0) (I 49 1) (nI k) (fun c => I 49 (5 + c)) (fun i => I 49 (21 + i)) 0 (fun _ => p) (fun _ => 0) 15 0 (0, set)).1.1 := rfl
            generalize eop (I 49) (nI k) set p = E at st hrg hdef
            have hz4 : ∀ i, i < 16 → I4 55 i = (bst (I 49) set p m k).1 i := fun i hi => by rw [hF4.1 55 (by decide) (by decide)]; exact hz i hi
            refine zlp 15 (fun i L I' J4 => (∃ s, L = [some (.ref 48), some (.int x), some (.int (nI m)), some (.int B.1), some (.int B.2), some (.int p), some (.int (bst (I 49) set p m k).2), some (.int (nI k))] ∧ Tm I' (I 49 0) s i ∧ Md I' (I 49 0) (I 49 1) (fun c => I 49 (5 + c)) (fun i => I 49 (21 + i)) ∧ (i : Int) ≤ s.1.toInt ∧ rn (I 49 0) (I 49 1) (nI k) (fun c => I 49 (5 + c)) (fun i => I 49 (21 + i)) 0 (fun _ => p) (fun _ => 0) 15 0 (0, set) = rn (I 49 0) (I 49 1) (nI k) (fun c => I 49 (5 + c)) (fun i => I 49 (21 + i)) 0 (fun _ => p) (fun _ => 0) (15 - i) i s) ∧ (∀ i, i < 16 → I' 55 i = (bst (I 49) set p m k).1 i) ∧ FX I I' ∧ J4 = J3) ?_ ?_ _ _ _ ⟨⟨_, rfl, hT4, hM4, Int.le_refl 0, rfl⟩, hz4, FX_tr hF (FX_M hF4), rfl⟩
            all_goals
              have stop : ∀ (r4 : ZK) (I5 : ZI) (s : Int32 × Int32) (i : Nat), Tm I5 (I 49 0) s i → Md I5 (I 49 0) (I 49 1) (fun c => I 49 (5 + c)) (fun i => I 49 (21 + i)) → ovr (I 49 0) (I 49 1) s → rn (I 49 0) (I 49 1) (nI k) (fun c => I 49 (5 + c)) (fun i => I 49 (21 + i)) 0 (fun _ => p) (fun _ => 0) 15 0 (0, set) = rn (I 49 0) (I 49 1) (nI k) (fun c => I 49 (5 + c)) (fun i => I 49 (21 + i)) 0 (fun _ => p) (fun _ => 0) (15 - i) i s → (∀ i, i < 16 → I5 55 i = (bst (I 49) set p m k).1 i) → FX I I5 → (vp_in (I5 48 7) 16 ∧ (vp_in (I5 48 7) 16 ∧ (vp_in (I5 48 7) 16 ∧ ((((zu I5 55 ((I5 48 7)).toNatClampNeg ((I5 55 ((I5 48 7)).toNatClampNeg) + 1)) 55 ((I5 48 7)).toNatClampNeg) ≤ (bst (I 49) set p m k).2 → b_X12_bowl_157 u_X12_isHead u_X12_bad u_X12_kindsOf u_X12_setOf u_X12_beginAt u_X12_isOver u_X12_goStep (qi (shp u) q) r r3 [some (.ref 48), some (.int x), some (.int (nI m)), some (.int B.1), some (.int B.2), some (.int p), some (.int (bst (I 49) set p m k).2), some (.int (nI k))] [.int (bst (I 49) set p m k).2] (shp u) (zu I5 55 ((I5 48 7)).toNatClampNeg ((I5 55 ((I5 48 7)).toNatClampNeg) + 1)) J3) ∧ (¬ ((zu I5 55 ((I5 48 7)).toNatClampNeg ((I5 55 ((I5 48 7)).toNatClampNeg) + 1)) 55 ((I5 48 7)).toNatClampNeg) ≤ (bst (I 49) set p m k).2 → (vp_in (I5 48 7) 16 ∧ b_X12_bowl_157 u_X12_isHead u_X12_bad u_X12_kindsOf u_X12_setOf u_X12_beginAt u_X12_isOver u_X12_goStep (qi (shp u) q) r r3 [some (.ref 48), some (.int x), some (.int (nI m)), some (.int B.1), some (.int B.2), some (.int p), some (.int (bst (I 49) set p m k).2), some (.int (nI k))] [.int ((zu I5 55 ((I5 48 7)).toNatClampNeg ((I5 55 ((I5 48 7)).toNatClampNeg) + 1)) 55 ((I5 48 7)).toNatClampNeg)] (shp u) (zu I5 55 ((I5 48 7)).toNatClampNeg ((I5 55 ((I5 48 7)).toNatClampNeg) + 1)) J3)))))) := by
                intro r4 I5 s i hT hM hov hrn hz5 hF5
                have eE : I5 48 7 = E := by rw [hT.1, hdef, hrn, rn_over hov]
                rw [eE, i_nat, zu_rd, if_pos rfl, if_pos rfl, hz5 _ (by omega), g_X12_bowl_157, g_X12_bowl_157, g_X12_bowl_159, g_X12_bowl_159, mI_one]
                have hv : vp_in E 16 := by rw [i_vp]; omega
                have fz : ∀ i, i < 16 → zu I5 55 E.toInt.toNat ((bst (I 49) set p m k).1 E.toInt.toNat + 1) 55 i = (bst (I 49) set p m (k + 1)).1 i := fun i hi => by
                  rw [st, zu_rd, if_pos rfl]
                  show _ = if i = E.toInt.toNat then _ else _
                  by_cases hie : i = E.toInt.toNat
                  · rw [if_pos hie, if_pos hie]
                  · rw [if_neg hie, if_neg hie]; exact hz5 i hi
                have ff : FX I (zu I5 55 E.toInt.toNat ((bst (I 49) set p m k).1 E.toInt.toNat + 1)) := FX_tr hF5 ⟨fun a a1 a2 => zu_ne _ _ _ (by omega), fun i _ _ _ => by rw [zu_rd, if_neg (by decide)]⟩
                refine ⟨hv, hv, hv, fun z => ?_, fun z => ⟨hv, ?_⟩⟩
                · have s2 : (bst (I 49) set p m (k + 1)).2 = (bst (I 49) set p m k).2 := by
                    rw [st]; exact if_neg (by rw [i_lt]; rw [i_le] at z; omega)
                  rw [← s2]
                  exact hr3 _ _ _ ⟨rfl, fz, ff, rfl⟩
                · have s2 : (bst (I 49) set p m (k + 1)).2 = (bst (I 49) set p m k).1 E.toInt.toNat + 1 := by
                    rw [st]; exact if_pos (by rw [i_lt]; rw [i_le] at z; omega)
                  refine hr3 _ _ _ ⟨?_, fz, ff, rfl⟩
                  rw [s2]
            · rintro i hi r4 L I5 J4 ⟨⟨s, rfl, hT, hM, hc, hrn⟩, hz5, hF5, rfl⟩ hr4
              rw [g_X12_bowl_96, ov_m u I5 J4 hM hT]
              refine ⟨fun h => stop r4 I5 s i hT hM (b0p h) hrn hz5 hF5, fun h => ?_⟩
              refine go_m u I5 J4 (t := 0) hM hT (kd_rg hk) (by omega) (by omega) 0 _ (fun I6 hF6 hT6 => ?_)
              rw [Nat.zero_add] at hT6
              refine hr4 _ _ _ ⟨⟨_, rfl, hT6, Md_fr hM (hF6.1 49 (by decide)) (hF6.1 53 (by decide)), stp_adv hN ⟨hT.2.2.2.1, hT.2.2.2.2⟩ (by omega) (b0n h) hc, ?_⟩, fun i hi => by rw [hF6.1 55 (by decide)]; exact hz5 i hi, FX_tr hF5 (FX_48 hF6), rfl⟩
              have h9 : 15 - i = (15 - (i + 1)) + 1 := by omega
              rw [hrn, h9, rn_step (b0n h), Nat.zero_add]
            · rintro r4 L I5 J4 ⟨⟨s, rfl, hT, hM, hc, hrn⟩, hz5, hF5, rfl⟩
              rw [g_X12_bowl_96, ov_m u I5 J4 hM hT]
              exact ⟨fun h => stop r4 I5 s 15 hT hM (b0p h) hrn hz5 hF5, fun h => absurd (ovr_15 hN hc) (b0n h)⟩
        · rintro r3 L I3 J3 ⟨rfl, hz, hF, rfl⟩
          rw [g_X12_bowl_70]
          refine ⟨fun _ => ⟨fun z => ?_, fun z => ?_⟩, fun h => absurd (mI_rf 6) h⟩
          · have st : bwl (I 49) set m 1000000 (j + 1) = B := by rw [← hB]; exact if_neg (by rw [hB, hP, i_lt]; rw [i_le] at z; omega)
            rw [g_X12_bowl_178]
            refine ⟨fun _ => ?_, fun y => absurd z y⟩
            rw [g_X12_bowl_193, ← hP, mI_one]
            refine hr _ _ _ ⟨⟨none, none, ?_⟩, hF, rfl⟩
            rw [st]
          · have st : bwl (I 49) set m 1000000 (j + 1) = (p, (bst (I 49) set p m 6).2) := by rw [← hP]; exact if_pos (by rw [hB, hP, i_lt]; rw [i_le] at z; omega)
            rw [g_X12_bowl_178]
            refine ⟨fun y => absurd y z, fun _ => ?_⟩
            rw [g_X12_bowl_193]
            have e1 : p + 1 = nI (j + 1 + 1) := by rw [← hP, mI_one]
            rw [e1]
            refine hr _ _ _ ⟨⟨none, none, ?_⟩, hF, rfl⟩
            rw [st]
    · rintro r L I' J' ⟨⟨o6, o7, rfl⟩, hF, rfl⟩
      rw [g_X12_bowl_30]
      refine ⟨fun _ => ?_, fun h => absurd (show nI 4 ≤ nI (3 + 1) by decide) h⟩
      rw [g_X12_bowl_201, ← bwl_eq]
      exact ⟨rfl, fin I' (Fr_X hF)⟩
theorem o_bowl (hR : Rl u I J) (x : Int32) (Q : ZI → ZJ → Int32 → Int32 → Prop) (hQ : ∀ I' J' v, Rl u I' J' → Q I' J' v v) :
    u_X11_bowl [.ref 0, .int x] (shp u) I J (fun I1 J1 v1 => u_X12_bowl [.ref 48, .int x] (shp u) I1 J1 (fun I2 J2 v2 => Q I2 J2 v1 v2)) :=
  qj hR (c_bowl x) (m_bowl x) Q hQ
