/-! ===== the kinds that fit ===== -/
noncomputable def fcl (n : Nat → Int32) (x : (Int32 × Int32) × Nat) : Int32 := cIf (fel (n 1) x.1.2) x.1.1 (-1)
/-- note k speaks of head h and kind kd does not fit it, or it fits -/
def fit (n : Nat → Int32) (h : Int32) (kd k : Nat) : Prop := n (42 + 4 * k) = h → fcl n (rw0 n (nI kd) (n (28 + 2 * h.toInt.toNat)) (n (43 + 4 * k)).toInt.toNat (n (44 + 4 * k)).toInt.toNat (-1) 0) = n (45 + 4 * k)
noncomputable def kmask (p : Nat → Prop) : Nat := cIf (p 0) 1 0 + cIf (p 1) 2 0 + cIf (p 2) 4 0 + cIf (p 3) 8 0 + cIf (p 4) 16 0 + cIf (p 5) 32 0
theorem kmask_d : ∀ m : Fin 64, m.val = (if m.val.testBit 0 = true then 1 else 0) + (if m.val.testBit 1 = true then 2 else 0) + (if m.val.testBit 2 = true then 4 else 0) + (if m.val.testBit 3 = true then 8 else 0) + (if m.val.testBit 4 = true then 16 else 0) + (if m.val.testBit 5 = true then 32 else 0) := by decide +kernel
theorem cIf_i {p : Prop} {b : Bool} (h : b = true ↔ p) (x y : Nat) : cIf p x y = if b = true then x else y := by
  by_cases hp : p
  · rw [cIf_t hp, if_pos (h.2 hp)]
  · rw [cIf_f hp, if_neg (fun z => hp (h.1 z))]
theorem kmask_e {p : Nat → Prop} {m : Nat} (hm : m < 64) (h : ∀ k, k < 6 → (m.testBit k = true ↔ p k)) : m = kmask p := by
  have := kmask_d ⟨m, hm⟩
  unfold kmask
  rw [cIf_i (h 0 (by omega)), cIf_i (h 1 (by omega)), cIf_i (h 2 (by omega)), cIf_i (h 3 (by omega)), cIf_i (h 4 (by omega)), cIf_i (h 5 (by omega))]
  exact this
theorem msk_off : ∀ m : Fin 64, ∀ k : Fin 6, nI m.val &&& (((1 : Int32) <<< (nI k.val &&& 31)) ^^^ (-1)) = nI (m.val &&& (63 ^^^ 2 ^ k.val)) := by decide +kernel
theorem msk_on : ∀ m : Fin 64, ∀ k : Fin 6, nI m.val ||| ((1 : Int32) <<< (nI k.val &&& 31)) = nI (m.val ||| 2 ^ k.val) := by decide +kernel
theorem msk_o0 : ∀ m : Fin 64, nI m.val ||| (0 : Int32) = nI m.val := by decide +kernel
theorem bit_off : ∀ m : Fin 64, ∀ k : Fin 6, (m.val &&& (63 ^^^ 2 ^ k.val)) < 64 ∧ ∀ j : Fin 6, ((m.val &&& (63 ^^^ 2 ^ k.val)).testBit j.val = true ↔ m.val.testBit j.val = true ∧ j.val ≠ k.val) := by decide +kernel
theorem bit_on : ∀ m : Fin 64, ∀ k : Fin 6, (m.val ||| 2 ^ k.val) < 64 ∧ ∀ j : Fin 6, ((m.val ||| 2 ^ k.val).testBit j.val = true ↔ m.val.testBit j.val = true ∨ j.val = k.val) := by decide +kernel
theorem bit_63 : ∀ j : Fin 6, (63 : Nat).testBit j.val = true := by decide +kernel
theorem kd_rg {k : Nat} (h : k < 6) : 0 ≤ (nI k).toInt ∧ (nI k).toInt ≤ 5 := by rw [i_nI _ (by omega)]; omega
variable {u : Nat} {I : ZI} {J : ZJ}
theorem p_X11_kinds {n : Nat → Int32} (hW : Wd 2 I n) (hV : Vd n) {x : Int32} (hh : 0 ≤ x.toInt ∧ x.toInt ≤ (n 2 - 1).toInt) (q : YQi) (hq : ∀ I', F33 I I' → q I' J (nI (kmask (fun kd => ∀ k : Nat, (k : Int) < (n 3).toInt → fit n x kd k)))) :
    u_X11_kindsThatFit [.ref 0, .int x] (shp u) I J q := by
  obtain ⟨v0, v1, v2, v3, v4, v5, v6, v7, v8, v9, v10, v11⟩ := id hV
  rw [e_X11_kindsThatFit]
  have w25 : I 2 5 = n 3 := hW.2.2.2.1
  obtain ⟨nn, hnn, hn6⟩ : ∃ m : Nat, n 3 = nI m ∧ m ≤ 6 := ⟨_, mI_of v3.1, by omega⟩
  have tn : (n 3).toInt = nn := by rw [hnn, i_nI _ (by omega)]
  refine zlp nn (fun i L I' J' => (∃ m o, L = [some (.ref 0), some (.int x), some (.int (nI m)), some (.int (nI i)), o] ∧ m < 64 ∧ ∀ kd, kd < 6 → (m.testBit kd = true ↔ ∀ k, k < i → fit n x kd k)) ∧ F33 I I' ∧ J' = J) ?_ ?_ _ _ _ ⟨⟨63, none, rfl, by decide, fun kd hk => ⟨fun _ k h => absurd h (by omega), fun _ => bit_63 ⟨kd, hk⟩⟩⟩, fun _ _ => rfl, rfl⟩
  · rintro i hi r L I' J' ⟨⟨m, o, rfl, hm, hb⟩, hF, rfl⟩ hr
    rw [g_X11_kindsThatFit_5, hF 2 (by decide), w25, hnn]
    refine ⟨fun h => absurd h (mI_ge hi (by omega)), fun _ => ⟨fun h => absurd (show nI 6 ≤ nI i from h) (mI_ge (by omega) (by omega)), fun _ => ?_⟩⟩
    obtain ⟨n1, n2, n3, n4⟩ := ntW hW (k := i) (by omega)
    obtain ⟨y1, y2⟩ := v11 i (by omega)
    refine zlp 6 (fun k L I'' J'' => (∃ m, L = [some (.ref 0), some (.int x), some (.int (nI m)), some (.int (nI i)), some (.int (nI k))] ∧ m < 64 ∧ ∀ kd, kd < 6 → (m.testBit kd = true ↔ (∀ k, k < i → fit n x kd k) ∧ (kd < k → fit n x kd i))) ∧ F33 I I'' ∧ J'' = J') ?_ ?_ _ _ _ ⟨⟨m, rfl, hm, fun kd hk => ⟨fun h => ⟨(hb kd hk).1 h, fun h => absurd h (by omega)⟩, fun h => (hb kd hk).2 h.1⟩⟩, hF, rfl⟩
    · rintro k hk r2 L I'' J'' ⟨⟨m, rfl, hm, hb⟩, hF, rfl⟩ hr2
      rw [g_X11_kindsThatFit_25]
      refine ⟨fun h => absurd (show nI 6 ≤ nI k from h) (mI_ge hk (by omega)), fun _ => ⟨mI_in (by omega) (by omega), fun h => ?_, fun h => ?_⟩⟩
      · rw [g_X11_kindsThatFit_113, mI_one]
        refine hr _ _ _ ⟨⟨m, none, rfl, hm, fun kd hkd => ?_⟩, hF, rfl⟩
        have hf : fit n x kd i := fun z => absurd (by rw [hF 12 (by decide), mI_nat (by omega), n1]; exact z) h
        rw [hb kd hkd]
        refine ⟨fun z k2 h2 => ?_, fun z => ⟨fun k2 h2 => z k2 (by omega), fun _ => hf⟩⟩
        rcases Nat.lt_or_ge k2 i with y | y
        · exact z.1 k2 y
        · have : k2 = i := by omega
          subst this; exact hf
      · rw [hF 12 (by decide), mI_nat (by omega), n1] at h
        refine ⟨mI_in (by omega) (by omega), mI_in (by omega) (by omega), ?_⟩
        rw [hF 13 (by decide), hF 14 (by decide), mI_nat (by omega), n2, n3]
        have hW2 : Wd 2 I'' n := Wd_q hW (Fr_33 hF)
        refine c_row hW2 hV (kd_rg hk) hh y1 y2 _ _ _ (fun I3 s k3 hF3 hrr hT => ?_)
        have hF4 : F33 I I3 := fun a ha => by rw [hF3 a ha, hF a ha]
        have e31 : I3 3 1 = n 1 := by rw [hF4 3 (by decide)]; exact hW.2.1
        have e15 : I3 15 i = n (45 + 4 * i) := by rw [hF4 15 (by decide), n4]
        have key : ∀ v : Int32, v = fcl n (s, k3) → (vp_in (nI i) 6 ∧ ((v = (I3 15 i) → b_X11_kindsThatFit_107 u_X11_tryRow u_X8_fellIn (qi (shp u) q) r r2 [some (.ref 0), some (.int x), some (.int (nI m)), some (.int (nI i)), some (.int (nI k))] [] (shp u) I3 J'') ∧ (¬ v = (I3 15 i) → b_X11_kindsThatFit_107 u_X11_tryRow u_X8_fellIn (qi (shp u) q) r r2 [some (.ref 0), some (.int x), some (.int ((nI m) &&& (((1 : Int32) <<< (nI k &&& 31)) ^^^ (-1)))), some (.int (nI i)), some (.int (nI k))] [] (shp u) I3 J''))) := by
          intro v hv
          refine ⟨mI_in (by omega) (by omega), fun hc => ?_, fun hc => ?_⟩
          · rw [g_X11_kindsThatFit_107, mI_one]
            refine hr2 _ _ _ ⟨⟨m, rfl, hm, fun kd hkd => ?_⟩, hF4, rfl⟩
            rw [hb kd hkd]
            refine ⟨fun z => ⟨z.1, fun h2 => ?_⟩, fun z => ⟨z.1, fun h2 => z.2 (by omega)⟩⟩
            rcases Nat.lt_or_ge kd k with y | y
            · exact z.2 y
            · have : kd = k := by omega
              subst this
              intro _
              rw [hrr, ← hv, hc, e15]
          · rw [g_X11_kindsThatFit_107, mI_one, msk_off ⟨m, hm⟩ ⟨k, hk⟩]
            obtain ⟨b1, b2⟩ := bit_off ⟨m, hm⟩ ⟨k, hk⟩
            refine hr2 _ _ _ ⟨⟨_, rfl, b1, fun kd hkd => ?_⟩, hF4, rfl⟩
            rw [b2 ⟨kd, hkd⟩]
            show m.testBit kd = true ∧ kd ≠ k ↔ _
            rw [hb kd hkd]
            refine ⟨fun z => ⟨z.1.1, fun h2 => z.1.2 (by omega)⟩, fun z => ⟨⟨z.1, fun h2 => z.2 (by omega)⟩, fun h2 => ?_⟩⟩
            subst h2
            have := z.2 (by omega) h
            rw [hrr, ← hv] at this
            exact hc (by rw [e15]; exact this)
        refine p_X8_fellIn u I3 J'' _ (fun hf => ?_) (fun hf => ?_)
        · rw [e31, hT.2.1] at hf
          exact key _ (by unfold fcl; rw [cIf_t hf, hT.1])
        · rw [e31, hT.2.1] at hf
          exact key _ (by unfold fcl; rw [cIf_f hf])
    · rintro r2 L I'' J'' ⟨⟨m, rfl, hm, hb⟩, hF, rfl⟩
      rw [g_X11_kindsThatFit_25]
      refine ⟨fun _ => ?_, fun h => absurd (mI_rf 6) h⟩
      rw [g_X11_kindsThatFit_113, mI_one]
      refine hr _ _ _ ⟨⟨m, none, rfl, hm, fun kd hkd => ?_⟩, hF, rfl⟩
      rw [hb kd hkd]
      refine ⟨fun z k2 h2 => ?_, fun z => ⟨fun k2 h2 => z k2 (by omega), fun _ => z i (by omega)⟩⟩
      rcases Nat.lt_or_ge k2 i with y | y
      · exact z.1 k2 y
      · have : k2 = i := by omega
        subst this; exact z.2 hkd
  · rintro r L I' J' ⟨⟨m, o, rfl, hm, hb⟩, hF, rfl⟩
    rw [g_X11_kindsThatFit_5, hF 2 (by decide), w25, hnn]
    refine ⟨fun _ => ?_, fun h => absurd (mI_rf nn) h⟩
    rw [g_X11_kindsThatFit_119]
    refine ⟨rfl, ?_⟩
    have := kmask_e (p := fun kd => ∀ k : Nat, (k : Int) < (n 3).toInt → fit n x kd k) hm (fun kd hkd => by
      rw [hb kd hkd]; exact ⟨fun z k h => z k (by omega), fun z k h => z k (by omega)⟩)
    rw [this]
    exact hq I' hF
theorem p_X12_canBe (hV : Vd (I 49)) {x : Int32} {kd : Nat} (hkd : kd < 6) (hh : 0 ≤ x.toInt ∧ x.toInt ≤ (I 49 2 - 1).toInt) (q : YQi) (hq : ∀ I', FM I I' → q I' J (bI (∀ k : Nat, (k : Int) < (I 49 3).toInt → fit (I 49) x kd k))) :
    u_X12_canBe [.ref 48, .int x, .int (nI kd)] (shp u) I J q := by
  obtain ⟨v0, v1, v2, v3, v4, v5, v6, v7, v8, v9, v10, v11⟩ := id hV
  obtain ⟨h1, h2, h3⟩ := hd_of hV hh
  rw [e_X12_canBe]
  obtain ⟨nn, hnn, hn6⟩ : ∃ m : Nat, I 49 3 = nI m ∧ m ≤ 6 := ⟨_, mI_of v3.1, by omega⟩
  have tn : (I 49 3).toInt = nn := by rw [hnn, i_nI _ (by omega)]
  have b1 : (1 : Int32) = bI (∀ k : Nat, k < 0 → fit (I 49) x kd k) := (bI_t (fun k h => absurd h (by omega))).symm
  refine zlp nn (fun i L I' J' => (∃ o, L = [some (.ref 48), some (.int x), some (.int (nI kd)), some (.int (bI (∀ k : Nat, k < i → fit (I 49) x kd k))), some (.int (nI i)), o]) ∧ FM I I' ∧ J' = J) ?_ ?_ _ _ _ ⟨⟨none, by rw [← b1]; rfl⟩, ⟨fun _ _ _ => rfl, fun _ _ _ _ => rfl⟩, rfl⟩
  · rintro i hi r L I' J' ⟨⟨o, rfl⟩, hF, rfl⟩ hr
    have e49 : I' 49 = I 49 := hF.1 49 (by decide) (by decide)
    rw [g_X12_canBe_5, e49, hnn]
    have y0 : (42 : Int32) + ((4 : Int32) * nI i) = nI (42 + 4 * i) := by
      have a1 : (4 : Int32) * nI i = nI (4 * i) := mI_mul 4 i
      have a2 : (42 : Int32) + nI (4 * i) = nI (42 + 4 * i) := mI_add 42 (4 * i)
      rw [a1, a2]
    have y1 : nI (42 + 4 * i) + 1 = nI (43 + 4 * i) := (mI_add _ 1).trans (congrArg nI (by omega))
    have y2 : nI (42 + 4 * i) + 2 = nI (44 + 4 * i) := (mI_add _ 2).trans (congrArg nI (by omega))
    have y3 : nI (42 + 4 * i) + 3 = nI (45 + 4 * i) := (mI_add _ 3).trans (congrArg nI (by omega))
    have next : ∀ (I2 : ZI) (p : Prop) (o : Option Value), FM I I2 → (p ↔ ∀ k : Nat, k < i + 1 → fit (I 49) x kd k) → b_X12_canBe_92 u_X12_setOf u_X12_goRow u_X12_fellIn (qi (shp u) q) r [some (.ref 48), some (.int x), some (.int (nI kd)), some (.int (bI p)), some (.int (nI i)), o] [] (shp u) I2 J' := by
      intro I2 p o hF2 hp
      rw [g_X12_canBe_92, mI_one, propext hp]
      exact hr _ _ _ ⟨⟨none, rfl⟩, hF2, rfl⟩
    have all : ∀ p : Prop, (p ↔ fit (I 49) x kd i) → (((∀ k : Nat, k < i → fit (I 49) x kd k) ∧ p) ↔ ∀ k : Nat, k < i + 1 → fit (I 49) x kd k) := by
      intro p hp
      refine ⟨fun z k hk => ?_, fun z => ⟨fun k hk => z k (by omega), hp.2 (z i (by omega))⟩⟩
      rcases Nat.lt_or_ge k i with y | y
      · exact z.1 k y
      · have : k = i := by omega
        subst this; exact hp.1 z.2
    refine ⟨fun h => absurd h (mI_ge hi (by omega)), fun _ => ?_⟩
    rw [y0, y1, y2, y3, mI_nat (by omega), mI_nat (by omega), mI_nat (by omega), mI_nat (by omega)]
    refine ⟨mI_in (by omega) (by omega), fun h => ?_, fun h => ?_⟩
    · refine next I' _ _ hF ?_
      refine ⟨fun z => (all True ⟨fun _ y => absurd y h, fun _ => trivial⟩).1 ⟨z, trivial⟩, fun z k hk => z k (by omega)⟩
    · rw [p_X12_setOf _ _ _ h1, e49]
      refine ⟨mI_in (by omega) (by omega), mI_in (by omega) (by omega), ?_⟩
      obtain ⟨z1, z2⟩ := v11 i (by omega)
      have hV' : Vd (I' 49) := by rw [e49]; exact hV
      refine m_row hV' (kd_rg hkd) z1 z2 _ _ _ (fun I3 s k3 hF3 hM hrr hT => ?_)
      rw [e49] at hrr hM hT
      have hF4 : FM I I3 := ⟨fun a a1 a2 => by rw [hF3.1 a a1 a2, hF.1 a a1 a2], fun a a1 a2 a3 => by rw [hF3.2 a a1 a2 a3, hF.2 a a1 a2 a3]⟩
      have e49' : I3 49 = I 49 := hF4.1 49 (by decide) (by decide)
      have fe : fit (I 49) x kd i ↔ fcl (I 49) (s, k3) = I 49 (45 + 4 * i) := by
        unfold fit
        rw [hrr]
        exact ⟨fun z => z h, fun z _ => z⟩
      have f0 : ∀ (oo : Option Value), ¬ (∀ k : Nat, k < i + 1 → fit (I 49) x kd k) → b_X12_canBe_90 u_X12_setOf u_X12_goRow u_X12_fellIn (qi (shp u) q) r [some (.ref 48), some (.int x), some (.int (nI kd)), some (.int (bI (∀ k : Nat, k < i → fit (I 49) x kd k))), some (.int (nI i)), oo] [] (shp u) I3 J' := by
        intro oo hno
        rw [g_X12_canBe_90, g_X12_canBe_91, ← bI_f (p := False) (fun z => z)]
        exact next I3 False _ hF4 ⟨fun z => z.elim, fun z => hno z⟩
      refine ⟨fun hz => f0 _ (fun z => b0n hz (fun k hk => z k (by omega))), fun hz => ?_⟩
      have hall := b0p hz
      have key : ∀ v : Int32, v = fcl (I 49) (s, k3) → (vp_in (nI (45 + 4 * i)) 98 ∧ ((¬ v = I3 49 (45 + 4 * i) → b_X12_canBe_90 u_X12_setOf u_X12_goRow u_X12_fellIn (qi (shp u) q) r [some (.ref 48), some (.int x), some (.int (nI kd)), some (.int (bI (∀ k : Nat, k < i → fit (I 49) x kd k))), some (.int (nI i)), some (.int (nI (42 + 4 * i)))] [] (shp u) I3 J') ∧ (v = I3 49 (45 + 4 * i) → b_X12_canBe_91 u_X12_setOf u_X12_goRow u_X12_fellIn (qi (shp u) q) r [some (.ref 48), some (.int x), some (.int (nI kd)), some (.int (bI (∀ k : Nat, k < i → fit (I 49) x kd k))), some (.int (nI i)), some (.int (nI (42 + 4 * i)))] [.int 1] (shp u) I3 J'))) := by
        intro v hv
        rw [e49']
        refine ⟨mI_in (by omega) (by omega), fun hc => ?_, fun hc => ?_⟩
        · exact f0 _ (fun z => hc (by rw [hv]; exact fe.1 (z i (by omega))))
        · rw [g_X12_canBe_91, ← bI_t (p := True) trivial]
          refine next I3 True _ hF4 ⟨fun _ => (all _ Iff.rfl).1 ⟨hall, fe.2 (by rw [← hv]; exact hc)⟩, fun _ => trivial⟩
      refine p_X12_fellIn u I3 J' _ (fun hf => ?_) (fun hf => ?_)
      · rw [e49', hT.2.1] at hf
        exact key _ (by unfold fcl; rw [cIf_t hf, hT.1])
      · rw [e49', hT.2.1] at hf
        exact key _ (by unfold fcl; rw [cIf_f hf])
  · rintro r L I' J' ⟨⟨o, rfl⟩, hF, rfl⟩
    have e49 : I' 49 = I 49 := hF.1 49 (by decide) (by decide)
    rw [g_X12_canBe_5, e49, hnn]
    refine ⟨fun _ => ⟨?_, rfl, ?_⟩, fun h => absurd (mI_rf nn) h⟩
    · rw [bI_01]; trivial
    · have e : (∀ k : Nat, k < nn → fit (I 49) x kd k) = (∀ k : Nat, (k : Int) < (I 49 3).toInt → fit (I 49) x kd k) := by
        rw [tn]; exact propext ⟨fun z k h => z k (by omega), fun z k h => z k (by omega)⟩
      rw [e]; exact hq I' hF
theorem p_X12_kindsOf (hV : Vd (I 49)) {x : Int32} (hh : 0 ≤ x.toInt ∧ x.toInt ≤ (I 49 2 - 1).toInt) (q : YQi) (hq : ∀ I', FM I I' → q I' J (nI (kmask (fun kd => ∀ k : Nat, (k : Int) < (I 49 3).toInt → fit (I 49) x kd k)))) :
    u_X12_kindsOf [.ref 48, .int x] (shp u) I J q := by
  rw [e_X12_kindsOf]
  refine zlp 6 (fun i L I' J' => (∃ m, L = [some (.ref 48), some (.int x), some (.int (nI m)), some (.int (nI i))] ∧ m < 64 ∧ ∀ kd, kd < 6 → (m.testBit kd = true ↔ kd < i ∧ ∀ k : Nat, (k : Int) < (I 49 3).toInt → fit (I 49) x kd k)) ∧ FM I I' ∧ J' = J) ?_ ?_ _ _ _ ⟨⟨0, rfl, by decide, fun kd _ => by rw [Nat.zero_testBit]; exact ⟨fun z => absurd z (by decide), fun z => absurd z.1 (by omega)⟩⟩, ⟨fun _ _ _ => rfl, fun _ _ _ _ => rfl⟩, rfl⟩
  · rintro i hi r L I' J' ⟨⟨m, rfl, hm, hb⟩, hF, rfl⟩ hr
    have e49 : I' 49 = I 49 := hF.1 49 (by decide) (by decide)
    rw [g_X12_kindsOf_4]
    refine ⟨fun h => absurd (show nI 6 ≤ nI i from h) (mI_ge hi (by omega)), fun _ => ?_⟩
    refine p_X12_canBe (by rw [e49]; exact hV) hi (by rw [e49]; exact hh) _ (fun I3 hF3 => ?_)
    rw [e49]
    have hF4 : FM I I3 := ⟨fun a a1 a2 => by rw [hF3.1 a a1 a2, hF.1 a a1 a2], fun a a1 a2 a3 => by rw [hF3.2 a a1 a2 a3, hF.2 a a1 a2 a3]⟩
    refine ⟨fun hz => ?_, fun hz => ?_⟩
    · have hno := b0n hz
      rw [g_X12_kindsOf_27, mI_one, msk_o0 ⟨m, hm⟩]
      refine hr _ _ _ ⟨⟨m, rfl, hm, fun kd hkd => ?_⟩, hF4, rfl⟩
      rw [hb kd hkd]
      refine ⟨fun z => ⟨by omega, z.2⟩, fun z => ⟨?_, z.2⟩⟩
      rcases Nat.lt_or_ge kd i with y | y
      · exact y
      · have : kd = i := by omega
        subst this; exact absurd z.2 hno
    · have hyes := b0p hz
      rw [g_X12_kindsOf_27, mI_one, msk_on ⟨m, hm⟩ ⟨i, hi⟩]
      obtain ⟨b1, b2⟩ := bit_on ⟨m, hm⟩ ⟨i, hi⟩
      refine hr _ _ _ ⟨⟨_, rfl, b1, fun kd hkd => ?_⟩, hF4, rfl⟩
      rw [b2 ⟨kd, hkd⟩]
      show m.testBit kd = true ∨ kd = i ↔ _
      rw [hb kd hkd]
      refine ⟨fun z => ?_, fun z => ?_⟩
      · rcases z with z | z
        · exact ⟨by omega, z.2⟩
        · subst z; exact ⟨by omega, hyes⟩
      · rcases Nat.lt_or_ge kd i with y | y
        · exact Or.inl ⟨y, z.2⟩
        · exact Or.inr (by omega)
  · rintro r L I' J' ⟨⟨m, rfl, hm, hb⟩, hF, rfl⟩
    rw [g_X12_kindsOf_4]
    refine ⟨fun _ => ⟨rfl, ?_⟩, fun h => absurd (mI_rf 6) h⟩
    rw [kmask_e (p := fun kd => ∀ k : Nat, (k : Int) < (I 49 3).toInt → fit (I 49) x kd k) hm (fun kd hkd => by rw [hb kd hkd]; exact ⟨fun z => z.2, fun z => ⟨hkd, z⟩⟩)]
    exact hq I' hF
noncomputable def a_is (x : Int32) (n : Nat → Int32) : Int32 := nI (kmask (fun kd => ∀ k : Nat, (k : Int) < (n 3).toInt → fit n x kd k))
def g_is (x : Int32) (n : Nat → Int32) : Prop := 0 ≤ x.toInt ∧ x.toInt ≤ (n 2 - 1).toInt
theorem o_is (hR : Rl u I J) (x : Int32) (Q : ZI → ZJ → Int32 → Int32 → Prop) (hQ : ∀ I' J' v, Rl u I' J' → Q I' J' v v) :
    u_X11_is [.ref 0, .int x] (shp u) I J (fun I1 J1 v1 => u_X12_is [.ref 48, .int x] (shp u) I1 J1 (fun I2 J2 v2 => Q I2 J2 v1 v2)) := by
  refine qj hR (gd := g_is x) (an := a_is x) (bd := -2) (fun I q hW hV hn hy => ?_) (fun I q hV hn hy => ?_) Q hQ
  · have w2 : I 2 2 = I 49 2 := hW.2.2.1
    rw [e_X11_is, p_X11_isHead, w2]
    refine ⟨fun h => ?_, fun h => ?_⟩
    · rw [p_X11_bad, g_X11_is_22]; exact ⟨rfl, hn (b0n h)⟩
    · refine p_X11_kinds hW hV (b0p h) _ (fun I' hF => ?_)
      rw [g_X11_is_22]; exact ⟨rfl, hy (b0p h) I' (Fr_33 hF)⟩
  · rw [e_X12_is, p_X12_isHead]
    refine ⟨fun h => ?_, fun h => ?_⟩
    · rw [p_X12_bad, g_X12_is_22]; exact ⟨rfl, hn (b0n h)⟩
    · refine p_X12_kindsOf hV (b0p h) _ (fun I' hF => ?_)
      rw [g_X12_is_22]; exact ⟨rfl, hy (b0p h) I' (Fr_M hF)⟩
