/-! ===== bowed ===== -/
variable {u : Nat} {I : ZI} {J : ZJ}
theorem v_many {x : Int32} (hr : vr x) (q : YQi) (hq : q I J (nI (fg x.toInt.toNat))) : u_X12_manyOf [.int x] (shp u) I J q := by
  have := p_X12_manyOf u I J (vr_lt hr) q hq
  rw [← vr_nI hr] at this; exact this
theorem v_figs {x : Int32} (hr : vr x) (q : YQi) (hq : q I J (nI (fg x.toInt.toNat))) : u_X11_figuresOf [.int x] (shp u) I J q := by
  have := p_X11_figuresOf u I J (vr_lt hr) q hq
  rw [← vr_nI hr] at this; exact this
theorem v_pacm {x : Int32} (hr : vr x) {i : Nat} (hi : i < fg x.toInt.toNat) (q : YQi) (hq : q I J (nI (pcn x.toInt.toNat i))) : u_X12_paceOf [.int x, .int (nI i)] (shp u) I J q := by
  have := p_X12_paceOf u I J (vr_lt hr) hi q hq
  rw [← vr_nI hr] at this; exact this
theorem v_pacc {x : Int32} (hr : vr x) {i : Nat} (hi : i < fg x.toInt.toNat) (q : YQi) (hq : q I J (nI (pcn x.toInt.toNat i))) : u_X11_paceOf [.int x, .int ((nI (fg x.toInt.toNat) - 1) - nI i)] (shp u) I J q := by
  have hf : fg x.toInt.toNat ≤ 9 := mny_le 9 _
  have e2 : nI (fg x.toInt.toNat) - 1 = nI (fg x.toInt.toNat - 1) := mI_sub (b := 1) (by omega)
  rw [e2, mI_sub (by omega)]
  have := p_X11_paceOf u I J (vr_lt hr) (l := fg x.toInt.toNat - 1 - i) (by omega) q
  rw [← vr_nI hr] at this
  rw [this]; exact hq
def cmn (N : Int32) (r : Nat) : Nat → Int32
  | 0 => 0
  | k + 1 => cel N (cmn N r k) (nI (pcn r k))
noncomputable def bwd (n : Nat → Int32) (kd set b cell : Int32) (t r : Nat) : Nat → Int32
  | 0 => 0
  | k + 1 => cIf (k < (rw0 n kd set t r (nI k) b).2 ∧ fcl n (rw0 n kd set t r (nI k) b) = cell) (bwd n kd set b cell t r k ||| ((1 : Int32) <<< (cmn (n 0) r (k + 1) &&& 31))) (bwd n kd set b cell t r k)
def g_bwd (x1 x2 x3 x4 x5 : Int32) (n : Nat → Int32) : Prop := (0 ≤ x1.toInt ∧ x1.toInt ≤ (n 2 - 1).toInt) ∧ (0 ≤ x2.toInt ∧ x2.toInt ≤ 5) ∧ vr x3 ∧ (-3 ≤ x4.toInt ∧ x4.toInt ≤ 3) ∧ (0 ≤ x5.toInt ∧ x5.toInt ≤ (n 0).toInt)
noncomputable def a_bwd (x1 x2 x3 x4 x5 : Int32) (n : Nat → Int32) : Int32 := bwd n (n (27 + 2 * x1.toInt.toNat)) (n (28 + 2 * x1.toInt.toNat)) x4 x5 x2.toInt.toNat x3.toInt.toNat (fg x3.toInt.toNat)
theorem rn_le {N H kd : Int32} {cb wd : Nat → Int32} {t : Nat} {pc bw : Nat → Int32} : ∀ (f k : Nat) (s : Int32 × Int32), (rn N H kd cb wd t pc bw f k s).2 ≤ k + f := by
  intro f
  induction f with
  | zero => intro k s; exact Nat.le_refl _
  | succ f ih =>
    intro k s
    by_cases h : ovr N H s
    · rw [rn_over h]; show k ≤ _; omega
    · rw [rn_step h]; have := ih (k + 1) (stp N kd cb wd (t + k) (pc k) (bw k) s); omega
theorem rw0_le (n : Nat → Int32) (kd set : Int32) (t r : Nat) (ba b : Int32) : (rw0 n kd set t r ba b).2 ≤ 9 := by
  have h1 : (rw0 n kd set t r ba b).2 ≤ 0 + fg r := rn_le _ _ _
  have h2 : fg r ≤ 9 := mny_le 9 r
  omega
theorem cmn_rg {N : Int32} (hN : 1 ≤ N.toInt ∧ N.toInt ≤ 15) (r : Nat) : ∀ k, 0 ≤ (cmn N r k).toInt ∧ (cmn N r k).toInt ≤ N.toInt := by
  intro k
  induction k with
  | zero => exact ⟨Int.le_refl 0, by show (0 : Int) ≤ _; omega⟩
  | succ k ih => have := cel_rg hN ih (pcn_rg (r := r) (i := k)); exact ⟨this.1, this.2.1⟩
theorem c_bowed (x1 x2 x3 x4 x5 : Int32) (I : ZI) (q : YQi) (hW : Wd 2 I (I 49)) (hV : Vd (I 49)) (hn : ¬ g_bwd x1 x2 x3 x4 x5 (I 49) → q (zu I 0 10 (I 0 10 + 1)) J (-2)) (hy : g_bwd x1 x2 x3 x4 x5 (I 49) → ∀ I', Fr I I' → q I' J (a_bwd x1 x2 x3 x4 x5 (I 49))) :
    u_X11_bowed [.ref 0, .int x1, .int x2, .int x3, .int x4, .int x5] (shp u) I J q := by
  have w2 : I 2 2 = I 49 2 := hW.2.2.1
  have w0 : I 3 0 = I 49 0 := hW.1
  have no : ¬ g_bwd x1 x2 x3 x4 x5 (I 49) → ∀ o1 o2 o3 o4 o5 o6 o7 o8 o9 o10, b_X11_bowed_22 u_X11_isHead u_X11_isStep u_X11_isRow u_X11_bad u_X11_within u_X11_isCell u_X11_figuresOf u_X11_paceOf u_X5_cellBehind u_X10_kindOf u_X11_tryRow u_X8_fellIn (qi (shp u) q) [some (.ref 0), o1, o2, o3, o4, o5, o6, o7, o8, o9, o10] [] (shp u) I J := by
    intro h o1 o2 o3 o4 o5 o6 o7 o8 o9 o10
    rw [g_X11_bowed_22, p_X11_bad]
    exact ⟨rfl, hn h⟩
  have no2 : ¬ g_bwd x1 x2 x3 x4 x5 (I 49) → ∀ o1 o2 o3 o4 o5 o6 o7 o8 o9 o10, b_X11_bowed_49 u_X11_isHead u_X11_isStep u_X11_isRow u_X11_bad u_X11_within u_X11_isCell u_X11_figuresOf u_X11_paceOf u_X5_cellBehind u_X10_kindOf u_X11_tryRow u_X8_fellIn (qi (shp u) q) [some (.ref 0), o1, o2, o3, o4, o5, o6, o7, o8, o9, o10] [] (shp u) I J := by
    intro h o1 o2 o3 o4 o5 o6 o7 o8 o9 o10
    rw [g_X11_bowed_49, p_X11_bad]
    exact ⟨rfl, hn h⟩
  rw [e_X11_bowed, p_X11_isHead, w2]
  refine ⟨fun h => no (fun z => b0n h z.1) _ _ _ _ _ _ _ _ _ _, fun h1 => ?_⟩
  rw [p_X11_isStep]
  refine ⟨fun h => no (fun z => b0n h z.2.1) _ _ _ _ _ _ _ _ _ _, fun h2 => ?_⟩
  refine p_X11_isRow _ _ _ _ _ ?_
  refine ⟨fun h3 => ?_, fun h => no (fun z => b0n h z.2.2.1) _ _ _ _ _ _ _ _ _ _⟩
  rw [p_X11_within]
  refine ⟨fun h => no2 (fun z => b0n h z.2.2.2.1) _ _ _ _ _ _ _ _ _ _, fun h4 => ?_⟩
  rw [p_X11_isCell, w0]
  refine ⟨fun h5 => ?_, fun h => no2 (fun z => b0n h z.2.2.2.2) _ _ _ _ _ _ _ _ _ _⟩
  have g1 := b0p h1
  have g2 := b0p h2
  have g3 := b0p h3
  have g4 := b0p h4
  have g5 := b0p h5
  obtain ⟨k1, k2, k3⟩ := hd_of hV g1
  have e10 := (hdW hW k2).1
  refine v_figs g3 _ ?_
  have hf : fg x3.toInt.toNat ≤ 9 := mny_le 9 _
  have fin := hy ⟨g1, g2, g3, g4, g5⟩
  unfold a_bwd at fin
  generalize hkd : I 49 (27 + 2 * x1.toInt.toNat) = kd at e10 k3 fin
  generalize hset : I 49 (28 + 2 * x1.toInt.toNat) = set at fin
  refine zlp (fg x3.toInt.toNat) (fun k L I' J' => (∃ o, L = [some (.ref 0), some (.int x1), some (.int x2), some (.int x3), some (.int x4), some (.int x5), some (.int (nI (fg x3.toInt.toNat))), some (.int (bwd (I 49) kd set x4 x5 x2.toInt.toNat x3.toInt.toNat k)), some (.int (cmn (I 49 0) x3.toInt.toNat k)), some (.int (nI k)), o]) ∧ F33 I I' ∧ J' = J) ?_ ?_ _ _ _ ⟨⟨_, rfl⟩, fun _ _ => rfl, rfl⟩
  · rintro k hk r L I' J' ⟨⟨o, rfl⟩, hF, rfl⟩ hr
    rw [g_X11_bowed_71]
    refine ⟨fun h => absurd h (mI_ge hk (by omega)), fun _ => ?_⟩
    refine v_pacc g3 hk _ ?_
    rw [p_X5_cellBehind, hF 3 (by decide), w0, p_X10_kindOf _ _ _ k1, hF 10 (by decide), e10]
    refine c_row (Wd_q hW (Fr_33 hF)) hV k3 g1 g2 g3 _ _ _ (fun I3 s kk hF3 hrr hT => ?_)
    rw [hset] at hrr
    have hF4 : F33 I I3 := fun a ha => by rw [hF3 a ha, hF a ha]
    have hkk : kk ≤ 9 := by have := rw0_le (I 49) kd set x2.toInt.toNat x3.toInt.toNat (nI k) x4; rw [hrr] at this; exact this
    have es : I3 33 2 - x2 = nI kk := by
      rw [hT.2.2.1]
      have e2 : x2 = nI x2.toInt.toNat := mI_of g2.1
      have e3 : nI (x2.toInt.toNat + kk) - nI x2.toInt.toNat = nI kk := by rw [mI_sub (by omega)]; congr 1; omega
      rw [← e2] at e3; exact e3
    rw [es, mI_le (by omega) (by omega)]
    have e31 : I3 3 1 = I 49 1 := by rw [hF4 3 (by decide)]; exact hW.2.1
    have next : ∀ (v : Int32) (oo : Option Value), v = bwd (I 49) kd set x4 x5 x2.toInt.toNat x3.toInt.toNat (k + 1) → b_X11_bowed_176 u_X11_isHead u_X11_isStep u_X11_isRow u_X11_bad u_X11_within u_X11_isCell u_X11_figuresOf u_X11_paceOf u_X5_cellBehind u_X10_kindOf u_X11_tryRow u_X8_fellIn (qi (shp u) q) r [some (.ref 0), some (.int x1), some (.int x2), some (.int x3), some (.int x4), some (.int x5), some (.int (nI (fg x3.toInt.toNat))), some (.int v), some (.int (cel (I 49 0) (cmn (I 49 0) x3.toInt.toNat k) (nI (pcn x3.toInt.toNat k)))), some (.int (nI k)), oo] [] (shp u) I3 J' := by
      intro v oo hv
      rw [g_X11_bowed_176, mI_one, hv]
      exact hr _ _ _ ⟨⟨none, rfl⟩, hF4, rfl⟩
    have st : bwd (I 49) kd set x4 x5 x2.toInt.toNat x3.toInt.toNat (k + 1) = cIf (k < kk ∧ fcl (I 49) (s, kk) = x5) (bwd (I 49) kd set x4 x5 x2.toInt.toNat x3.toInt.toNat k ||| ((1 : Int32) <<< (cmn (I 49 0) x3.toInt.toNat (k + 1) &&& 31))) (bwd (I 49) kd set x4 x5 x2.toInt.toNat x3.toInt.toNat k) := by
      show cIf _ _ _ = _
      rw [hrr]
    refine ⟨fun h => ?_, fun h => ?_⟩
    · rw [g_X11_bowed_141]
      refine ⟨fun _ => next _ _ ?_, fun z => absurd rfl z⟩
      rw [st, cIf_f (fun z => by omega)]
    · rw [g_X11_bowed_141]
      refine ⟨fun z => absurd z (by decide), fun _ => ?_⟩
      have key : ∀ v : Int32, v = fcl (I 49) (s, kk) → ((¬ v = x5 → b_X11_bowed_176 u_X11_isHead u_X11_isStep u_X11_isRow u_X11_bad u_X11_within u_X11_isCell u_X11_figuresOf u_X11_paceOf u_X5_cellBehind u_X10_kindOf u_X11_tryRow u_X8_fellIn (qi (shp u) q) r [some (.ref 0), some (.int x1), some (.int x2), some (.int x3), some (.int x4), some (.int x5), some (.int (nI (fg x3.toInt.toNat))), some (.int (bwd (I 49) kd set x4 x5 x2.toInt.toNat x3.toInt.toNat k)), some (.int (cel (I 49 0) (cmn (I 49 0) x3.toInt.toNat k) (nI (pcn x3.toInt.toNat k)))), some (.int (nI k)), some (.int 1)] [] (shp u) I3 J') ∧ (v = x5 → b_X11_bowed_176 u_X11_isHead u_X11_isStep u_X11_isRow u_X11_bad u_X11_within u_X11_isCell u_X11_figuresOf u_X11_paceOf u_X5_cellBehind u_X10_kindOf u_X11_tryRow u_X8_fellIn (qi (shp u) q) r [some (.ref 0), some (.int x1), some (.int x2), some (.int x3), some (.int x4), some (.int x5), some (.int (nI (fg x3.toInt.toNat))), some (.int (bwd (I 49) kd set x4 x5 x2.toInt.toNat x3.toInt.toNat k ||| ((1 : Int32) <<< (cel (I 49 0) (cmn (I 49 0) x3.toInt.toNat k) (nI (pcn x3.toInt.toNat k)) &&& 31)))), some (.int (cel (I 49 0) (cmn (I 49 0) x3.toInt.toNat k) (nI (pcn x3.toInt.toNat k)))), some (.int (nI k)), some (.int 1)] [] (shp u) I3 J')) := by
        intro v hv
        refine ⟨fun z => next _ _ ?_, fun z => next _ _ ?_⟩
        · rw [st, cIf_f (fun y => z (hv.trans y.2))]
        · rw [st, cIf_t ⟨by omega, hv.symm.trans z⟩]; rfl
      refine p_X8_fellIn u I3 J' _ (fun hf => ?_) (fun hf => ?_)
      · rw [e31, hT.2.1] at hf
        exact key _ (by unfold fcl; rw [cIf_t hf, hT.1])
      · rw [e31, hT.2.1] at hf
        exact key _ (by unfold fcl; rw [cIf_f hf])
  · rintro r L I' J' ⟨⟨o, rfl⟩, hF, rfl⟩
    rw [g_X11_bowed_71]
    exact ⟨fun _ => ⟨rfl, fin I' (Fr_33 hF)⟩, fun h => absurd (mI_rf _) h⟩
theorem m_bowed (x1 x2 x3 x4 x5 : Int32) (I : ZI) (q : YQi) (hV : Vd (I 49)) (hn : ¬ g_bwd x1 x2 x3 x4 x5 (I 49) → q (zu I 52 0 (I 52 0 + 1)) J (-2)) (hy : g_bwd x1 x2 x3 x4 x5 (I 49) → ∀ I', Fr I I' → q I' J (a_bwd x1 x2 x3 x4 x5 (I 49))) :
    u_X12_bowed [.ref 48, .int x1, .int x2, .int x3, .int x4, .int x5] (shp u) I J q := by
  have no : ¬ g_bwd x1 x2 x3 x4 x5 (I 49) → ∀ o1 o2 o3 o4 o5 o6 o7 o8 o9 o10, b_X12_bowed_46 u_X12_isHead u_X12_isStep u_X12_isRow u_X12_in u_X12_isCell u_X12_bad u_X12_manyOf u_X12_kindOf u_X12_setOf u_X12_goRow u_X12_fellIn u_X12_paceOf u_X12_cellBy (qi (shp u) q) [some (.ref 48), o1, o2, o3, o4, o5, o6, o7, o8, o9, o10] [] (shp u) I J := by
    intro h o1 o2 o3 o4 o5 o6 o7 o8 o9 o10
    rw [g_X12_bowed_46, p_X12_bad]
    exact ⟨rfl, hn h⟩
  rw [e_X12_bowed, p_X12_isHead]
  refine ⟨fun h => no (fun z => b0n h z.1) _ _ _ _ _ _ _ _ _ _, fun h1 => ?_⟩
  rw [p_X12_isStep]
  refine ⟨fun h => no (fun z => b0n h z.2.1) _ _ _ _ _ _ _ _ _ _, fun h2 => ?_⟩
  refine p_X12_isRow _ _ _ _ _ ?_
  refine ⟨fun h => no (fun z => b0n h z.2.2.1) _ _ _ _ _ _ _ _ _ _, fun h3 => ?_⟩
  rw [p_X12_in, ij_to]
  refine ⟨fun h => no (fun z => b0n h z.2.2.2.1) _ _ _ _ _ _ _ _ _ _, fun h4 => ?_⟩
  rw [p_X12_isCell]
  refine ⟨fun h5 => ?_, fun h => no (fun z => b0n h z.2.2.2.2) _ _ _ _ _ _ _ _ _ _⟩
  have g1 := b0p h1
  have g2 := b0p h2
  have g3 := b0p h3
  have g4 := b0p h4
  have g5 := b0p h5
  obtain ⟨k1, k2, k3⟩ := hd_of hV g1
  have hf : fg x3.toInt.toNat ≤ 9 := mny_le 9 _
  have fin := hy ⟨g1, g2, g3, g4, g5⟩
  unfold a_bwd at fin
  generalize hkd : I 49 (27 + 2 * x1.toInt.toNat) = kd at k3 fin
  generalize hset : I 49 (28 + 2 * x1.toInt.toNat) = set at fin
  refine zlp (fg x3.toInt.toNat) (fun k L I' J' => (∃ o8 o9 o10, L = [some (.ref 48), some (.int x1), some (.int x2), some (.int x3), some (.int x4), some (.int x5), some (.int (bwd (I 49) kd set x4 x5 x2.toInt.toNat x3.toInt.toNat k)), some (.int (nI k)), o8, o9, o10]) ∧ FM I I' ∧ J' = J) ?_ ?_ _ _ _ ⟨⟨_, _, _, rfl⟩, ⟨fun _ _ _ => rfl, fun _ _ _ _ => rfl⟩, rfl⟩
  · rintro k hk r L I' J' ⟨⟨o8, o9, o10, rfl⟩, hF, rfl⟩ hr
    have e49 : I' 49 = I 49 := hF.1 49 (by decide) (by decide)
    rw [g_X12_bowed_59]
    refine v_many g3 _ ?_
    refine ⟨fun h => absurd h (mI_ge hk (by omega)), fun _ => ?_⟩
    rw [p_X12_kindOf _ _ _ k1, p_X12_setOf _ _ _ k1, e49, hkd, hset]
    refine m_row (by rw [e49]; exact hV) k3 g2 g3 _ _ _ (fun I3 s kk hF3 hM hrr hT => ?_)
    rw [e49] at hrr hM hT
    have hF4 : FM I I3 := ⟨fun a a1 a2 => by rw [hF3.1 a a1 a2, hF.1 a a1 a2], fun a a1 a2 a3 => by rw [hF3.2 a a1 a2 a3, hF.2 a a1 a2 a3]⟩
    have e49' : I3 49 = I 49 := hF4.1 49 (by decide) (by decide)
    have hkk : kk ≤ 9 := by have := rw0_le (I 49) kd set x2.toInt.toNat x3.toInt.toNat (nI k) x4; rw [hrr] at this; exact this
    rw [hT.2.2.1, mI_le (by omega) (by omega)]
    have st : bwd (I 49) kd set x4 x5 x2.toInt.toNat x3.toInt.toNat (k + 1) = cIf (k < kk ∧ fcl (I 49) (s, kk) = x5) (bwd (I 49) kd set x4 x5 x2.toInt.toNat x3.toInt.toNat k ||| ((1 : Int32) <<< (cmn (I 49 0) x3.toInt.toNat (k + 1) &&& 31))) (bwd (I 49) kd set x4 x5 x2.toInt.toNat x3.toInt.toNat k) := by
      show cIf _ _ _ = _
      rw [hrr]
    have next : ∀ (p : Prop) (o8 o9 o10 : Option Value), (p ↔ k < kk ∧ fcl (I 49) (s, kk) = x5) → b_X12_bowed_111 u_X12_isHead u_X12_isStep u_X12_isRow u_X12_in u_X12_isCell u_X12_bad u_X12_manyOf u_X12_kindOf u_X12_setOf u_X12_goRow u_X12_fellIn u_X12_paceOf u_X12_cellBy (qi (shp u) q) r [some (.ref 48), some (.int x1), some (.int x2), some (.int x3), some (.int x4), some (.int x5), some (.int (bwd (I 49) kd set x4 x5 x2.toInt.toNat x3.toInt.toNat k)), some (.int (nI k)), o8, o9, o10] [.int (bI p)] (shp u) I3 J' := by
      intro p o8 o9 o10 hp
      rw [g_X12_bowed_111]
      refine zlp (k + 1) (fun j L I' J'' => L = [some (.ref 48), some (.int x1), some (.int x2), some (.int x3), some (.int x4), some (.int x5), some (.int (bwd (I 49) kd set x4 x5 x2.toInt.toNat x3.toInt.toNat k)), some (.int (nI k)), some (.int (bI p)), some (.int (cmn (I 49 0) x3.toInt.toNat j)), some (.int (nI j))] ∧ I' = I3 ∧ J'' = J') ?_ ?_ _ _ _ ⟨rfl, rfl, rfl⟩
      · rintro j hj r2 L I' J'' ⟨rfl, rfl, rfl⟩ hr2
        rw [g_X12_bowed_119, mI_lt (by omega) (by omega)]
        refine ⟨fun h => absurd h (by omega), fun _ => ?_⟩
        refine v_pacm g3 (by omega) _ ?_
        rw [p_X12_cellBy, e49', mI_one]
        exact hr2 _ _ _ ⟨rfl, rfl, rfl⟩
      · rintro r2 L I' J'' ⟨rfl, rfl, rfl⟩
        rw [g_X12_bowed_119, mI_lt (by omega) (by omega)]
        refine ⟨fun _ => ⟨fun z => ?_, fun z => ?_⟩, fun h => absurd (by omega) h⟩
        · rw [g_X12_bowed_161, mI_one, Int32.or_zero]
          refine hr _ _ _ ⟨⟨none, none, none, ?_⟩, hF4, rfl⟩
          rw [st, cIf_f (fun y => b0n z (hp.2 y))]
        · rw [g_X12_bowed_161, mI_one]
          refine hr _ _ _ ⟨⟨none, none, none, ?_⟩, hF4, rfl⟩
          rw [st, cIf_t (hp.1 (b0p z))]
    have n0 : ∀ (o8 o9 o10 : Option Value), ¬ (k < kk ∧ fcl (I 49) (s, kk) = x5) → b_X12_bowed_110 u_X12_isHead u_X12_isStep u_X12_isRow u_X12_in u_X12_isCell u_X12_bad u_X12_manyOf u_X12_kindOf u_X12_setOf u_X12_goRow u_X12_fellIn u_X12_paceOf u_X12_cellBy (qi (shp u) q) r [some (.ref 48), some (.int x1), some (.int x2), some (.int x3), some (.int x4), some (.int x5), some (.int (bwd (I 49) kd set x4 x5 x2.toInt.toNat x3.toInt.toNat k)), some (.int (nI k)), o8, o9, o10] [] (shp u) I3 J' := by
      intro o8 o9 o10 hno
      rw [g_X12_bowed_110, ← bI_f (p := False) (fun z => z)]
      exact next False _ _ _ ⟨fun z => z.elim, fun z => hno z⟩
    refine ⟨fun h => n0 _ _ _ (fun z => by omega), fun h => ?_⟩
    have key : ∀ v : Int32, v = fcl (I 49) (s, kk) → ((¬ v = x5 → b_X12_bowed_110 u_X12_isHead u_X12_isStep u_X12_isRow u_X12_in u_X12_isCell u_X12_bad u_X12_manyOf u_X12_kindOf u_X12_setOf u_X12_goRow u_X12_fellIn u_X12_paceOf u_X12_cellBy (qi (shp u) q) r [some (.ref 48), some (.int x1), some (.int x2), some (.int x3), some (.int x4), some (.int x5), some (.int (bwd (I 49) kd set x4 x5 x2.toInt.toNat x3.toInt.toNat k)), some (.int (nI k)), none, none, none] [] (shp u) I3 J') ∧ (v = x5 → b_X12_bowed_111 u_X12_isHead u_X12_isStep u_X12_isRow u_X12_in u_X12_isCell u_X12_bad u_X12_manyOf u_X12_kindOf u_X12_setOf u_X12_goRow u_X12_fellIn u_X12_paceOf u_X12_cellBy (qi (shp u) q) r [some (.ref 48), some (.int x1), some (.int x2), some (.int x3), some (.int x4), some (.int x5), some (.int (bwd (I 49) kd set x4 x5 x2.toInt.toNat x3.toInt.toNat k)), some (.int (nI k)), none, none, none] [.int 1] (shp u) I3 J')) := by
      intro v hv
      refine ⟨fun z => n0 _ _ _ (fun y => z (hv.trans y.2)), fun z => ?_⟩
      rw [← bI_t (p := True) trivial]
      exact next True _ _ _ ⟨fun _ => ⟨by omega, hv.symm.trans z⟩, fun _ => trivial⟩
    refine p_X12_fellIn u I3 J' _ (fun hf => ?_) (fun hf => ?_)
    · rw [e49', hT.2.1] at hf
      exact key _ (by unfold fcl; rw [cIf_t hf, hT.1])
    · rw [e49', hT.2.1] at hf
      exact key _ (by unfold fcl; rw [cIf_f hf])
  · rintro r L I' J' ⟨⟨o8, o9, o10, rfl⟩, hF, rfl⟩
    rw [g_X12_bowed_59]
    refine v_many g3 _ ?_
    exact ⟨fun _ => ⟨rfl, fin I' (Fr_M hF)⟩, fun h => absurd (mI_rf _) h⟩
theorem o_bowed (hR : Rl u I J) (x1 x2 x3 x4 x5 : Int32) (Q : ZI → ZJ → Int32 → Int32 → Prop) (hQ : ∀ I' J' v, Rl u I' J' → Q I' J' v v) :
    u_X11_bowed [.ref 0, .int x1, .int x2, .int x3, .int x4, .int x5] (shp u) I J (fun I1 J1 v1 => u_X12_bowed [.ref 48, .int x1, .int x2, .int x3, .int x4, .int x5] (shp u) I1 J1 (fun I2 J2 v2 => Q I2 J2 v1 v2)) :=
  qj hR (c_bowed x1 x2 x3 x4 x5) (m_bowed x1 x2 x3 x4 x5) Q hQ
