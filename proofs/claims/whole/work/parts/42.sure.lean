/-! ===== sure, hour ===== -/
theorem vc_le {a b : Nat} (ha : a ≤ 100) (hb : b ≤ 100) : (vc a ≤ vc b) = (a ≤ b) := by
  rw [i_le, vc_i, vc_i]; apply propext
  split <;> split <;> omega
theorem vm_le {a b : Nat} (ha : a ≤ 100) (hb : b ≤ 100) : (vm a ≤ vm b) = (a ≤ b) := by
  rw [i_le, vm_i, vm_i]; apply propext
  split <;> split <;> omega
theorem vc_far (a : Nat) : (16777216 ≤ vc a) = (100 ≤ a) := by
  have e : (16777216 : Int32).toInt = 16777216 := rfl
  rw [i_le, vc_i, e]; apply propext
  split <;> omega
theorem vm_far (a : Nat) : (vm a < 1000000) = (a < 100) := by
  have e : (1000000 : Int32).toInt = 1000000 := rfl
  rw [i_lt, vm_i, e]; apply propext
  split <;> omega
theorem vc_lt {a : Nat} (h : a < 100) : vc a = nI a := if_pos h
theorem vm_lt {a : Nat} (h : a < 100) : vm a = nI a := if_pos h
/-- through how many steps a told head comes, in the world n -/
noncomputable def thr (n : Nat → Int32) (h : Nat) (b : Int32) (t : Nat) : Nat := cw (n 0).toInt.toNat (n 1) (n (27 + 2 * h)) (fun c => n (5 + c)) (fun i => n (21 + i)) b (n 0).toInt.toNat t (n (28 + 2 * h))
theorem thr_le {n : Nat → Int32} (hV : Vd n) (h : Nat) (b : Int32) (t : Nat) : thr n h b t ≤ 15 ∨ thr n h b t = 100 := by
  have := cw_le (n 0).toInt.toNat (n 1) (n (27 + 2 * h)) (fun c => n (5 + c)) (fun i => n (21 + i)) b (d := (n 0).toInt.toNat) (by have := hV.1; omega) t (n (28 + 2 * h))
  have h2 := hV.1
  unfold thr; omega
variable {u : Nat} {I : ZI} {J : ZJ}
/-- the class's table is filled for head h and bow b -/
def Tc1 (I : ZI) (n : Nat → Int32) (h : Nat) (b : Int32) : Prop := Tb (I 38) vc (wv (n 0).toInt.toNat (n 1) (n (27 + 2 * h)) (fun c => n (5 + c)) (fun i => n (21 + i)) b) (n 0).toInt.toNat (n 1) (fun _ _ _ => True)
def Tm1 (I : ZI) (n : Nat → Int32) (h : Nat) (b : Int32) : Prop := Tb (I 54) vm (wv (n 0).toInt.toNat (n 1) (n (27 + 2 * h)) (fun c => n (5 + c)) (fun i => n (21 + i)) b) (n 0).toInt.toNat (n 1) (fun _ _ _ => True)
theorem n0_nI {n : Nat → Int32} (hV : Vd n) : n 0 = nI (n 0).toInt.toNat := mI_of (by have := hV.1; omega)
theorem n0_rg {n : Nat → Int32} (hV : Vd n) : 1 ≤ (n 0).toInt.toNat ∧ (n 0).toInt.toNat ≤ 15 := by have := hV.1; omega
theorem c_fill {n : Nat → Int32} (hW : Wd 2 I n) (hV : Vd n) {h : Nat} (hk : 0 ≤ (n (27 + 2 * h)).toInt ∧ (n (27 + 2 * h)).toInt ≤ 5) (b : Int32) (q : YQv) (hq : ∀ I', F38 I I' → Tc1 I' n h b → q I' J) :
    u_X9_fillSure [.ref 37, .ref 3, .ref (42 + (n (27 + 2 * h)).toInt.toNat), .int b] (shp u) I J q := by
  have hR := Rd_of hW hV
  rw [n0_nI hV] at hR
  exact p_fill (n0_rg hV) hV.2.1 hR hk q hq
theorem c_thr {n : Nat → Int32} (hW : Wd 2 I n) (hV : Vd n) {h : Nat} {b : Int32} (hT : Tc1 I n h b) {t : Nat} (ht : t < 6) (q : YQi) (hq : q I J (vc (thr n h b t))) :
    u_X9_costFrom [.ref 37, .ref 3, .int 0, .int (nI t), .int (n (28 + 2 * h))] (shp u) I J q := by
  have w0 : I 3 0 = n 0 := hW.1
  have w1 : I 3 1 = n 1 := hW.2.1
  rw [n0_nI hV] at w0
  have := p_cost_w (u := u) (n0_rg hV) hV.2.1 w0 w1 hT (c := 0) (t := t) (x := n (28 + 2 * h)) (by omega) (by omega) (fun _ _ => trivial) q (by rw [Nat.mod_eq_of_lt ht, Nat.sub_zero]; exact hq)
  exact this
theorem m_fill (hV : Vd (I 49)) {h : Nat} (hk : 0 ≤ (I 49 (27 + 2 * h)).toInt ∧ (I 49 (27 + 2 * h)).toInt ≤ 5) {b : Int32} (hb : 0 ≤ b.toInt ∧ b.toInt ≤ 3) (h53 : ∀ c, c < 16 → I 53 c = I 49 (5 + c)) (q : YQv) (hq : ∀ I', F54 I I' → Tm1 I' (I 49) h b → q I' J) :
    u_X12_layLatest [.ref 48, .int (I 49 (27 + 2 * h)), .int b] (shp u) I J q := by
  have hR : Md I (nI (I 49 0).toInt.toNat) (I 49 1) (fun c => I 49 (5 + c)) (fun i => I 49 (21 + i)) := ⟨n0_nI hV, rfl, h53, fun _ _ => rfl, by rw [← n0_nI hV]; exact hV.1.1, by rw [← n0_nI hV]; exact hV.1.2⟩
  exact p_lay (n0_rg hV) hV.2.1 hR hk hb q hq
theorem m_thr {n : Nat → Int32} (hV : Vd n) (e49 : I 49 = n) {x : Int32} (hx : 0 ≤ x.toInt ∧ x.toInt ≤ 4) {b : Int32} (hT : Tm1 I n x.toInt.toNat b) {t : Nat} (ht : t < 6) (q : YQi) (hq : q I J (vm (thr n x.toInt.toNat b t))) :
    u_X12_throughIn [.ref 48, .int x, .int (nI t)] (shp u) I J q := by
  rw [e_X12_throughIn, p_X12_setOf _ _ _ hx, p_X12_falls, e49]
  unfold thr cw at hq
  refine ⟨fun h => ?_, fun h => ?_⟩
  · have hf := b0n h
    rw [cIf_f hf] at hq
    rw [p_X12_setOf _ _ _ hx, e49]
    refine p_late_w (c := 0) (n0_rg hV) hV.2.1 (by rw [e49]; exact n0_nI hV) hT (by omega) (by omega) hf (fun _ _ => trivial) _ ?_
    rw [g_X12_throughIn_28, Nat.mod_eq_of_lt ht, Nat.sub_zero]
    exact ⟨rfl, hq⟩
  · rw [cIf_t (b0p h)] at hq
    rw [g_X12_throughIn_28]
    exact ⟨rfl, hq⟩
theorem Fr_38 {I I1 : ZI} (h : F38 I I1) : Fr I I1 := Fr_C (fun a ha => h a (by omega))
theorem Fr_54 {I I1 : ZI} (h : F54 I I1) : Fr I I1 := Fr_X ⟨fun a _ hb => h a (by omega), fun i _ _ _ => by rw [h 48 (by decide)]⟩
theorem lay_Fr (I : ZI) : Fr I (lay I 16) := Fr_X ⟨fun a ha hb => by funext i; unfold lay; rw [if_neg (by omega)], fun i _ _ _ => by unfold lay; rw [if_neg (by omega)]⟩
theorem lay_53 (I : ZI) : ∀ c, c < 16 → lay I 16 53 c = lay I 16 49 (5 + c) := fun c hc => by unfold lay; rw [if_pos ⟨rfl, hc⟩, if_neg (by omega)]
theorem lay_49 (I : ZI) : lay I 16 49 = I 49 := by funext i; unfold lay; rw [if_neg (by omega)]
def g_sur (x1 x2 x3 : Int32) (n : Nat → Int32) : Prop := (0 ≤ x1.toInt ∧ x1.toInt ≤ (n 2 - 1).toInt) ∧ (0 ≤ x2.toInt ∧ x2.toInt ≤ 5) ∧ (0 ≤ x3.toInt ∧ x3.toInt ≤ 3)
noncomputable def a_sur (x1 x2 x3 : Int32) (n : Nat → Int32) : Int32 := if thr n x1.toInt.toNat x3 x2.toInt.toNat < 100 then nI (thr n x1.toInt.toNat x3 x2.toInt.toNat) else -1
theorem c_sure (x1 x2 x3 : Int32) (I : ZI) (q : YQi) (hW : Wd 2 I (I 49)) (hV : Vd (I 49)) (hn : ¬ g_sur x1 x2 x3 (I 49) → q (zu I 0 10 (I 0 10 + 1)) J (-2)) (hy : g_sur x1 x2 x3 (I 49) → ∀ I', Fr I I' → q I' J (a_sur x1 x2 x3 (I 49))) :
    u_X11_sure [.ref 0, .int x1, .int x2, .int x3] (shp u) I J q := by
  have w2 : I 2 2 = I 49 2 := hW.2.2.1
  have no : ¬ g_sur x1 x2 x3 (I 49) → ∀ o1 o2 o3 o4, b_X11_sure_24 u_X11_isHead u_X11_isStep u_X11_within u_X11_bad u_X10_kindOf u_X11_kind u_X9_fillSure u_X10_setOf u_X9_costFrom (qi (shp u) q) [some (.ref 0), o1, o2, o3, o4] [] (shp u) I J := by
    intro h o1 o2 o3 o4
    rw [g_X11_sure_24, p_X11_bad]
    exact ⟨rfl, hn h⟩
  rw [e_X11_sure, p_X11_isHead, w2]
  refine ⟨fun h => no (fun z => b0n h z.1) _ _ _ _, fun h1 => ?_⟩
  rw [p_X11_isStep]
  refine ⟨fun h => no (fun z => b0n h z.2.1) _ _ _ _, fun h2 => ?_⟩
  rw [p_X11_within]
  refine ⟨fun h3 => ?_, fun h => no (fun z => b0n h z.2.2) _ _ _ _⟩
  have g1 := b0p h1
  have g2 := b0p h2
  have g3 : 0 ≤ x3.toInt ∧ x3.toInt ≤ 3 := b0p h3
  obtain ⟨k1, k2, k3⟩ := hd_of hV g1
  obtain ⟨e10, e11⟩ := hdW hW k2
  have fin := hy ⟨g1, g2, g3⟩
  unfold a_sur at fin
  rw [p_X10_kindOf _ _ _ k1, e10, p_X11_kind _ _ _ k3]
  refine c_fill hW hV k3 _ _ (fun I1 hF1 hT1 => ?_)
  have hW1 := Wd_q hW (Fr_38 hF1)
  rw [p_X10_setOf _ _ _ k1, (hdW hW1 k2).2]
  have e2 : x2 = nI x2.toInt.toNat := mI_of g2.1
  have key : u_X9_costFrom [.ref 37, .ref 3, .int 0, .int (nI x2.toInt.toNat), .int (I 49 (28 + 2 * x1.toInt.toNat))] (shp u) I1 J (fun I8 J8 v8 => (((16777216 : Int32) ≤ v8 → b_X11_sure_97 u_X11_isHead u_X11_isStep u_X11_within u_X11_bad u_X10_kindOf u_X11_kind u_X9_fillSure u_X10_setOf u_X9_costFrom (qi (shp u) q) [some (.ref 0), some (.int x1), some (.int x2), some (.int x3), some (.int v8)] [.int (-1)] (shp u) I8 J8) ∧ (¬ (16777216 : Int32) ≤ v8 → b_X11_sure_97 u_X11_isHead u_X11_isStep u_X11_within u_X11_bad u_X10_kindOf u_X11_kind u_X9_fillSure u_X10_setOf u_X9_costFrom (qi (shp u) q) [some (.ref 0), some (.int x1), some (.int x2), some (.int x3), some (.int v8)] [.int v8] (shp u) I8 J8))) := by
    refine c_thr hW1 hV hT1 (by omega) _ ?_
    rw [vc_far]
    refine ⟨fun h => ?_, fun h => ?_⟩
    · rw [g_X11_sure_97]
      rw [if_neg (by omega)] at fin
      exact ⟨rfl, fin I1 (Fr_38 hF1)⟩
    · rw [g_X11_sure_97, vc_lt (by omega)]
      rw [if_pos (by omega)] at fin
      exact ⟨rfl, fin I1 (Fr_38 hF1)⟩
  rw [← e2] at key
  exact key
theorem m_sure (x1 x2 x3 : Int32) (I : ZI) (q : YQi) (hV : Vd (I 49)) (hn : ¬ g_sur x1 x2 x3 (I 49) → q (zu I 52 0 (I 52 0 + 1)) J (-2)) (hy : g_sur x1 x2 x3 (I 49) → ∀ I', Fr I I' → q I' J (a_sur x1 x2 x3 (I 49))) :
    u_X12_sure [.ref 48, .int x1, .int x2, .int x3] (shp u) I J q := by
  have no : ¬ g_sur x1 x2 x3 (I 49) → ∀ o1 o2 o3 o4, b_X12_sure_27 u_X12_isHead u_X12_isStep u_X12_in u_X12_bad u_X12_layStones u_X12_kindOf u_X12_layLatest u_X12_throughIn (qi (shp u) q) [some (.ref 48), o1, o2, o3, o4] [] (shp u) I J := by
    intro h o1 o2 o3 o4
    rw [g_X12_sure_27, p_X12_bad]
    exact ⟨rfl, hn h⟩
  rw [e_X12_sure, p_X12_isHead]
  refine ⟨fun h => no (fun z => b0n h z.1) _ _ _ _, fun h1 => ?_⟩
  rw [p_X12_isStep]
  refine ⟨fun h => no (fun z => b0n h z.2.1) _ _ _ _, fun h2 => ?_⟩
  rw [p_X12_in, ij_to]
  refine ⟨fun h3 => ?_, fun h => no (fun z => b0n h z.2.2) _ _ _ _⟩
  have g1 := b0p h1
  have g2 := b0p h2
  have g3 : 0 ≤ x3.toInt ∧ x3.toInt ≤ 3 := b0p h3
  obtain ⟨k1, k2, k3⟩ := hd_of hV g1
  have fin := hy ⟨g1, g2, g3⟩
  unfold a_sur at fin
  refine p_X12_layStones u I J _ ?_
  have l49 := lay_49 I
  have l53 := lay_53 I
  have lF := lay_Fr I
  generalize lay I 16 = I0 at l49 l53 lF ⊢
  rw [p_X12_kindOf _ _ _ k1]
  refine m_fill (by rw [l49]; exact hV) (by rw [l49]; exact k3) g3 l53 _ (fun I1 hF1 hT1 => ?_)
  rw [l49] at hT1
  have e49 : I1 49 = I 49 := by rw [hF1 49 (by decide), l49]
  have hF := Fr_tr lF (Fr_54 hF1)
  have e2 : x2 = nI x2.toInt.toNat := mI_of g2.1
  have key : u_X12_throughIn [.ref 48, .int x1, .int (nI x2.toInt.toNat)] (shp u) I1 J (fun I7 J7 v7 => ((v7 < (1000000 : Int32) → b_X12_sure_69 u_X12_isHead u_X12_isStep u_X12_in u_X12_bad u_X12_layStones u_X12_kindOf u_X12_layLatest u_X12_throughIn (qi (shp u) q) [some (.ref 48), some (.int x1), some (.int x2), some (.int x3), some (.int v7)] [.int v7] (shp u) I7 J7) ∧ (¬ v7 < (1000000 : Int32) → b_X12_sure_69 u_X12_isHead u_X12_isStep u_X12_in u_X12_bad u_X12_layStones u_X12_kindOf u_X12_layLatest u_X12_throughIn (qi (shp u) q) [some (.ref 48), some (.int x1), some (.int x2), some (.int x3), some (.int v7)] [.int (-1)] (shp u) I7 J7))) := by
    refine m_thr hV e49 k1 hT1 (by omega) _ ?_
    rw [vm_far]
    refine ⟨fun h => ?_, fun h => ?_⟩
    · rw [g_X12_sure_69, vm_lt (by omega)]
      rw [if_pos (by omega)] at fin
      exact ⟨rfl, fin I1 hF⟩
    · rw [g_X12_sure_69]
      rw [if_neg (by omega)] at fin
      exact ⟨rfl, fin I1 hF⟩
  rw [← e2] at key
  exact key
theorem o_sure (hR : Rl u I J) (x1 x2 x3 : Int32) (Q : ZI → ZJ → Int32 → Int32 → Prop) (hQ : ∀ I' J' v, Rl u I' J' → Q I' J' v v) :
    u_X11_sure [.ref 0, .int x1, .int x2, .int x3] (shp u) I J (fun I1 J1 v1 => u_X12_sure [.ref 48, .int x1, .int x2, .int x3] (shp u) I1 J1 (fun I2 J2 v2 => Q I2 J2 v1 v2)) :=
  qj hR (c_sure x1 x2 x3) (m_sure x1 x2 x3) Q hQ
noncomputable def hor (n : Nat → Int32) (h : Nat) : Nat → Int32 × Nat
  | 0 => (-1, 100)
  | t + 1 => if (hor n h t).2 ≤ thr n h 0 t then hor n h t else (nI t, thr n h 0 t)
theorem hor_le {n : Nat → Int32} (hV : Vd n) (h : Nat) : ∀ t, (hor n h t).2 ≤ 100 := by
  intro t
  induction t with
  | zero => exact Nat.le_refl _
  | succ t ih =>
    have := thr_le hV h 0 t
    by_cases hc : (hor n h t).2 ≤ thr n h 0 t
    · have e : hor n h (t + 1) = hor n h t := if_pos hc
      rw [e]; exact ih
    · have e : hor n h (t + 1) = (nI t, thr n h 0 t) := if_neg hc
      rw [e]; show thr n h 0 t ≤ 100; omega
theorem o_hour (hR : Rl u I J) (x : Int32) (Q : ZI → ZJ → Int32 → Int32 → Prop) (hQ : ∀ I' J' v, Rl u I' J' → Q I' J' v v) :
    u_X11_hour [.ref 0, .int x] (shp u) I J (fun I1 J1 v1 => u_X12_hour [.ref 48, .int x] (shp u) I1 J1 (fun I2 J2 v2 => Q I2 J2 v1 v2)) := by
  refine qj hR (gd := g_is x) (an := fun n => (hor n x.toInt.toNat 6).1) (bd := -2) (fun I q hW hV hn hy => ?_) (fun I q hV hn hy => ?_) Q hQ
  · have w2 : I 2 2 = I 49 2 := hW.2.2.1
    rw [e_X11_hour, p_X11_isHead, w2]
    refine ⟨fun h => ?_, fun h => ?_⟩
    · have g1 := b0p h
      obtain ⟨k1, k2, k3⟩ := hd_of hV g1
      obtain ⟨e10, e11⟩ := hdW hW k2
      have fin := hy g1
      rw [p_X10_kindOf _ _ _ k1, e10, p_X11_kind _ _ _ k3]
      refine c_fill hW hV k3 _ _ (fun I1 hF1 hT1 => ?_)
      have hW1 := Wd_q hW (Fr_38 hF1)
      refine zlp 6 (fun t L I' J' => (∃ o, L = [some (.ref 0), some (.int x), some (.int (vc (hor (I 49) x.toInt.toNat t).2)), some (.int (hor (I 49) x.toInt.toNat t).1), some (.int (nI t)), o]) ∧ I' = I1 ∧ J' = J) ?_ ?_ _ _ _ ⟨⟨_, rfl⟩, rfl, rfl⟩
      · rintro t ht r L I' J' ⟨⟨o, rfl⟩, rfl, rfl⟩ hr
        rw [g_X11_hour_50]
        refine ⟨fun h => absurd (show nI 6 ≤ nI t from h) (mI_ge ht (by omega)), fun _ => ?_⟩
        rw [p_X10_setOf _ _ _ k1, (hdW hW1 k2).2]
        refine c_thr hW1 hV hT1 ht _ ?_
        have h1 := hor_le hV x.toInt.toNat t
        have h2 := thr_le hV x.toInt.toNat 0 t
        rw [vc_le h1 (by omega)]
        refine ⟨fun h => ?_, fun h => ?_⟩
        · have e : hor (I 49) x.toInt.toNat (t + 1) = hor (I 49) x.toInt.toNat t := if_pos h
          rw [g_X11_hour_96, mI_one, ← e]
          exact hr _ _ _ ⟨⟨_, rfl⟩, rfl, rfl⟩
        · have e : hor (I 49) x.toInt.toNat (t + 1) = (nI t, thr (I 49) x.toInt.toNat 0 t) := if_neg h
          rw [g_X11_hour_96, mI_one]
          refine hr _ _ _ ⟨⟨none, ?_⟩, rfl, rfl⟩
          rw [e]
      · rintro r L I' J' ⟨⟨o, rfl⟩, rfl, rfl⟩
        rw [g_X11_hour_50]
        exact ⟨fun _ => ⟨rfl, fin _ (Fr_38 hF1)⟩, fun h => absurd (mI_rf 6) h⟩
    · rw [p_X11_bad]; exact ⟨rfl, hn (b0n h)⟩
  · rw [e_X12_hour, p_X12_isHead]
    refine ⟨fun h => ?_, fun h => ?_⟩
    · have g1 := b0p h
      obtain ⟨k1, k2, k3⟩ := hd_of hV g1
      have fin := hy g1
      refine p_X12_layStones u I J _ ?_
      have l49 := lay_49 I
      have l53 := lay_53 I
      have lF := lay_Fr I
      generalize lay I 16 = I0 at l49 l53 lF ⊢
      rw [p_X12_kindOf _ _ _ k1]
      refine m_fill (by rw [l49]; exact hV) (by rw [l49]; exact k3) (by decide) l53 _ (fun I1 hF1 hT1 => ?_)
      rw [l49] at hT1
      have e49 : I1 49 = I 49 := by rw [hF1 49 (by decide), l49]
      have hF := Fr_tr lF (Fr_54 hF1)
      refine zlp 6 (fun t L I' J' => (∃ o, L = [some (.ref 48), some (.int x), some (.int (hor (I 49) x.toInt.toNat t).1), some (.int (vm (hor (I 49) x.toInt.toNat t).2)), some (.int (nI t)), o]) ∧ I' = I1 ∧ J' = J) ?_ ?_ _ _ _ ⟨⟨_, rfl⟩, rfl, rfl⟩
      · rintro t ht r L I' J' ⟨⟨o, rfl⟩, rfl, rfl⟩ hr
        rw [g_X12_hour_37]
        refine ⟨fun h => absurd (show nI 6 ≤ nI t from h) (mI_ge ht (by omega)), fun _ => ?_⟩
        refine m_thr hV e49 k1 hT1 ht _ ?_
        have h1 := hor_le hV x.toInt.toNat t
        have h2 := thr_le hV x.toInt.toNat 0 t
        rw [vm_le h1 (by omega), g_X12_hour_65, g_X12_hour_65, vm_le h1 (by omega)]
        refine ⟨fun h => ⟨fun _ => ?_, fun z => absurd h z⟩, fun h => ⟨fun z => absurd z h, fun _ => ?_⟩⟩
        · have e : hor (I 49) x.toInt.toNat (t + 1) = hor (I 49) x.toInt.toNat t := if_pos h
          rw [g_X12_hour_78, mI_one, ← e]
          exact hr _ _ _ ⟨⟨_, rfl⟩, rfl, rfl⟩
        · have e : hor (I 49) x.toInt.toNat (t + 1) = (nI t, thr (I 49) x.toInt.toNat 0 t) := if_neg h
          rw [g_X12_hour_78, mI_one]
          refine hr _ _ _ ⟨⟨none, ?_⟩, rfl, rfl⟩
          rw [e]
      · rintro r L I' J' ⟨⟨o, rfl⟩, rfl, rfl⟩
        rw [g_X12_hour_37]
        exact ⟨fun _ => ⟨rfl, fin _ hF⟩, fun h => absurd (mI_rf 6) h⟩
    · rw [p_X12_bad]; exact ⟨rfl, hn (b0n h)⟩
