/-! ===== soonest ===== -/
noncomputable def bp (M : Nat) (H kd : Int32) (cb wd : Nat → Int32) (d t : Nat) (l : Int32) : Nat :=
  if 1 + pv M H kd cb wd 0 d 1 t l = wv M H kd cb wd 0 d t l then 1 else if 1 + pv M H kd cb wd 0 d 2 t l = wv M H kd cb wd 0 d t l then 2 else 3
theorem bp_rg (M : Nat) (H kd : Int32) (cb wd : Nat → Int32) (d t : Nat) (l : Int32) : 1 ≤ bp M H kd cb wd d t l ∧ bp M H kd cb wd d t l ≤ 3 := by
  unfold bp
  split
  · omega
  · split <;> omega
theorem bp_eq {M : Nat} {H kd : Int32} {cb wd : Nat → Int32} {d t : Nat} {l : Int32} (hd : d ≠ 0) (hw : wv M H kd cb wd 0 d t l < 100) : 1 + pv M H kd cb wd 0 d (bp M H kd cb wd d t l) t l = wv M H kd cb wd 0 d t l := by
  have h := wv_s (M := M) (H := H) (kd := kd) (cb := cb) (wd := wd) (b := 0) (t := t) (l := l) hd
  unfold bp
  by_cases h1 : 1 + pv M H kd cb wd 0 d 1 t l = wv M H kd cb wd 0 d t l
  · rw [if_pos h1]; exact h1
  · rw [if_neg h1]
    by_cases h2 : 1 + pv M H kd cb wd 0 d 2 t l = wv M H kd cb wd 0 d t l
    · rw [if_pos h2]; exact h2
    · rw [if_neg h2]; omega
theorem bp_lt {M : Nat} {H kd : Int32} {cb wd : Nat → Int32} {d t : Nat} {l : Int32} {p : Nat} (hp : 1 ≤ p) (h : p < bp M H kd cb wd d t l) : ¬ 1 + pv M H kd cb wd 0 d p t l = wv M H kd cb wd 0 d t l := by
  have hr := bp_rg M H kd cb wd d t l
  intro he
  unfold bp at h hr
  have : p = 1 ∨ p = 2 := by omega
  rcases this with rfl | rfl
  · rw [if_pos he] at h; omega
  · by_cases h1 : 1 + pv M H kd cb wd 0 d 1 t l = wv M H kd cb wd 0 d t l
    · rw [if_pos h1] at h; omega
    · rw [if_neg h1, if_pos he] at h; omega
/-- with no bow, the value of a pace is the value behind it -/
theorem pv_0 {M : Nat} {H kd : Int32} {cb wd : Nat → Int32} {d p t : Nat} {l : Int32} : pv M H kd cb wd 0 d p t l = cw M H kd cb wd 0 (d - p) ((t + 1) % 6) (lb kd l (cb (M - (d - p))) (wd t) (nI p)) := by
  unfold pv; rw [i_s0, i_a0, Nat.max_self, Nat.max_self]
theorem cw_lt {M : Nat} {H kd : Int32} {cb wd : Nat → Int32} {b : Int32} {d t : Nat} {x : Int32} (h : cw M H kd cb wd b d t x < 100) : ¬ fel H x ∧ cw M H kd cb wd b d t x = wv M H kd cb wd b d t x := by
  unfold cw at *
  by_cases hf : fel H x
  · rw [cIf_t hf] at h; omega
  · exact ⟨hf, cIf_f hf⟩
noncomputable def fps (M : Nat) (H kd : Int32) (cb wd : Nat → Int32) (t : Nat) (set : Int32) : Nat → Nat × Int32
  | 0 => (0, set)
  | k + 1 => (min M ((fps M H kd cb wd t set k).1 + bp M H kd cb wd (M - (fps M H kd cb wd t set k).1) ((t + k) % 6) (fps M H kd cb wd t set k).2),
      lb kd (fps M H kd cb wd t set k).2 (cb (min M ((fps M H kd cb wd t set k).1 + bp M H kd cb wd (M - (fps M H kd cb wd t set k).1) ((t + k) % 6) (fps M H kd cb wd t set k).2))) (wd ((t + k) % 6)) (nI (bp M H kd cb wd (M - (fps M H kd cb wd t set k).1) ((t + k) % 6) (fps M H kd cb wd t set k).2)))
theorem fps_ok {M : Nat} {H kd : Int32} {cb wd : Nat → Int32} {t : Nat} (ht : t < 6) {set : Int32} (hM : M ≤ 15) (h0 : cw M H kd cb wd 0 M t set < 100) : ∀ k, k ≤ cw M H kd cb wd 0 M t set → (fps M H kd cb wd t set k).1 ≤ M ∧ ¬ fel H (fps M H kd cb wd t set k).2 ∧ wv M H kd cb wd 0 (M - (fps M H kd cb wd t set k).1) ((t + k) % 6) (fps M H kd cb wd t set k).2 + k = cw M H kd cb wd 0 M t set := by
  intro k
  induction k with
  | zero =>
    intro _
    obtain ⟨a, b⟩ := cw_lt h0
    refine ⟨Nat.zero_le _, a, ?_⟩
    show wv M H kd cb wd 0 (M - 0) ((t + 0) % 6) set + 0 = _
    rw [b, Nat.sub_zero, Nat.add_zero, Nat.add_zero, Nat.mod_eq_of_lt ht]
  | succ k ih =>
    intro hk
    obtain ⟨i1, i2, i3⟩ := ih (by omega)
    show min M _ ≤ M ∧ ¬ fel H (lb _ _ _ _ _) ∧ wv M H kd cb wd 0 (M - min M _) _ (lb _ _ _ _ _) + (k + 1) = _
    generalize (fps M H kd cb wd t set k).1 = c at *
    generalize (fps M H kd cb wd t set k).2 = l at *
    have hd : M - c ≠ 0 := by
      intro h
      rw [h, wv_0] at i3; omega
    have hb := bp_eq (kd := kd) (cb := cb) (wd := wd) (H := H) (M := M) (d := M - c) (t := (t + k) % 6) (l := l) hd (by omega)
    have hr := bp_rg M H kd cb wd (M - c) ((t + k) % 6) l
    generalize bp M H kd cb wd (M - c) ((t + k) % 6) l = p at *
    rw [pv_0] at hb
    have hto : min M (c + p) = M - (M - c - p) := by omega
    have hto2 : M - min M (c + p) = M - c - p := by omega
    have h6 : ((t + k) % 6 + 1) % 6 = (t + (k + 1)) % 6 := by omega
    obtain ⟨a, b⟩ := cw_lt (M := M) (H := H) (kd := kd) (cb := cb) (wd := wd) (b := 0) (d := M - c - p) (t := ((t + k) % 6 + 1) % 6) (x := lb kd l (cb (M - (M - c - p))) (wd ((t + k) % 6)) (nI p)) (by omega)
    rw [← hto] at a b hb
    rw [hto2]
    refine ⟨by omega, a, ?_⟩
    rw [← h6, ← b]; omega
variable {u : Nat} {I : ZI} {J : ZJ}
theorem p_least {M : Nat} {H kd : Int32} {cb wd : Nat → Int32} (hM : 1 ≤ M ∧ M ≤ 15) (hH : 1 ≤ H.toInt ∧ H.toInt ≤ 12) (hR : Rd I (nI M) H cb wd) (hk : 0 ≤ kd.toInt ∧ kd.toInt ≤ 5) (hT : Tb (I 38) vc (wv M H kd cb wd 0) M H (fun _ _ _ => True)) {c t : Nat} {l : Int32} (hc : c < M) (ht : t < 900) (hl : ¬ fel H l) (hw : wv M H kd cb wd 0 (M - c) (t % 6) l < 100) (q : YQi) (hq : q I J (nI (bp M H kd cb wd (M - c) (t % 6) l))) :
    u_X9_leastBestPace [.ref 37, .ref 3, .ref (42 + kd.toInt.toNat), .int (nI c), .int (nI t), .int l] (shp u) I J q := by
  rw [e_X9_leastBestPace]
  refine p_cost_w hM hH hR.1 hR.2.1 hT (by omega) (by omega) (fun _ _ => trivial) _ ?_
  have ecw : cw M H kd cb wd 0 (M - c) (t % 6) l = wv M H kd cb wd 0 (M - c) (t % 6) l := cIf_f hl
  rw [ecw, vc_lt hw]
  have hbr := bp_rg M H kd cb wd (M - c) (t % 6) l
  have heq := bp_eq (M := M) (H := H) (kd := kd) (cb := cb) (wd := wd) (d := M - c) (t := t % 6) (l := l) (by omega) hw
  have hlt : ∀ p, 1 ≤ p → p < bp M H kd cb wd (M - c) (t % 6) l → ¬ 1 + pv M H kd cb wd 0 (M - c) p (t % 6) l = wv M H kd cb wd 0 (M - c) (t % 6) l := fun p hp h => bp_lt hp h
  have hcmp : ∀ p, (vc (pv M H kd cb wd 0 (M - c) p (t % 6) l) + 1 = nI (wv M H kd cb wd 0 (M - c) (t % 6) l)) = (1 + pv M H kd cb wd 0 (M - c) p (t % 6) l = wv M H kd cb wd 0 (M - c) (t % 6) l) := by
    intro p
    have h1 := pv_le M H kd cb wd 0 (show M - c ≤ 15 by omega) p (t % 6) l
    have h2 := vc_i (pv M H kd cb wd 0 (M - c) p (t % 6) l)
    have e1 : (1 : Int32).toInt = 1 := rfl
    have h3 : (vc (pv M H kd cb wd 0 (M - c) p (t % 6) l) + 1).toInt = (vc (pv M H kd cb wd 0 (M - c) p (t % 6) l)).toInt + 1 := by
      rw [i_add, e1, h2]; split <;> omega
    rw [i_eq, h3, h2, i_nI _ (by omega)]
    apply propext
    split <;> omega
  generalize wv M H kd cb wd 0 (M - c) (t % 6) l = w at hw heq hlt hcmp ⊢
  generalize bp M H kd cb wd (M - c) (t % 6) l = B at hbr heq hlt hq
  refine zlp 2 (fun k L I' J' => L = [some (.ref 37), some (.ref 3), some (.ref (42 + kd.toInt.toNat)), some (.int (nI c)), some (.int (nI t)), some (.int l), some (.int (nI w)), some (.int (nI (k + 1)))] ∧ k < B ∧ I' = I ∧ J' = J) ?_ ?_ _ _ _ ⟨rfl, by omega, rfl, rfl⟩
  · rintro k hk2 r L I' J' ⟨rfl, hB, rfl, rfl⟩ hr
    rw [g_X9_leastBestPace_15]
    refine ⟨fun h => absurd (show nI 3 ≤ nI (k + 1) from h) (mI_ge (by omega) (by omega)), fun _ => ?_⟩
    refine p_worst hM hH hR hk hc ht ⟨by omega, by omega⟩ hT (fun _ _ _ _ => trivial) _ _ ?_
    rw [hcmp]
    refine ⟨fun h => ?_, fun h => ?_⟩
    · rw [mI_one]
      refine hr _ _ _ ⟨rfl, ?_, rfl, rfl⟩
      rcases Nat.lt_or_ge (k + 1) B with z | z
      · exact z
      · have : B = k + 1 := by omega
        rw [this] at heq; exact absurd heq h
    · refine ⟨rfl, ?_⟩
      have : B = k + 1 := by
        rcases Nat.lt_or_ge (k + 1) B with z | z
        · exact absurd h (hlt _ (by omega) z)
        · omega
      rw [this] at hq; exact hq
  · rintro r L I' J' ⟨rfl, hB, rfl, rfl⟩
    rw [g_X9_leastBestPace_15]
    have : B = 3 := by omega
    rw [this] at hq
    exact ⟨fun _ => ⟨rfl, hq⟩, fun h => absurd (mI_rf 3) h⟩
def g_soo (x1 x2 x3 : Int32) (n : Nat → Int32) : Prop := (0 ≤ x1.toInt ∧ x1.toInt ≤ (n 2 - 1).toInt) ∧ (0 ≤ x2.toInt ∧ x2.toInt ≤ 5) ∧ (-1 ≤ x3)
noncomputable def sps (n : Nat → Int32) (h t : Nat) (k : Nat) : Nat × Int32 := fps (n 0).toInt.toNat (n 1) (n (27 + 2 * h)) (fun c => n (5 + c)) (fun i => n (21 + i)) t (n (28 + 2 * h)) k
noncomputable def spp (n : Nat → Int32) (h t : Nat) (k : Nat) : Nat := bp (n 0).toInt.toNat (n 1) (n (27 + 2 * h)) (fun c => n (5 + c)) (fun i => n (21 + i)) ((n 0).toInt.toNat - (sps n h t k).1) ((t + k) % 6) (sps n h t k).2
noncomputable def a_soo (x1 x2 x3 : Int32) (n : Nat → Int32) : Int32 :=
  if thr n x1.toInt.toNat 0 x2.toInt.toNat < 100 then (if x3 = -1 then nI (thr n x1.toInt.toNat 0 x2.toInt.toNat) else if nI (thr n x1.toInt.toNat 0 x2.toInt.toNat) ≤ x3 then -5 else nI (spp n x1.toInt.toNat x2.toInt.toNat x3.toInt.toNat)) else -1
theorem spp_rg (n : Nat → Int32) (h t k : Nat) : 1 ≤ spp n h t k ∧ spp n h t k ≤ 3 := bp_rg _ _ _ _ _ _ _ _
/-- one step of the way: the trial's step is the pure one -/
theorem sps_s {n : Nat → Int32} (hV : Vd n) {h t k : Nat} (hle : (sps n h t k).1 ≤ (n 0).toInt.toNat) : stp (n 0) (n (27 + 2 * h)) (fun c => n (5 + c)) (fun i => n (21 + i)) (t + k) (nI (spp n h t k)) 0 (nI (sps n h t k).1, (sps n h t k).2) = (nI (sps n h t (k + 1)).1, (sps n h t (k + 1)).2) := by
  have hr := spp_rg n h t k
  have hM := n0_rg hV
  have e1 : (sps n h t (k + 1)).1 = min (n 0).toInt.toNat ((sps n h t k).1 + spp n h t k) := rfl
  have e2 : (sps n h t (k + 1)).2 = lb (n (27 + 2 * h)) (sps n h t k).2 (n (5 + min (n 0).toInt.toNat ((sps n h t k).1 + spp n h t k))) (n (21 + (t + k) % 6)) (nI (spp n h t k)) := rfl
  have ec : cel (n 0) (nI (sps n h t k).1) (nI (spp n h t k)) = nI (min (n 0).toInt.toNat ((sps n h t k).1 + spp n h t k)) := by
    have := cel_nat hM hle (p := spp n h t k) (by omega)
    rw [← n0_nI hV] at this; exact this
  show (cel _ _ _, lb _ _ _ _ _ + 0) = _
  rw [e1, e2, i_a0]
  show (cel (n 0) (nI (sps n h t k).1) (nI (spp n h t k)), lb (n (27 + 2 * h)) (sps n h t k).2 (n (5 + (cel (n 0) (nI (sps n h t k).1) (nI (spp n h t k))).toInt.toNat)) (n (21 + (t + k) % 6)) (nI (spp n h t k))) = _
  rw [ec, i_nI _ (by omega), Int.toNat_natCast]
theorem c_first {n : Nat → Int32} (hW : Wd 2 I n) (hV : Vd n) {h t i : Nat} (hk : 0 ≤ (n (27 + 2 * h)).toInt ∧ (n (27 + 2 * h)).toInt ≤ 5) (hT : Tc1 I n h 0) (ht : t < 6) (hw : thr n h 0 t < 100) (hi : i < thr n h 0 t) (q : YQi) (hq : ∀ I', F33 I I' → q I' J (nI (spp n h t i))) :
    u_X11_firstPace [.ref 0, .ref (42 + (n (27 + 2 * h)).toInt.toNat), .int (n (28 + 2 * h)), .int (nI t), .int (nI i)] (shp u) I J q := by
  have hM := n0_rg hV
  have h15 := thr_le hV h 0 t
  have ok := fps_ok (M := (n 0).toInt.toNat) (H := n 1) (kd := n (27 + 2 * h)) (cb := fun c => n (5 + c)) (wd := fun i => n (21 + i)) ht (set := n (28 + 2 * h)) hM.2 hw
  have hR := Rd_of hW hV
  rw [e_X11_firstPace, e_X8_begin]
  refine ⟨rfl, ?_⟩
  generalize hI1 : zu (zu (zu (zu (zu I 33 0 0) 33 1 0) 33 2 (nI t)) 33 3 (n (28 + 2 * h))) 33 4 0 = I1
  have hF1 : F33 I I1 := fun a ha => by rw [← hI1, zu_ne _ _ _ ha, zu_ne _ _ _ ha, zu_ne _ _ _ ha, zu_ne _ _ _ ha, zu_ne _ _ _ ha]
  have hT1 : Tc I1 (n 0) (nI (sps n h t 0).1, (sps n h t 0).2) (t + 0) := by
    rw [← hI1]
    refine ⟨?_, ?_, ?_, Int.le_refl 0, by show (0 : Int) ≤ _; have := hV.1; omega⟩
    · simp only [zu_rd, Nat.reduceEqDiff, reduceIte]; rfl
    · simp only [zu_rd, Nat.reduceEqDiff, reduceIte]; rfl
    · simp only [zu_rd, Nat.reduceEqDiff, reduceIte]; rfl
  clear hI1
  refine zlp (i + 1) (fun k L I' J' => (∃ o2 o3 x, L = [some (.ref 0), some (.ref (42 + (n (27 + 2 * h)).toInt.toNat)), o2, o3, some (.int (nI i)), some (.int x), some (.int (nI k))] ∧ (k ≠ 0 → x = nI (spp n h t (k - 1)))) ∧ Tc I' (n 0) (nI (sps n h t k).1, (sps n h t k).2) (t + k) ∧ F33 I I' ∧ J' = J) ?_ ?_ _ _ _ ⟨⟨_, _, _, rfl, fun z => absurd rfl z⟩, hT1, hF1, rfl⟩
  · rintro k hki r L I' J' ⟨⟨o2, o3, x, rfl, hx⟩, hTc, hF, rfl⟩ hr
    obtain ⟨o1, o2', o3'⟩ := ok k (by show k ≤ thr n h 0 t; omega)
    have o1 : (sps n h t k).1 ≤ (n 0).toInt.toNat := o1
    have o2' : ¬ fel (n 1) (sps n h t k).2 := o2'
    have o3' : wv (n 0).toInt.toNat (n 1) (n (27 + 2 * h)) (fun c => n (5 + c)) (fun i => n (21 + i)) 0 ((n 0).toInt.toNat - (sps n h t k).1) ((t + k) % 6) (sps n h t k).2 + k = thr n h 0 t := o3'
    rw [g_X11_firstPace_16, mI_lt (by omega) (by omega)]
    refine ⟨fun h => by omega, fun _ => ⟨fun h => absurd (show nI 15 ≤ nI k from h) (mI_ge (by omega) (by omega)), fun _ => ?_⟩⟩
    have hR' : Rd I' (n 0) (n 1) (fun c => n (5 + c)) (fun i => n (21 + i)) := Rd_fr hR (hF 3 (by decide)) (hF 4 (by decide)) (hF 5 (by decide))
    have hR2 := hR'
    rw [n0_nI hV] at hR2
    have hlt : (sps n h t k).1 < (n 0).toInt.toNat := by
      rcases Nat.lt_or_ge (sps n h t k).1 (n 0).toInt.toNat with z | z
      · exact z
      · rw [show (n 0).toInt.toNat - (sps n h t k).1 = 0 by omega, wv_0] at o3'; omega
    rw [hTc.1, hTc.2.1, hTc.2.2.1]
    refine p_least hM hV.2.1 hR2 hk (by rw [hF 38 (by decide)]; exact hT) hlt (by omega) o2' (by omega) _ ?_
    have hpr := spp_rg n h t k
    refine go_c u I' J' hR' hTc hk (p := nI (spp n h t k)) (by rw [i_nI _ (by omega)]; omega) (by omega) 0 _ (fun I2 hF2 hT2 => ?_)
    rw [sps_s hV o1] at hT2
    rw [mI_one]
    exact hr _ _ _ ⟨⟨_, _, _, rfl, fun _ => rfl⟩, hT2, fun a ha => by rw [hF2 a ha, hF a ha], rfl⟩
  · rintro r L I' J' ⟨⟨o2, o3, x, rfl, hx⟩, hTc, hF, rfl⟩
    rw [g_X11_firstPace_16, mI_lt (by omega) (by omega)]
    refine ⟨fun _ => ?_, fun h => absurd (by omega) h⟩
    rw [g_X11_firstPace_92, hx (by omega), Nat.add_sub_cancel]
    exact ⟨rfl, hq I' hF⟩
theorem c_soonest (x1 x2 x3 : Int32) (I : ZI) (q : YQi) (hW : Wd 2 I (I 49)) (hV : Vd (I 49)) (hn : ¬ g_soo x1 x2 x3 (I 49) → q (zu I 0 10 (I 0 10 + 1)) J (-10)) (hy : g_soo x1 x2 x3 (I 49) → ∀ I', Fr I I' → q I' J (a_soo x1 x2 x3 (I 49))) :
    u_X11_soonest [.ref 0, .int x1, .int x2, .int x3] (shp u) I J q := by
  have w2 : I 2 2 = I 49 2 := hW.2.2.1
  have no : ¬ g_soo x1 x2 x3 (I 49) → ∀ o1 o2 o3 o4 o5, b_X11_soonest_20 u_X11_isHead u_X11_isStep u_X11_bad u_X10_kindOf u_X11_kind u_X9_fillSure u_X10_setOf u_X9_costFrom u_X11_firstPace (qi (shp u) q) [some (.ref 0), o1, o2, o3, o4, o5] [] (shp u) I J := by
    intro h o1 o2 o3 o4 o5
    rw [g_X11_soonest_20, p_X11_bad]
    exact ⟨rfl, hn h⟩
  rw [e_X11_soonest, p_X11_isHead, w2]
  refine ⟨fun h => no (fun z => b0n h z.1) _ _ _ _ _, fun h1 => ?_⟩
  rw [p_X11_isStep]
  refine ⟨fun h => no (fun z => b0n h z.2.1) _ _ _ _ _, fun h2 => ⟨fun h3 => ?_, fun h => no (fun z => h z.2.2) _ _ _ _ _⟩⟩
  have g1 := b0p h1
  have g2 := b0p h2
  obtain ⟨k1, k2, k3⟩ := hd_of hV g1
  obtain ⟨e10, e11⟩ := hdW hW k2
  have fin := hy ⟨g1, g2, h3⟩
  unfold a_soo at fin
  rw [p_X10_kindOf _ _ _ k1, e10, p_X11_kind _ _ _ k3]
  refine c_fill hW hV k3 _ _ (fun I1 hF1 hT1 => ?_)
  have hW1 := Wd_q hW (Fr_38 hF1)
  have hFr := Fr_38 hF1
  rw [p_X10_setOf _ _ _ k1, (hdW hW1 k2).2]
  obtain ⟨t, ht, ht6⟩ : ∃ t : Nat, x2 = nI t ∧ t < 6 := ⟨_, mI_of g2.1, by omega⟩
  have et : x2.toInt.toNat = t := by rw [ht, i_nI _ (by omega)]; rfl
  rw [et] at fin
  rw [ht]
  have h15 := thr_le hV x1.toInt.toNat 0 t
  refine c_thr hW1 hV hT1 ht6 _ ?_
  have hfar : (vc (thr (I 49) x1.toInt.toNat 0 t) < 16777216) = (thr (I 49) x1.toInt.toNat 0 t < 100) := by
    have := vc_far (thr (I 49) x1.toInt.toNat 0 t)
    rw [i_le] at this
    rw [i_lt]; apply propext
    have h2 : (16777216 : Int32).toInt ≤ (vc (thr (I 49) x1.toInt.toNat 0 t)).toInt ↔ 100 ≤ thr (I 49) x1.toInt.toNat 0 t := by rw [this]
    omega
  rw [hfar]
  refine ⟨fun hw => ⟨fun hx => ?_, fun hx => ⟨rfl, ?_⟩⟩, fun hw => ⟨rfl, ?_⟩⟩
  · rw [if_pos hw, if_neg hx] at fin
    rw [vc_lt hw]
    refine ⟨fun h => ?_, fun h => ?_⟩
    · rw [if_pos h] at fin
      rw [g_X11_soonest_128]; exact ⟨rfl, fin I1 hFr⟩
    · rw [if_neg h] at fin
      have h3p : 0 ≤ x3.toInt := by
        have e1 : (-1 : Int32).toInt = -1 := rfl
        rw [i_le, e1] at h3
        rcases Int.lt_or_le x3.toInt 0 with z | z
        · exact absurd (i_ext (show x3.toInt = (-1 : Int32).toInt by rw [e1]; omega)) hx
        · exact z
      obtain ⟨i, hi⟩ : ∃ i : Nat, x3 = nI i := ⟨_, mI_of h3p⟩
      have hi2 : x3.toInt < thr (I 49) x1.toInt.toNat 0 t := by rw [i_le, i_nI _ (by omega)] at h; omega
      have ei : x3.toInt.toNat = x3.toInt.toNat := rfl
      rw [p_X10_setOf _ _ _ k1, (hdW hW1 k2).2]
      have key := c_first (u := u) (J := J) (i := x3.toInt.toNat) hW1 hV k3 hT1 ht6 hw (by omega) (fun I9 J9 v9 => b_X11_soonest_128 u_X11_isHead u_X11_isStep u_X11_bad u_X10_kindOf u_X11_kind u_X9_fillSure u_X10_setOf u_X9_costFrom u_X11_firstPace (qi (shp u) q) [some (.ref 0), some (.int x1), some (.int (nI t)), some (.int x3), some (.ref (42 + (I 49 (27 + 2 * x1.toInt.toNat)).toInt.toNat)), some (.int (nI (thr (I 49) x1.toInt.toNat 0 t)))] [.int v9] (shp u) I9 J9) (fun I9 hF9 => by
        rw [g_X11_soonest_128]; exact ⟨rfl, fin I9 (Fr_tr hFr (Fr_33 hF9))⟩)
      rw [← mI_of h3p] at key
      exact key
  · rw [if_pos hw, if_pos hx] at fin
    rw [vc_lt hw]; exact fin I1 hFr
  · rw [if_neg hw] at fin; exact fin I1 hFr
