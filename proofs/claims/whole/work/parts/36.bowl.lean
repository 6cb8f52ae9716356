/-! ===== bowl ===== -/
def FC (I I' : ZI) : Prop := ∀ a, ¬ (33 ≤ a ∧ a ≤ 41) → I' a = I a
def FX (I I' : ZI) : Prop := (∀ a, a ≠ 48 → ¬ (53 ≤ a ∧ a ≤ 57) → I' a = I a) ∧ ∀ i, i ≠ 7 → i ≠ 8 → i ≠ 9 → I' 48 i = I 48 i
theorem FC_rf (I : ZI) : FC I I := fun _ _ => rfl
theorem FX_rf (I : ZI) : FX I I := ⟨fun _ _ _ => rfl, fun _ _ _ _ => rfl⟩
theorem FC_tr {I I1 I2 : ZI} (h : FC I I1) (h2 : FC I1 I2) : FC I I2 := fun a ha => by rw [h2 a ha, h a ha]
theorem FX_tr {I I1 I2 : ZI} (h : FX I I1) (h2 : FX I1 I2) : FX I I2 := ⟨fun a ha hb => by rw [h2.1 a ha hb, h.1 a ha hb], fun i a b c => by rw [h2.2 i a b c, h.2 i a b c]⟩
theorem FC_33 {I I1 : ZI} (h : F33 I I1) : FC I I1 := fun a ha => h a (by omega)
theorem FX_M {I I1 : ZI} (h : FM I I1) : FX I I1 := ⟨fun a ha hb => h.1 a ha (by omega), h.2⟩
theorem FX_48 {I I1 : ZI} (h : F48 I I1) : FX I I1 := ⟨fun a ha hb => h.1 a ha, h.2⟩
theorem Fr_C {I I1 : ZI} (h : FC I I1) : Fr I I1 := ⟨fun a _ _ _ x _ _ _ => h a x, by rw [h 31 (by decide)], by rw [h 48 (by decide)]⟩
theorem Fr_X {I I1 : ZI} (h : FX I I1) : Fr I I1 := ⟨fun a _ x _ _ y _ _ => h.1 a x y, by rw [h.1 31 (by decide) (by decide)], h.2 15 (by decide) (by decide) (by decide)⟩
theorem stp_adv {N H kd p b : Int32} {cb wd : Nat → Int32} {t k : Nat} {s : Int32 × Int32} (hN : 1 ≤ N.toInt ∧ N.toInt ≤ 15) (hs : 0 ≤ s.1.toInt ∧ s.1.toInt ≤ N.toInt) (hp : 1 ≤ p.toInt ∧ p.toInt ≤ 10) (h : ¬ ovr N H s) (hk : (k : Int) ≤ s.1.toInt) : ((k + 1 : Nat) : Int) ≤ (stp N kd cb wd t p b s).1.toInt := by
  have hl : s.1.toInt < N.toInt := by
    rcases Int.lt_or_le s.1.toInt N.toInt with z | z
    · exact z
    · exact absurd (Or.inl (by rw [i_le]; exact z)) h
  have := cel_rg hN hs (p := p) (by omega)
  show _ ≤ (cel N s.1 p).toInt
  rcases Int.le_total N.toInt (s.1.toInt + p.toInt) with z | z
  · rw [this.2.2.1 z]; omega
  · rw [this.2.2.2 z]; omega
theorem ovr_15 {N H : Int32} {s : Int32 × Int32} (hN : 1 ≤ N.toInt ∧ N.toInt ≤ 15) (hk : ((15 : Nat) : Int) ≤ s.1.toInt) : ovr N H s := Or.inl (by rw [i_le]; omega)
noncomputable def eop (n : Nat → Int32) (kd set p : Int32) : Int32 := (rn (n 0) (n 1) kd (fun c => n (5 + c)) (fun i => n (21 + i)) 0 (fun _ => p) (fun _ => 0) 15 0 (0, set)).1.1
theorem rn_rg {N H kd : Int32} {cb wd : Nat → Int32} {t : Nat} {pc bw : Nat → Int32} (hN : 1 ≤ N.toInt ∧ N.toInt ≤ 15) (hp : ∀ k, 0 ≤ (pc k).toInt ∧ (pc k).toInt ≤ 10) : ∀ (f k : Nat) (s : Int32 × Int32), (0 ≤ s.1.toInt ∧ s.1.toInt ≤ N.toInt) → 0 ≤ (rn N H kd cb wd t pc bw f k s).1.1.toInt ∧ (rn N H kd cb wd t pc bw f k s).1.1.toInt ≤ N.toInt := by
  intro f
  induction f with
  | zero => intro k s hs; exact hs
  | succ f ih =>
    intro k s hs
    by_cases h : ovr N H s
    · rw [rn_over h]; exact hs
    · rw [rn_step h]
      have := cel_rg hN hs (hp k)
      exact ih _ _ ⟨this.1, this.2.1⟩
theorem eop_rg {n : Nat → Int32} (hV : Vd n) (kd set : Int32) {p : Int32} (hp : 1 ≤ p.toInt ∧ p.toInt ≤ 3) : 0 ≤ (eop n kd set p).toInt ∧ (eop n kd set p).toInt ≤ (n 0).toInt :=
  rn_rg hV.1 (fun _ => by omega) _ _ _ ⟨Int.le_refl 0, by show (0 : Int) ≤ _; have := hV.1; omega⟩
variable {u : Nat} {I : ZI} {J : ZJ}
theorem c_end {n : Nat → Int32} (hW : Wd 2 I n) (hV : Vd n) {kd hd p : Int32} (hk : 0 ≤ kd.toInt ∧ kd.toInt ≤ 5) (hh : 0 ≤ hd.toInt ∧ hd.toInt ≤ (n 2 - 1).toInt) (hp : 1 ≤ p.toInt ∧ p.toInt ≤ 3) (q : YQi)
    (hq : ∀ I', F33 I I' → q I' J (eop n kd (n (28 + 2 * hd.toInt.toNat)) p)) : u_X11_endOfPace [.ref 0, .int kd, .int hd, .int p] (shp u) I J q := by
  obtain ⟨h1, h2, h3⟩ := hd_of hV hh
  have e11 := (hdW hW h2).2
  have hR := Rd_of hW hV
  rw [e_X11_endOfPace, p_X10_setOf _ _ _ h1, e11, e_X8_begin]
  refine ⟨rfl, ?_⟩
  have fin := hq
  unfold eop at fin
  generalize n (28 + 2 * hd.toInt.toNat) = set at fin
  generalize hI1 : zu (zu (zu (zu (zu I 33 0 hd) 33 1 0) 33 2 0) 33 3 set) 33 4 0 = I1
  have hF1 : F33 I I1 := fun a ha => by rw [← hI1, zu_ne _ _ _ ha, zu_ne _ _ _ ha, zu_ne _ _ _ ha, zu_ne _ _ _ ha, zu_ne _ _ _ ha]
  have hT1 : Tc I1 (n 0) (0, set) 0 := by
    rw [← hI1]
    refine ⟨?_, ?_, ?_, Int.le_refl 0, by show (0 : Int) ≤ _; have := hV.1; omega⟩
    · simp only [zu_rd, Nat.reduceEqDiff, reduceIte]
    · simp only [zu_rd, Nat.reduceEqDiff, reduceIte]
    · simp only [zu_rd, Nat.reduceEqDiff, reduceIte]; rfl
  clear hI1
  refine zlp 15 (fun k L I' J' => (∃ o s, L = [some (.ref 0), some (.int kd), o, some (.int p), some (.int (nI k))] ∧ Tc I' (n 0) s k ∧ rn (n 0) (n 1) kd (fun c => n (5 + c)) (fun i => n (21 + i)) 0 (fun _ => p) (fun _ => 0) 15 0 (0, set) = rn (n 0) (n 1) kd (fun c => n (5 + c)) (fun i => n (21 + i)) 0 (fun _ => p) (fun _ => 0) (15 - k) k s) ∧ F33 I I' ∧ J' = J) ?_ ?_ _ _ _ ⟨⟨_, _, rfl, hT1, rfl⟩, hF1, rfl⟩
  · rintro k hk15 r L I' J' ⟨⟨o, s, rfl, hT, hrn⟩, hF, rfl⟩ hr
    have hR' : Rd I' (n 0) (n 1) (fun c => n (5 + c)) (fun i => n (21 + i)) := Rd_fr hR (hF 3 (by decide)) (hF 4 (by decide)) (hF 5 (by decide))
    rw [g_X11_endOfPace_20]
    refine ⟨fun h => absurd (show nI 15 ≤ nI k from h) (mI_ge hk15 (by omega)), fun _ => ?_⟩
    rw [ov_c u I' J' hR' hT]
    refine ⟨fun h => ?_, fun h => ?_⟩
    · rw [g_X11_endOfPace_71, hT.1]
      rw [hrn, rn_over (b0p h)] at fin
      exact ⟨rfl, fin I' hF⟩
    · rw [p_X11_kind _ _ _ hk]
      refine go_c u I' J' hR' hT hk (by omega) (by omega) 0 _ (fun I2 hF2 hT2 => ?_)
      rw [mI_one]
      refine hr _ _ _ ⟨⟨none, _, rfl, hT2, ?_⟩, fun a ha => by rw [hF2 a ha, hF a ha], rfl⟩
      have h9 : 15 - k = (15 - (k + 1)) + 1 := by omega
      rw [hrn, h9, rn_step (b0n h), Nat.zero_add]
  · rintro r L I' J' ⟨⟨o, s, rfl, hT, hrn⟩, hF, rfl⟩
    rw [g_X11_endOfPace_20]
    refine ⟨fun _ => ?_, fun h => absurd (mI_rf 15) h⟩
    rw [g_X11_endOfPace_71, hT.1]
    rw [hrn] at fin
    exact ⟨rfl, fin I' hF⟩
/-- the ends of the kinds below k, and the most that end alike -/
noncomputable def bst (n : Nat → Int32) (set p : Int32) (m : Nat) : Nat → (Nat → Int32) × Int32
  | 0 => (fun _ => 0, 0)
  | k + 1 => if m.testBit k = true then (fun i => if i = (eop n (nI k) set p).toInt.toNat then (bst n set p m k).1 (eop n (nI k) set p).toInt.toNat + 1 else (bst n set p m k).1 i, if (bst n set p m k).2 < (bst n set p m k).1 (eop n (nI k) set p).toInt.toNat + 1 then (bst n set p m k).1 (eop n (nI k) set p).toInt.toNat + 1 else (bst n set p m k).2) else bst n set p m k
theorem bst_f {n : Nat → Int32} {set p : Int32} {m k : Nat} (h : ¬ m.testBit k = true) : bst n set p m (k + 1) = bst n set p m k := if_neg h
theorem bst_t {n : Nat → Int32} {set p : Int32} {m k : Nat} (h : m.testBit k = true) : bst n set p m (k + 1) = (fun i => if i = (eop n (nI k) set p).toInt.toNat then (bst n set p m k).1 (eop n (nI k) set p).toInt.toNat + 1 else (bst n set p m k).1 i, if (bst n set p m k).2 < (bst n set p m k).1 (eop n (nI k) set p).toInt.toNat + 1 then (bst n set p m k).1 (eop n (nI k) set p).toInt.toNat + 1 else (bst n set p m k).2) := if_pos h
theorem bst_rg (n : Nat → Int32) (set p : Int32) (m : Nat) : ∀ k, k ≤ 6 → (∀ i, 0 ≤ ((bst n set p m k).1 i).toInt ∧ ((bst n set p m k).1 i).toInt ≤ k) ∧ 0 ≤ (bst n set p m k).2.toInt ∧ (bst n set p m k).2.toInt ≤ k := by
  intro k
  induction k with
  | zero => intro _; exact ⟨fun _ => ⟨Int.le_refl 0, Int.le_refl 0⟩, Int.le_refl 0, Int.le_refl 0⟩
  | succ k ih =>
    intro hk
    obtain ⟨h1, h2⟩ := ih (by omega)
    have e1 : (1 : Int32).toInt = 1 := rfl
    have he : ∀ i, ((bst n set p m k).1 i + 1).toInt = ((bst n set p m k).1 i).toInt + 1 := fun i => by have := h1 i; rw [i_add, e1]; omega
    by_cases hb : m.testBit k = true
    · rw [bst_t hb]
      refine ⟨fun i => ?_, ?_⟩
      · have h3 := h1 (eop n (nI k) set p).toInt.toNat
        have h4 := h1 i
        have h5 := he (eop n (nI k) set p).toInt.toNat
        show 0 ≤ (if i = (eop n (nI k) set p).toInt.toNat then _ else _ : Int32).toInt ∧ (if i = (eop n (nI k) set p).toInt.toNat then _ else _ : Int32).toInt ≤ _
        by_cases hi : i = (eop n (nI k) set p).toInt.toNat
        · rw [if_pos hi, h5]; omega
        · rw [if_neg hi]; omega
      · have h3 := h1 (eop n (nI k) set p).toInt.toNat
        have h5 := he (eop n (nI k) set p).toInt.toNat
        show 0 ≤ (if (bst n set p m k).2 < (bst n set p m k).1 (eop n (nI k) set p).toInt.toNat + 1 then _ else _ : Int32).toInt ∧ (if (bst n set p m k).2 < (bst n set p m k).1 (eop n (nI k) set p).toInt.toNat + 1 then _ else _ : Int32).toInt ≤ _
        by_cases hi : (bst n set p m k).2 < (bst n set p m k).1 (eop n (nI k) set p).toInt.toNat + 1
        · rw [if_pos hi, h5]; omega
        · rw [if_neg hi]; omega
    · rw [bst_f hb]
      exact ⟨fun i => by have := h1 i; omega, by omega⟩
theorem bit_c : ∀ m : Fin 64, ∀ k : Fin 6, ((nI m.val &&& ((1 : Int32) <<< (nI k.val &&& 31))) = 0 ↔ ¬ m.val.testBit k.val = true) := by decide +kernel
theorem bit_m : ∀ m : Fin 64, ∀ k : Fin 6, (((nI m.val >>> (nI k.val &&& 31)) &&& 1) = (1 : Int32) ↔ m.val.testBit k.val = true) := by decide +kernel
theorem c_most {n : Nat → Int32} (hW : Wd 2 I n) (hV : Vd n) {hd p : Int32} {m : Nat} (hm : m < 64) (hh : 0 ≤ hd.toInt ∧ hd.toInt ≤ (n 2 - 1).toInt) (hp : 1 ≤ p.toInt ∧ p.toInt ≤ 3) (q : YQi)
    (hq : ∀ I', FC I I' → q I' J (bst n (n (28 + 2 * hd.toInt.toNat)) p m 6).2) : u_X11_mostThatEndAlike [.ref 0, .int hd, .int (nI m), .int p] (shp u) I J q := by
  rw [e_X11_mostThatEndAlike]
  generalize hset : n (28 + 2 * hd.toInt.toNat) = set at hq
  refine zlp 16 (fun k L I' J' => (∃ o5 o6, L = [some (.ref 0), some (.int hd), some (.int (nI m)), some (.int p), some (.int (nI k)), o5, o6]) ∧ (∀ i, i < k → I' 41 i = 0) ∧ FC I I' ∧ J' = J) ?_ ?_ _ _ _ ⟨⟨_, _, rfl⟩, fun i hi => absurd hi (by omega), FC_rf I, rfl⟩
  · rintro k hk r L I' J' ⟨⟨o5, o6, rfl⟩, hz, hF, rfl⟩ hr
    rw [g_X11_mostThatEndAlike_3]
    refine ⟨fun h => absurd h (mI_ge hk (by omega)), fun _ => ⟨mI_in (by omega) (by omega), ?_⟩⟩
    rw [mI_nat (by omega), mI_one]
    refine hr _ _ _ ⟨⟨none, none, rfl⟩, fun i hi => ?_, fun a ha => ?_, rfl⟩
    · rw [zu_rd, if_pos rfl]
      by_cases h : i = k
      · rw [if_pos h]
      · rw [if_neg h]; exact hz i (by omega)
    · rw [zu_ne _ _ _ (show a ≠ 41 by omega)]; exact hF a ha
  · rintro r L I' J' ⟨⟨o5, o6, rfl⟩, hz, hF, rfl⟩
    rw [g_X11_mostThatEndAlike_3]
    refine ⟨fun _ => ?_, fun h => absurd (mI_rf 16) h⟩
    refine zlp 6 (fun k L I' J'' => (∃ o6, L = [some (.ref 0), some (.int hd), some (.int (nI m)), some (.int p), some (.int (bst n set p m k).2), some (.int (nI k)), o6]) ∧ (∀ i, i < 16 → I' 41 i = (bst n set p m k).1 i) ∧ FC I I' ∧ J'' = J') ?_ ?_ _ _ _ ⟨⟨none, rfl⟩, hz, hF, rfl⟩
    · rintro k hk r L I' J'' ⟨⟨o6, rfl⟩, hz, hF, rfl⟩ hr
      rw [g_X11_mostThatEndAlike_33]
      refine ⟨fun h => absurd (show nI 6 ≤ nI k from h) (mI_ge hk (by omega)), fun _ => ⟨fun h => ?_, fun h => ?_⟩⟩
      · have hb := (bit_c ⟨m, hm⟩ ⟨k, hk⟩).1 h
        have st : bst n set p m (k + 1) = bst n set p m k := bst_f hb
        rw [g_X11_mostThatEndAlike_100, mI_one, ← st]
        exact hr _ _ _ ⟨⟨none, rfl⟩, by rw [st]; exact hz, hF, rfl⟩
      · have hb : m.testBit k = true := Classical.byContradiction (fun z => h ((bit_c ⟨m, hm⟩ ⟨k, hk⟩).2 z))
        refine c_end (Wd_q hW (Fr_C hF)) hV (kd_rg hk) hh hp _ (fun I3 hF3 => ?_)
        have hF4 : FC I I3 := FC_tr hF (FC_33 hF3)
        rw [hset, p_X11_within]
        have hrg := eop_rg hV (nI k) set hp
        have hN := hV.1
        have e15 : (nI 16 - 1).toInt = 15 := by decide
        have hin : (0 : Int32).toInt ≤ (eop n (nI k) set p).toInt ∧ (eop n (nI k) set p).toInt ≤ (nI 16 - 1).toInt := by rw [e15]; exact ⟨hrg.1, by omega⟩
        refine ⟨fun z => b0t hin z, fun _ => ?_⟩
        have hv : vp_in (eop n (nI k) set p) 16 := by rw [i_vp]; omega
        refine ⟨hv, hv, hv, ?_⟩
        have e41 : I3 41 = I' 41 := hF3 41 (by decide)
        rw [i_nat, zu_rd, if_pos rfl, if_pos rfl, e41, hz _ (by omega), g_X11_mostThatEndAlike_100, mI_one]
        have st := bst_t (n := n) (set := set) (p := p) hb
        refine hr _ _ _ ⟨⟨none, by rw [st]⟩, fun i hi => ?_, fun a ha => ?_, rfl⟩
        · rw [st, zu_rd, if_pos rfl]
          by_cases hie : i = (eop n (nI k) set p).toInt.toNat
          · rw [if_pos hie]; show _ = if _ then _ else _; rw [if_pos hie]
          · rw [if_neg hie]; show _ = if _ then _ else _; rw [if_neg hie, e41]; exact hz i hi
        · rw [zu_ne _ _ _ (show a ≠ 41 by omega)]; exact hF4 a ha
    · rintro r L I' J'' ⟨⟨o6, rfl⟩, hz, hF, rfl⟩
      rw [g_X11_mostThatEndAlike_33]
      exact ⟨fun _ => ⟨rfl, hq I' hF⟩, fun h => absurd (mI_rf 6) h⟩
noncomputable def bwl (n : Nat → Int32) (set : Int32) (m : Nat) (f : Int32) : Nat → Int32 × Int32
  | 0 => (-1, f)
  | j + 1 => if (bst n set (nI (j + 1)) m 6).2 < (bwl n set m f j).2 then (nI (j + 1), (bst n set (nI (j + 1)) m 6).2) else bwl n set m f j
theorem bwl_eq (n : Nat → Int32) (set : Int32) (m : Nat) : ∀ j, bwl n set m 7 (j + 1) = bwl n set m 1000000 (j + 1) := by
  intro j
  induction j with
  | zero =>
    have := (bst_rg n set (nI (0 + 1)) m 6 (by omega)).2
    have e7 : (7 : Int32).toInt = 7 := rfl
    have e6 : (1000000 : Int32).toInt = 1000000 := rfl
    show (if _ then _ else _) = (if _ then _ else _)
    rw [if_pos (show (bst n set (nI (0 + 1)) m 6).2 < (bwl n set m 7 0).2 by show _ < (7 : Int32); rw [i_lt, e7]; omega), if_pos (show (bst n set (nI (0 + 1)) m 6).2 < (bwl n set m 1000000 0).2 by show _ < (1000000 : Int32); rw [i_lt, e6]; omega)]
  | succ j ih => show (if _ then _ else _) = (if _ then _ else _); rw [ih]
noncomputable def a_bwl (x : Int32) (n : Nat → Int32) : Int32 :=
  if kmask (fun kd => ∀ k : Nat, (k : Int) < (n 3).toInt → fit n x kd k) = 0 then -1 else (bwl n (n (28 + 2 * x.toInt.toNat)) (kmask (fun kd => ∀ k : Nat, (k : Int) < (n 3).toInt → fit n x kd k)) 7 3).1
theorem kmask_lt (p : Nat → Prop) : kmask p < 64 := by
  have h : ∀ (q : Prop) (a : Nat), cIf q a 0 ≤ a := fun q a => by
    by_cases hq : q
    · rw [cIf_t hq]; exact Nat.le_refl _
    · rw [cIf_f hq]; omega
  unfold kmask
  have h0 := h (p 0) 1
  have h1 := h (p 1) 2
  have h2 := h (p 2) 4
  have h3 := h (p 3) 8
  have h4 := h (p 4) 16
  have h5 := h (p 5) 32
  omega
theorem c_bowl (x : Int32) (I : ZI) (q : YQi) (hW : Wd 2 I (I 49)) (hV : Vd (I 49)) (hn : ¬ g_is x (I 49) → q (zu I 0 10 (I 0 10 + 1)) J (-2)) (hy : g_is x (I 49) → ∀ I', Fr I I' → q I' J (a_bwl x (I 49))) :
    u_X11_bowl [.ref 0, .int x] (shp u) I J q := by
  have w2 : I 2 2 = I 49 2 := hW.2.2.1
  rw [e_X11_bowl, p_X11_isHead, w2]
  refine ⟨fun h => ?_, fun h => by rw [p_X11_bad]; exact ⟨rfl, hn (b0n h)⟩⟩
  have g1 := b0p h
  have fin := hy g1
  unfold a_bwl at fin
  refine p_X11_kinds hW hV g1 _ (fun I1 hF1 => ?_)
  have hm := kmask_lt (fun kd => ∀ k : Nat, (k : Int) < (I 49 3).toInt → fit (I 49) x kd k)
  generalize kmask (fun kd => ∀ k : Nat, (k : Int) < (I 49 3).toInt → fit (I 49) x kd k) = m at hm fin ⊢
  have em : (nI m = 0) = (m = 0) := mI_eq (a := m) (b := 0) (by omega) (by omega)
  rw [em]
  refine ⟨fun hm0 => ?_, fun hm0 => ?_⟩
  · rw [if_neg hm0] at fin
    refine zlp 3 (fun j L I' J' => (∃ o, L = [some (.ref 0), some (.int x), some (.int (nI m)), some (.int (bwl (I 49) (I 49 (28 + 2 * x.toInt.toNat)) m 7 j).1), some (.int (bwl (I 49) (I 49 (28 + 2 * x.toInt.toNat)) m 7 j).2), some (.int (nI (j + 1))), o]) ∧ FC I I' ∧ J' = J) ?_ ?_ _ _ _ ⟨⟨none, rfl⟩, FC_33 hF1, rfl⟩
    · rintro j hj r L I' J' ⟨⟨o, rfl⟩, hF, rfl⟩ hr
      rw [g_X11_bowl_36]
      refine ⟨fun h => absurd (show nI 3 < nI (j + 1) from h) (by rw [mI_lt (by omega) (by omega)]; omega), fun _ => ?_⟩
      refine c_most (Wd_q hW (Fr_C hF)) hV hm g1 (by rw [i_nI _ (by omega)]; omega) _ (fun I3 hF3 => ?_)
      refine ⟨fun z => ?_, fun z => ?_⟩
      · have st : bwl (I 49) (I 49 (28 + 2 * x.toInt.toNat)) m 7 (j + 1) = bwl (I 49) (I 49 (28 + 2 * x.toInt.toNat)) m 7 j := if_neg (by rw [i_lt]; rw [i_le] at z; omega)
        rw [g_X11_bowl_66, mI_one, ← st]
        exact hr _ _ _ ⟨⟨none, rfl⟩, FC_tr hF hF3, rfl⟩
      · have st : bwl (I 49) (I 49 (28 + 2 * x.toInt.toNat)) m 7 (j + 1) = (nI (j + 1), (bst (I 49) (I 49 (28 + 2 * x.toInt.toNat)) (nI (j + 1)) m 6).2) := if_pos (by rw [i_lt]; rw [i_le] at z; omega)
        rw [g_X11_bowl_66, mI_one]
        exact hr _ _ _ ⟨⟨none, by rw [st]⟩, FC_tr hF hF3, rfl⟩
    · rintro r L I' J' ⟨⟨o, rfl⟩, hF, rfl⟩
      rw [g_X11_bowl_36]
      exact ⟨fun _ => ⟨rfl, fin I' (Fr_C hF)⟩, fun h => absurd (show nI 3 < nI (3 + 1) by decide) h⟩
  · rw [if_pos hm0] at fin
    exact ⟨rfl, fin I1 (Fr_33 hF1)⟩
