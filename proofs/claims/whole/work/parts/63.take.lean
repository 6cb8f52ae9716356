/-! ===== the reference takes ===== -/
def FT (I I' : ZI) : Prop := (∀ a, a ≠ 48 → a ≠ 59 → a ≠ 60 → I' a = I a) ∧ ∀ k, ¬ (16 ≤ k ∧ k ≤ 19) → I' 48 k = I 48 k
theorem FT_rf (I : ZI) : FT I I := ⟨fun _ _ _ _ => rfl, fun _ _ => rfl⟩
theorem FT_4 {I I' : ZI} (h : F4 I I') : FT I I' := ⟨fun a ha _ _ => h.1 a ha, h.2⟩
theorem FT_tr {I I1 I2 : ZI} (h : FT I I1) (h2 : FT I1 I2) : FT I I2 := ⟨fun a a1 a2 a3 => by rw [h2.1 a a1 a2 a3, h.1 a a1 a2 a3], fun k hk => by rw [h2.2 k hk, h.2 k hk]⟩
theorem FT_u (I : ZI) {a : Nat} (h : a = 59 ∨ a = 60) (k : Nat) (v : Int32) : FT I (zu I a k v) := ⟨fun b h1 h2 h3 => zu_ne _ _ _ (by omega), fun j _ => by rw [zu_ne _ _ _ (by omega)]⟩
theorem Tq_t {I I' : ZI} {n : Nat} {T : Nat → Int32} (h : Tq I n T) (hF : FT I I') : Tq I' n T := ⟨by rw [hF.2 15 (by omega)]; exact h.1, h.2.1, fun i hi => by rw [hF.1 58 (by decide) (by decide) (by decide)]; exact h.2.2 i hi⟩
theorem tkn_rg (n : Nat) (T : Nat → Int32) (p : Nat) : tkn n T p ≤ 4 := by
  unfold tkn
  by_cases h : tS n T p = 2 ∧ 2 < tE n T p - tA n T p
  · rw [if_pos h]; omega
  · rw [if_neg h]; exact tS_rg n T p
theorem tkn_1 (n : Nat) (T : Nat → Int32) (p : Nat) : (tkn n T p = 1) = (tS n T p = 1) := by
  unfold tkn
  apply propext
  by_cases h : tS n T p = 2 ∧ 2 < tE n T p - tA n T p
  · rw [if_pos h]; omega
  · rw [if_neg h]
theorem tkn_3 (n : Nat) (T : Nat → Int32) (p : Nat) : (tkn n T p = 3) = (tS n T p = 3) := by
  unfold tkn
  apply propext
  by_cases h : tS n T p = 2 ∧ 2 < tE n T p - tA n T p
  · rw [if_pos h]; omega
  · rw [if_neg h]
theorem tkn_0 (n : Nat) (T : Nat → Int32) (p : Nat) : (tkn n T p = 0) = (tS n T p = 0) := by
  unfold tkn
  apply propext
  by_cases h : tS n T p = 2 ∧ 2 < tE n T p - tA n T p
  · rw [if_pos h]; omega
  · rw [if_neg h]
theorem tkn_2 (n : Nat) (T : Nat → Int32) (p : Nat) : (tkn n T p = 2) = (tS n T p = 2 ∧ tE n T p - tA n T p ≤ 2) := by
  unfold tkn
  apply propext
  by_cases h : tS n T p = 2 ∧ 2 < tE n T p - tA n T p
  · rw [if_pos h]; omega
  · rw [if_neg h]; omega
variable {u : Nat} {I : ZI} {J : ZJ}
def bsl (x2 x3 x4 x5 x6 x7 : Int32) (k : Nat) : Int32 := if k = 0 then x2 else if k = 1 then x3 else if k = 2 then x4 else if k = 3 then x5 else if k = 4 then x6 else x7
theorem m_word {n p : Nat} {T : Nat → Int32} (h : Tq I n T) (hp : p ≤ n) (hT : RT I n T p) {sz : Nat} (hz : sz ≤ 6) (x2 x3 x4 x5 x6 x7 : Int32) (q : YQi) (hq : q I J (bI ((tS n T p = 1 ∧ tE n T p - tA n T p = sz) ∧ ∀ k, k < sz → T (tA n T p + k) = bsl x2 x3 x4 x5 x6 x7 k))) :
    u_X12_isWord [.ref 48, .int (nI sz), .int x2, .int x3, .int x4, .int x5, .int x6, .int x7] (shp u) I J q := by
  have hn := h.2.1
  have he := tE_rg T hp
  have hk4 := tkn_rg n T p
  have q1 : (nI (tkn n T p) = 1) = (tS n T p = 1) := (mI_eq (b := 1) (by omega) (by omega)).trans (tkn_1 n T p)
  have loop : ∀ (P : Prop), (P ↔ (tS n T p = 1 ∧ tE n T p - tA n T p = sz)) → ∀ o8 o9, b_X12_isWord_21  (qi (shp u) q) [some (.ref 48), some (.int (nI sz)), some (.int x2), some (.int x3), some (.int x4), some (.int x5), some (.int x6), some (.int x7), o8, o9] [.int (bI P)] (shp u) I J := by
    intro P hP o8 o9
    rw [g_X12_isWord_21]
    have stop : ∀ (k : Nat) (o9 : Option Value), (((tS n T p = 1 ∧ tE n T p - tA n T p = sz) ∧ ∀ i, i < k → T (tA n T p + i) = bsl x2 x3 x4 x5 x6 x7 i) ↔ ((tS n T p = 1 ∧ tE n T p - tA n T p = sz) ∧ ∀ i, i < sz → T (tA n T p + i) = bsl x2 x3 x4 x5 x6 x7 i)) → b_X12_isWord_119  (qi (shp u) q) [some (.ref 48), some (.int (nI sz)), some (.int x2), some (.int x3), some (.int x4), some (.int x5), some (.int x6), some (.int x7), some (.int (bI ((tS n T p = 1 ∧ tE n T p - tA n T p = sz) ∧ ∀ i, i < k → T (tA n T p + i) = bsl x2 x3 x4 x5 x6 x7 i))), o9] [] (shp u) I J := by
      intro k o9 hk
      rw [g_X12_isWord_119, propext hk, bI_01]
      exact ⟨trivial, rfl, hq⟩
    have e0 : bI P = bI ((tS n T p = 1 ∧ tE n T p - tA n T p = sz) ∧ ∀ i, i < 0 → T (tA n T p + i) = bsl x2 x3 x4 x5 x6 x7 i) := by
      rw [propext hP]; congr 1; exact propext ⟨fun z => ⟨z, fun i hi => absurd hi (by omega)⟩, fun z => z.1⟩
    rw [e0]
    refine zlp sz (fun k L I' J' => L = [some (.ref 48), some (.int (nI sz)), some (.int x2), some (.int x3), some (.int x4), some (.int x5), some (.int x6), some (.int x7), some (.int (bI ((tS n T p = 1 ∧ tE n T p - tA n T p = sz) ∧ ∀ i, i < k → T (tA n T p + i) = bsl x2 x3 x4 x5 x6 x7 i))), some (.int (nI k))] ∧ I' = I ∧ J' = J) ?_ ?_ _ _ _ ⟨rfl, rfl, rfl⟩
    · rintro k hk r L I' J' ⟨rfl, rfl, rfl⟩ hr
      rw [g_X12_isWord_26]
      refine ⟨fun z => absurd z (mI_ge hk (by omega)), fun _ => ⟨fun z => ?_, fun z => ?_⟩⟩
      · have hno := b0n z
        exact stop k _ ⟨fun y => absurd y hno, fun y => ⟨y.1, fun i hi => y.2 i (by omega)⟩⟩
      · have hye := b0p z
        have hT2 := hye.1
        rw [hT.1, mI_add, mI_nat (by omega), h.2.2 _ (by omega)]
        refine ⟨mI_in (by omega) (by omega), ?_⟩
        have next : ∀ (y1 : Int32) (o8 : Option Value), y1 = bsl x2 x3 x4 x5 x6 x7 k → b_X12_isWord_103  (qi (shp u) q) r [some (.ref 48), some (.int (nI sz)), some (.int x2), some (.int x3), some (.int x4), some (.int x5), some (.int x6), some (.int x7), o8, some (.int (nI k))] [.int y1, .int (T (tA n T p + k))] (shp u) I' J' := by
          intro y1 o8 hy1
          rw [g_X12_isWord_103, hy1, g_X12_isWord_111, g_X12_isWord_111, mI_one]
          refine ⟨fun w => ?_, fun w => ?_⟩
          · refine hr _ _ _ ⟨?_, rfl, rfl⟩
            rw [bI_f (fun v => w (v.2 k (by omega)))]
          · have hall : ∀ i, i < k + 1 → T (tA n T p + i) = bsl x2 x3 x4 x5 x6 x7 i := fun i hi => by
              by_cases hik : i = k
              · subst hik; exact w
              · exact hye.2 i (by omega)
            refine hr _ _ _ ⟨?_, rfl, rfl⟩
            rw [bI_t ⟨hT2, hall⟩]
        have f0 : (nI k = 0) = (k = 0) := mI_eq (b := 0) (by omega) (by omega)
        have f1 : (nI k = 1) = (k = 1) := mI_eq (b := 1) (by omega) (by omega)
        have f2 : (nI k = 2) = (k = 2) := mI_eq (b := 2) (by omega) (by omega)
        have f3 : (nI k = 3) = (k = 3) := mI_eq (b := 3) (by omega) (by omega)
        have f4 : (nI k = 4) = (k = 4) := mI_eq (b := 4) (by omega) (by omega)
        rw [f0, f1, f2, f3, f4]
        refine ⟨fun g0 => ⟨fun g1 => ⟨fun g2 => ⟨fun g3 => ⟨fun g4 => next _ _ ?_, fun g4 => next _ _ ?_⟩, fun g3 => next _ _ ?_⟩, fun g2 => next _ _ ?_⟩, fun g1 => next _ _ ?_⟩, fun g0 => next _ _ ?_⟩
        · unfold bsl; rw [if_neg g0, if_neg g1, if_neg g2, if_neg g3, if_neg g4]
        · unfold bsl; rw [if_neg g0, if_neg g1, if_neg g2, if_neg g3, if_pos g4]
        · unfold bsl; rw [if_neg g0, if_neg g1, if_neg g2, if_pos g3]
        · unfold bsl; rw [if_neg g0, if_neg g1, if_pos g2]
        · unfold bsl; rw [if_neg g0, if_pos g1]
        · unfold bsl; rw [if_pos g0]
    · rintro r L I' J' ⟨rfl, rfl, rfl⟩
      rw [g_X12_isWord_26]
      exact ⟨fun _ => stop sz _ Iff.rfl, fun z => absurd (mI_rf sz) z⟩
  rw [e_X12_isWord, hT.2.2.1, hT.2.1, q1, mI_eq (by omega) (by omega), g_X12_isWord_20]
  refine ⟨fun z => ?_, fun z => ⟨fun z2 => ?_, fun z2 => ?_⟩⟩
  · have := loop False ⟨fun y => y.elim, fun y => z y.1⟩ none none
    rw [bI_f (fun y => y)] at this; exact this
  · have := loop False ⟨fun y => y.elim, fun y => z2 y.2⟩ none none
    rw [bI_f (fun y => y)] at this; exact this
  · have := loop True ⟨fun _ => ⟨z, z2⟩, fun _ => trivial⟩ none none
    rw [bI_t trivial] at this; exact this
theorem isW_b {n p j : Nat} {T : Nat → Int32} {sz : Nat} {x2 x3 x4 x5 x6 x7 : Int32} (hl : wlen j = sz) (hb : ∀ k, k < sz → wby j k = bsl x2 x3 x4 x5 x6 x7 k) : ((tS n T p = 1 ∧ tE n T p - tA n T p = sz) ∧ ∀ k, k < sz → T (tA n T p + k) = bsl x2 x3 x4 x5 x6 x7 k) = isW n T p j := by
  unfold isW; rw [hl]
  exact propext ⟨fun z => ⟨z.1.1, z.1.2, fun k hk => (z.2 k hk).trans (hb k hk).symm⟩, fun z => ⟨⟨z.1, z.2.1⟩, fun k hk => (z.2.2 k hk).trans (hb k hk)⟩⟩
theorem m_isw_1 {n p : Nat} {T : Nat → Int32} (h : Tq I n T) (hp : p ≤ n) (hT : RT I n T p) (q : YQi) (hq : q I J (bI (isW n T p 1))) : u_X12_isWord [.ref 48, .int 4, .int 114, .int 111, .int 97, .int 100, .int 0, .int 0] (shp u) I J q := by
  refine m_word (sz := 4) h hp hT (by omega) _ _ _ _ _ _ q ?_
  rw [isW_b (j := 1) (sz := 4) rfl (by
    intro k hk
    have hc : k = 0 ∨ k = 1 ∨ k = 2 ∨ k = 3 := by omega
    rcases hc with rfl | rfl | rfl | rfl <;> rfl)]
  exact hq
theorem m_isw_2 {n p : Nat} {T : Nat → Int32} (h : Tq I n T) (hp : p ≤ n) (hT : RT I n T p) (q : YQi) (hq : q I J (bI (isW n T p 2))) : u_X12_isWord [.ref 48, .int 6, .int 99, .int 111, .int 98, .int 98, .int 108, .int 101] (shp u) I J q := by
  refine m_word (sz := 6) h hp hT (by omega) _ _ _ _ _ _ q ?_
  rw [isW_b (j := 2) (sz := 6) rfl (by
    intro k hk
    have hc : k = 0 ∨ k = 1 ∨ k = 2 ∨ k = 3 ∨ k = 4 ∨ k = 5 := by omega
    rcases hc with rfl | rfl | rfl | rfl | rfl | rfl <;> rfl)]
  exact hq
theorem m_isw_3 {n p : Nat} {T : Nat → Int32} (h : Tq I n T) (hp : p ≤ n) (hT : RT I n T p) (q : YQi) (hq : q I J (bI (isW n T p 3))) : u_X12_isWord [.ref 48, .int 4, .int 104, .int 111, .int 108, .int 101, .int 0, .int 0] (shp u) I J q := by
  refine m_word (sz := 4) h hp hT (by omega) _ _ _ _ _ _ q ?_
  rw [isW_b (j := 3) (sz := 4) rfl (by
    intro k hk
    have hc : k = 0 ∨ k = 1 ∨ k = 2 ∨ k = 3 := by omega
    rcases hc with rfl | rfl | rfl | rfl <;> rfl)]
  exact hq
theorem m_isw_4 {n p : Nat} {T : Nat → Int32} (h : Tq I n T) (hp : p ≤ n) (hT : RT I n T p) (q : YQi) (hq : q I J (bI (isW n T p 4))) : u_X12_isWord [.ref 48, .int 4, .int 119, .int 105, .int 110, .int 100, .int 0, .int 0] (shp u) I J q := by
  refine m_word (sz := 4) h hp hT (by omega) _ _ _ _ _ _ q ?_
  rw [isW_b (j := 4) (sz := 4) rfl (by
    intro k hk
    have hc : k = 0 ∨ k = 1 ∨ k = 2 ∨ k = 3 := by omega
    rcases hc with rfl | rfl | rfl | rfl <;> rfl)]
  exact hq
theorem m_isw_5 {n p : Nat} {T : Nat → Int32} (h : Tq I n T) (hp : p ≤ n) (hT : RT I n T p) (q : YQi) (hq : q I J (bI (isW n T p 5))) : u_X12_isWord [.ref 48, .int 4, .int 108, .int 117, .int 108, .int 108, .int 0, .int 0] (shp u) I J q := by
  refine m_word (sz := 4) h hp hT (by omega) _ _ _ _ _ _ q ?_
  rw [isW_b (j := 5) (sz := 4) rfl (by
    intro k hk
    have hc : k = 0 ∨ k = 1 ∨ k = 2 ∨ k = 3 := by omega
    rcases hc with rfl | rfl | rfl | rfl <;> rfl)]
  exact hq
theorem m_isw_6 {n p : Nat} {T : Nat → Int32} (h : Tq I n T) (hp : p ≤ n) (hT : RT I n T p) (q : YQi) (hq : q I J (bI (isW n T p 6))) : u_X12_isWord [.ref 48, .int 4, .int 104, .int 101, .int 97, .int 100, .int 0, .int 0] (shp u) I J q := by
  refine m_word (sz := 4) h hp hT (by omega) _ _ _ _ _ _ q ?_
  rw [isW_b (j := 6) (sz := 4) rfl (by
    intro k hk
    have hc : k = 0 ∨ k = 1 ∨ k = 2 ∨ k = 3 := by omega
    rcases hc with rfl | rfl | rfl | rfl <;> rfl)]
  exact hq
theorem m_isw_7 {n p : Nat} {T : Nat → Int32} (h : Tq I n T) (hp : p ≤ n) (hT : RT I n T p) (q : YQi) (hq : q I J (bI (isW n T p 7))) : u_X12_isWord [.ref 48, .int 4, .int 98, .int 101, .int 110, .int 116, .int 0, .int 0] (shp u) I J q := by
  refine m_word (sz := 4) h hp hT (by omega) _ _ _ _ _ _ q ?_
  rw [isW_b (j := 7) (sz := 4) rfl (by
    intro k hk
    have hc : k = 0 ∨ k = 1 ∨ k = 2 ∨ k = 3 := by omega
    rcases hc with rfl | rfl | rfl | rfl <;> rfl)]
  exact hq
theorem m_takes {n p : Nat} {T : Nat → Int32} (h : Tq I n T) (hp : p ≤ n) (hT : RT I n T p) {k : Nat} (hk : k < 2) (lo hi : Int32) (q : YQi)
    (hy : numk n T p lo hi → ∀ I', FT I I' → I' 59 = I 59 → I' 60 k = nvl n T p → (∀ j, j ≠ k → I' 60 j = I 60 j) → RT I' n T (tE n T p) → q I' J 1) (hn : ¬ numk n T p lo hi → q I J 0) :
    u_X12_takes [.ref 48, .int (nI k), .int lo, .int hi] (shp u) I J q := by
  have hk4 := tkn_rg n T p
  have he := tE_rg T hp
  have q2 : (nI (tkn n T p) = 2) = (tS n T p = 2 ∧ tE n T p - tA n T p ≤ 2) := (mI_eq (b := 2) (by omega) (by omega)).trans (tkn_2 n T p)
  rw [e_X12_takes, hT.2.2.1, q2, g_X12_takes_23]
  refine ⟨fun z => ⟨Or.inl rfl, rfl, hn (fun y => z ⟨y.1, y.2.1⟩)⟩, fun z => ?_⟩
  have ev : I 48 19 = nvl n T p := by
    rw [hT.2.2.2]; unfold tvl nvl
    rw [if_pos z.1, show min 2 (tE n T p - tA n T p) = tE n T p - tA n T p by omega]
  rw [p_X12_in, ij_to, ij_to, ij_to, ev]
  refine ⟨fun y => ?_, fun y => ⟨Or.inl rfl, rfl, hn (fun w => b0n y ⟨w.2.2.1, w.2.2.2⟩)⟩⟩
  have hnum : numk n T p lo hi := ⟨z.1, z.2, (b0p y).1, (b0p y).2⟩
  rw [mI_nat (by omega)]
  refine ⟨mI_in hk (by omega), ?_⟩
  have hF1 : FT I (zu I 60 k (nvl n T p)) := FT_u I (by omega) _ _
  refine p_goB (Tq_t h hF1) hp (by unfold RT; rw [zu_ne _ _ _ (by decide)]; exact hT) _ (fun I2 hF2 hR2 => ⟨Or.inr rfl, rfl, hy hnum I2 (FT_tr hF1 (FT_4 hF2)) ?_ ?_ ?_ hR2⟩)
  · rw [hF2.1 59 (by decide), zu_ne _ _ _ (by decide)]
  · rw [hF2.1 60 (by decide), zu_rd, if_pos rfl, if_pos rfl]
  · intro j hj; rw [hF2.1 60 (by decide), zu_rd, if_pos rfl, if_neg hj]
theorem m_ttwo {n p : Nat} {T : Nat → Int32} (h : Tq I n T) (hp : p ≤ n) (hT : RT I n T p) (hi1 lo2 hi2 : Int32) (q : YQi)
    (hN : ∀ I' a, FT I I' → I' 59 = I 59 → I' 48 16 = nI a → ptwo n T (tE n T p) 0 hi1 lo2 hi2 = .inl a → q I' J 0)
    (hG : ∀ I', FT I I' → I' 59 = I 59 → RT I' n T (tE n T (tE n T (tE n T p))) → I' 60 0 = nvl n T (tE n T p) → I' 60 1 = nvl n T (tE n T (tE n T p)) → numk n T (tE n T p) 0 hi1 → numk n T (tE n T (tE n T p)) lo2 hi2 → q I' J 1) :
    u_X12_takesTwo [.ref 48, .int hi1, .int lo2, .int hi2] (shp u) I J q := by
  have a1 := tE_rg T hp
  have a2 := tE_rg T a1.2.1
  rw [e_X12_takesTwo]
  refine p_goB h hp hT _ (fun I1 hF1 hR1 => ?_)
  have hq1 := Tq_f h hF1
  refine m_takes (k := 0) hq1 a1.2.1 hR1 (by omega) 0 hi1 _ (fun hk I2 f1 f2 f3 f4 f5 => ⟨fun z => absurd z (by decide), fun _ => ?_⟩) (fun hk => ⟨fun _ => ?_, fun z => absurd rfl z⟩)
  · have hq2 := Tq_t hq1 f1
    refine m_takes (k := 1) hq2 a2.2.1 f5 (by omega) lo2 hi2 _ (fun hk2 I3 g1 g2 g3 g4 g5 => ⟨fun z => absurd z (by decide), fun _ => ?_⟩) (fun hk2 => ⟨fun _ => ?_, fun z => absurd rfl z⟩)
    · rw [g_X12_takesTwo_29]
      exact ⟨Or.inr rfl, rfl, hG I3 (FT_tr (FT_4 hF1) (FT_tr f1 g1)) (by rw [g2, f2, hF1.1 59 (by decide)]) g5 (by rw [g4 0 (by omega), f3]) g3 hk hk2⟩
    · rw [g_X12_takesTwo_28, g_X12_takesTwo_29]
      exact ⟨Or.inl rfl, rfl, hN I2 _ (FT_tr (FT_4 hF1) f1) (by rw [f2, hF1.1 59 (by decide)]) f5.1 (by unfold ptwo; rw [cIf_t hk, cIf_f hk2])⟩
  · rw [g_X12_takesTwo_28, g_X12_takesTwo_29]
    exact ⟨Or.inl rfl, rfl, hN I1 _ (FT_4 hF1) (hF1.1 59 (by decide)) hR1.1 (by unfold ptwo; rw [cIf_f hk])⟩
theorem ptwo_e {n p : Nat} {T : Nat → Int32} {lo1 hi1 lo2 hi2 : Int32} (h1 : numk n T p lo1 hi1) (h2 : numk n T (tE n T p) lo2 hi2) : (tS n T (tE n T (tE n T p)) = 3 → ptwo n T p lo1 hi1 lo2 hi2 = .inr (nvl n T p, nvl n T (tE n T p), tE n T (tE n T (tE n T p)))) ∧ (¬ tS n T (tE n T (tE n T p)) = 3 → ptwo n T p lo1 hi1 lo2 hi2 = .inl (tA n T (tE n T (tE n T p)))) := by
  unfold ptwo
  rw [cIf_t h1, cIf_t h2]
  exact ⟨fun z => cIf_t z, fun z => cIf_f z⟩
/-- what a taken item leaves -/
def Mok (n : Nat) (T : Nat → Int32) (I' : ZI) (R : Nat ⊕ ((Nat → Int32) × Nat)) : Prop := ∃ D' p3, RT I' n T p3 ∧ p3 ≤ n ∧ (∀ k, k < 66 → I' 59 k = D' k) ∧ (tS n T p3 = 3 → R = .inr (D', tE n T p3)) ∧ (¬ tS n T p3 = 3 → R = .inl (tA n T p3))
theorem RT_ne {I I' : ZI} {n p : Nat} {T : Nat → Int32} (h : RT I n T p) (e : I' 48 = I 48) : RT I' n T p := by unfold RT; rw [e]; exact h
theorem m_cob {n p : Nat} {T D : Nat → Int32} (h : Tq I n T) (hp : p ≤ n) (hT : RT I n T p) (hM : ∀ k, k < 66 → I 59 k = D k) (hD : Dr D) (sg : Int32) (q : YQi)
    (hN : ∀ I' a, FT I I' → I' 48 16 = nI a → mpr (efC D sg) (ptwo n T (tE n T p) 0 (D 0) 0 4) = .inl a → q I' J 0)
    (hY : ∀ I', FT I I' → Mok n T I' (mpr (efC D sg) (ptwo n T (tE n T p) 0 (D 0) 0 4)) → q I' J 1) : u_X12_takesCobble [.ref 48, .int sg] (shp u) I J q := by
  have a1 := tE_rg T hp
  have a2 := tE_rg T a1.2.1
  have a3 := tE_rg T a2.2.1
  have z0 : (0 : Int32).toInt = 0 := rfl
  rw [e_X12_takesCobble, hM 0 (by omega)]
  refine m_ttwo h hp hT _ _ _ _ (fun I' a f1 f2 f3 f4 => ⟨fun z => absurd rfl z, fun _ => ⟨Or.inl rfl, rfl, hN I' a f1 f3 (by rw [f4]; rfl)⟩⟩) (fun I' f1 f2 f3 f4 f5 k1 k2 => ⟨fun _ => ?_, fun z => absurd z (by decide)⟩)
  have hx : (0 : Int32).toInt ≤ (nvl n T (tE n T p)).toInt ∧ (nvl n T (tE n T p)).toInt ≤ (D 0).toInt := k1.2.2
  have hv0 := hD.1.1
  rw [z0] at hx
  have hi : vp_in ((5 : Int32) + nvl n T (tE n T p)) 66 := ix_in (a := 5) ⟨hx.1, by omega⟩ (by omega) (by omega)
  have ha : ((5 : Int32) + nvl n T (tE n T p)).toNatClampNeg = 5 + (nvl n T (tE n T p)).toInt.toNat := ix_at (a := 5) ⟨hx.1, by omega⟩ (by omega)
  obtain ⟨e1, e2⟩ := ptwo_e k1 k2
  rw [f4, f5, ha]
  refine ⟨hi, Or.inr rfl, rfl, hY _ (FT_tr f1 (FT_u _ (by omega) _ _)) ⟨efC D sg (nvl n T (tE n T p)) (nvl n T (tE n T (tE n T p))), _, RT_ne f3 (zu_ne _ _ _ (by decide)), a3.2.1, fun k hk => ?_, fun z => by rw [e1 z]; rfl, fun z => by rw [e2 z]; rfl⟩⟩
  rw [zu_rd, if_pos rfl, f2]
  unfold efC updn
  by_cases hkk : k = 5 + (nvl n T (tE n T p)).toInt.toNat
  · rw [if_pos hkk, if_pos hkk]
  · rw [if_neg hkk, if_neg hkk]; exact hM k hk
theorem m_win {n p : Nat} {T D : Nat → Int32} (h : Tq I n T) (hp : p ≤ n) (hT : RT I n T p) (hM : ∀ k, k < 66 → I 59 k = D k) (sg : Int32) (q : YQi)
    (hN : ∀ I' a, FT I I' → I' 48 16 = nI a → mpr (efW D sg) (ptwo n T (tE n T p) 0 5 0 3) = .inl a → q I' J 0)
    (hY : ∀ I', FT I I' → Mok n T I' (mpr (efW D sg) (ptwo n T (tE n T p) 0 5 0 3)) → q I' J 1) : u_X12_takesWind [.ref 48, .int sg] (shp u) I J q := by
  have a1 := tE_rg T hp
  have a2 := tE_rg T a1.2.1
  have a3 := tE_rg T a2.2.1
  have z0 : (0 : Int32).toInt = 0 := rfl
  have z5 : (5 : Int32).toInt = 5 := rfl
  rw [e_X12_takesWind]
  refine m_ttwo h hp hT _ _ _ _ (fun I' a f1 f2 f3 f4 => ⟨fun z => absurd rfl z, fun _ => ⟨Or.inl rfl, rfl, hN I' a f1 f3 (by rw [f4]; rfl)⟩⟩) (fun I' f1 f2 f3 f4 f5 k1 k2 => ⟨fun _ => ?_, fun z => absurd z (by decide)⟩)
  have hx : (0 : Int32).toInt ≤ (nvl n T (tE n T p)).toInt ∧ (nvl n T (tE n T p)).toInt ≤ (5 : Int32).toInt := k1.2.2
  rw [z0, z5] at hx
  have hi : vp_in ((21 : Int32) + nvl n T (tE n T p)) 66 := ix_in (a := 21) ⟨hx.1, by omega⟩ (by omega) (by omega)
  have ha : ((21 : Int32) + nvl n T (tE n T p)).toNatClampNeg = 21 + (nvl n T (tE n T p)).toInt.toNat := ix_at (a := 21) ⟨hx.1, by omega⟩ (by omega)
  obtain ⟨e1, e2⟩ := ptwo_e k1 k2
  rw [f4, f5, ha]
  refine ⟨hi, Or.inr rfl, rfl, hY _ (FT_tr f1 (FT_u _ (by omega) _ _)) ⟨efW D sg (nvl n T (tE n T p)) (nvl n T (tE n T (tE n T p))), _, RT_ne f3 (zu_ne _ _ _ (by decide)), a3.2.1, fun k hk => ?_, fun z => by rw [e1 z]; rfl, fun z => by rw [e2 z]; rfl⟩⟩
  rw [zu_rd, if_pos rfl, f2]
  unfold efW updn
  by_cases hkk : k = 21 + (nvl n T (tE n T p)).toInt.toNat
  · rw [if_pos hkk, if_pos hkk]
  · rw [if_neg hkk, if_neg hkk]; exact hM k hk
theorem p_lay59 {m : Nat} (h2 : I 59 2 = nI m) (hm : m < 5) (x y : Int32) (q : YQv) (hq : q (zu (zu (zu I 59 (27 + 2 * m) x) 59 (28 + 2 * m) y) 59 2 (I 59 2 + 1)) J) : u_X12_layHead [.ref 59, .int x, .int y] (shp u) I J q := by
  have e1 : (27 : Int32) + (2 : Int32) * nI m = nI (27 + 2 * m) := by
    have x1 : (2 : Int32) * nI m = nI (2 * m) := mI_mul 2 m
    have x2 : (27 : Int32) + nI (2 * m) = nI (27 + 2 * m) := mI_add 27 (2 * m)
    rw [x1, x2]
  have e2 : nI (27 + 2 * m) + 1 = nI (28 + 2 * m) := (mI_add _ 1).trans (congrArg nI (by omega))
  have r2 : zu I 59 (27 + 2 * m) x 59 2 = nI m := by rw [zu_rd, if_pos rfl, if_neg (by omega), h2]
  have r3 : zu (zu I 59 (27 + 2 * m) x) 59 (28 + 2 * m) y 59 2 = I 59 2 := by rw [zu_rd, if_pos rfl, if_neg (by omega), zu_rd, if_pos rfl, if_neg (by omega)]
  rw [e_X12_layHead_a, h2, e1, mI_nat (k := 27 + 2 * m) (by omega), r2, e1, e2, mI_nat (k := 28 + 2 * m) (by omega), r3]
  exact ⟨mI_in (by omega) (by omega), mI_in (by omega) (by omega), rfl, hq⟩
theorem m_hd {n p : Nat} {T D : Nat → Int32} (h : Tq I n T) (hp : p ≤ n) (hT : RT I n T p) (hM : ∀ k, k < 66 → I 59 k = D k) (hD : Dr D) (sg : Int32) (q : YQi)
    (hN : ∀ I' a, FT I I' → I' 48 16 = nI a → phd n T D p sg = .inl a → q I' J 0)
    (hY : ∀ I', FT I I' → Mok n T I' (phd n T D p sg) → q I' J 1) : u_X12_takesHead [.ref 48, .int sg] (shp u) I J q := by
  have a1 := tE_rg T hp
  have a2 := tE_rg T a1.2.1
  have a3 := tE_rg T a2.2.1
  have hh := hD.1.2.2.1
  rw [e_X12_takesHead, hM 2 (by omega)]
  refine ⟨fun h5 => ?_, fun h5 => ?_⟩
  · rw [g_X12_takesHead_21]
    exact ⟨Or.inl rfl, rfl, hN I _ (FT_rf I) hT.1 (cIf_t h5)⟩
  · have ep : phd n T D p sg = mpr (efH D sg) (ptwo n T (tE n T p) 0 5 0 12) := cIf_f h5
    rw [ep] at hN hY
    have e5 : (5 : Int32).toInt = 5 := rfl
    have hlt : (D 2).toInt < 5 := by
      rcases Int.lt_or_le (D 2).toInt 5 with z | z
      · exact z
      · exact absurd (i_ext (by rw [e5]; omega)) h5
    refine m_ttwo h hp hT _ _ _ _ (fun I' a f1 f2 f3 f4 => ⟨fun z => absurd rfl z, fun _ => ?_⟩) (fun I' f1 f2 f3 f4 f5 k1 k2 => ⟨fun _ => ?_, fun z => absurd z (by decide)⟩)
    · rw [g_X12_takesHead_21]
      exact ⟨Or.inl rfl, rfl, hN I' a f1 f3 (by rw [f4]; rfl)⟩
    · obtain ⟨e1, e2⟩ := ptwo_e k1 k2
      have ed : D 2 = nI (D 2).toInt.toNat := mI_of hh.1
      have h59 : I' 59 2 = D 2 := by rw [f2]; exact hM 2 (by omega)
      rw [f4, f5]
      refine p_lay59 (m := (D 2).toInt.toNat) (by rw [h59]; exact ed) (by omega) _ _ _ ?_
      refine ⟨Or.inr rfl, rfl, hY _ (FT_tr f1 (FT_tr (FT_u _ (by omega) _ _) (FT_tr (FT_u _ (by omega) _ _) (FT_u _ (by omega) _ _)))) ⟨efH D sg (nvl n T (tE n T p)) (nvl n T (tE n T (tE n T p))), _, RT_ne f3 (by rw [zu_ne _ _ _ (by decide), zu_ne _ _ _ (by decide), zu_ne _ _ _ (by decide)]), a3.2.1, fun k hk => ?_, fun z => by rw [e1 z]; rfl, fun z => by rw [e2 z]; rfl⟩⟩
      rw [h59]
      simp only [zu_rd, reduceIte]
      unfold efH updn
      by_cases g1 : k = 2
      · rw [if_pos g1, if_pos g1]
      · rw [if_neg g1, if_neg g1]
        by_cases g2 : k = 28 + 2 * (D 2).toInt.toNat
        · rw [if_pos g2, if_pos g2]
        · rw [if_neg g2, if_neg g2]
          by_cases g3 : k = 27 + 2 * (D 2).toInt.toNat
          · rw [if_pos g3, if_pos g3]
          · rw [if_neg g3, if_neg g3, f2]; exact hM k hk
theorem m_item {n p : Nat} {T D : Nat → Int32} (h : Tq I n T) (hp : p ≤ n) (hT : RT I n T p) (hM : ∀ k, k < 66 → I 59 k = D k) (hD : Dr D) (q : YQi)
    (hN : ∀ I' a, FT I I' → I' 48 16 = nI a → pitem n T D p = .inl a → q I' J 0)
    (hY : ∀ I', FT I I' → Mok n T I' (pitem n T D p) → q I' J 1) : u_X12_takesItem [.ref 48] (shp u) I J q := by
  unfold pitem at hN hY
  rw [e_X12_takesItem]
  refine m_isw_2 h hp hT _ ⟨fun z => ?_, fun z => ?_⟩
  · rw [cIf_f (b0n z)] at hN hY
    refine m_isw_3 h hp hT _ ⟨fun z => ?_, fun z => ?_⟩
    · rw [cIf_f (b0n z)] at hN hY
      refine m_isw_4 h hp hT _ ⟨fun z => ?_, fun z => ?_⟩
      · rw [cIf_f (b0n z)] at hN hY
        refine m_isw_5 h hp hT _ ⟨fun z => ?_, fun z => ?_⟩
        · rw [cIf_f (b0n z)] at hN hY
          refine m_isw_6 h hp hT _ ⟨fun z => ?_, fun z => ?_⟩
          · rw [cIf_f (b0n z)] at hN hY
            refine m_isw_7 h hp hT _ ⟨fun z => ?_, fun z => ?_⟩
            · rw [cIf_f (b0n z)] at hN hY
              rw [g_X12_takesItem_153, g_X12_takesItem_154]
              exact ⟨Or.inl rfl, rfl, hN I _ (FT_rf I) hT.1 rfl⟩
            · rw [cIf_t (b0p z)] at hN hY
              refine m_hd h hp hT hM hD _ _ (fun I' a f1 f2 f3 => ⟨fun _ => ?_, fun y => absurd rfl y⟩) (fun I' f1 f2 => ⟨fun y => absurd y (by decide), fun _ => ?_⟩)
              · rw [g_X12_takesItem_153, g_X12_takesItem_154]
                exact ⟨Or.inl rfl, rfl, hN I' a f1 f2 f3⟩
              · rw [g_X12_takesItem_154]
                exact ⟨Or.inr rfl, rfl, hY I' f1 f2⟩
          · rw [cIf_t (b0p z)] at hN hY
            exact m_hd h hp hT hM hD _ _ (fun I' a f1 f2 f3 => ⟨Or.inl rfl, rfl, hN I' a f1 f2 f3⟩) (fun I' f1 f2 => ⟨Or.inr rfl, rfl, hY I' f1 f2⟩)
        · rw [cIf_t (b0p z)] at hN hY
          exact m_win h hp hT hM _ _ (fun I' a f1 f2 f3 => ⟨Or.inl rfl, rfl, hN I' a f1 f2 f3⟩) (fun I' f1 f2 => ⟨Or.inr rfl, rfl, hY I' f1 f2⟩)
      · rw [cIf_t (b0p z)] at hN hY
        exact m_win h hp hT hM _ _ (fun I' a f1 f2 f3 => ⟨Or.inl rfl, rfl, hN I' a f1 f2 f3⟩) (fun I' f1 f2 => ⟨Or.inr rfl, rfl, hY I' f1 f2⟩)
    · rw [cIf_t (b0p z)] at hN hY
      exact m_cob h hp hT hM hD _ _ (fun I' a f1 f2 f3 => ⟨Or.inl rfl, rfl, hN I' a f1 f2 f3⟩) (fun I' f1 f2 => ⟨Or.inr rfl, rfl, hY I' f1 f2⟩)
  · rw [cIf_t (b0p z)] at hN hY
    exact m_cob h hp hT hM hD _ _ (fun I' a f1 f2 f3 => ⟨Or.inl rfl, rfl, hN I' a f1 f2 f3⟩) (fun I' f1 f2 => ⟨Or.inr rfl, rfl, hY I' f1 f2⟩)
