/-! ===== the reference's tokens ===== -/
def tkn (n : Nat) (T : Nat → Int32) (p : Nat) : Nat := if tS n T p = 2 ∧ 2 < tE n T p - tA n T p then 4 else tS n T p
def tvl (n : Nat) (T : Nat → Int32) (p : Nat) : Int32 := if tS n T p = 2 then nvf T (tA n T p) (min 2 (tE n T p - tA n T p)) else 0
def Tq (I : ZI) (n : Nat) (T : Nat → Int32) : Prop := I 48 15 = nI n ∧ n ≤ 150 ∧ ∀ i, i < 150 → I 58 i = T i
def F4 (I I' : ZI) : Prop := (∀ a, a ≠ 48 → I' a = I a) ∧ ∀ k, ¬ (16 ≤ k ∧ k ≤ 19) → I' 48 k = I 48 k
theorem F4_rf (I : ZI) : F4 I I := ⟨fun _ _ => rfl, fun _ _ => rfl⟩
theorem F4_tr {I I1 I2 : ZI} (h : F4 I I1) (h2 : F4 I1 I2) : F4 I I2 := ⟨fun a ha => by rw [h2.1 a ha, h.1 a ha], fun k hk => by rw [h2.2 k hk, h.2 k hk]⟩
theorem F4_u (I : ZI) {k : Nat} (h : 16 ≤ k ∧ k ≤ 19) (v : Int32) : F4 I (zu I 48 k v) := ⟨fun a ha => zu_ne _ _ _ ha, fun j hj => by rw [zu_rd, if_pos rfl, if_neg (by omega)]⟩
theorem Tq_f {I I' : ZI} {n : Nat} {T : Nat → Int32} (h : Tq I n T) (hF : F4 I I') : Tq I' n T := ⟨by rw [hF.2 15 (by omega)]; exact h.1, h.2.1, fun i hi => by rw [hF.1 58 (by decide)]; exact h.2.2 i hi⟩
def RT (I : ZI) (n : Nat) (T : Nat → Int32) (p : Nat) : Prop := I 48 16 = nI (tA n T p) ∧ I 48 17 = nI (tE n T p - tA n T p) ∧ I 48 18 = nI (tkn n T p) ∧ I 48 19 = tvl n T p
variable {u : Nat} {I : ZI} {J : ZJ}
theorem p_small (c : Int32) (q : YQi) (hq : q I J (bI (srt c = 1))) : u_X12_isSmall [.int c] (shp u) I J q := by
  rw [e_X12_isSmall, p_X12_in, ij_to]
  have e : ((97 : Int64).toInt ≤ c.toInt ∧ c.toInt ≤ (122 : Int64).toInt) = (srt c = 1) := by
    show (97 ≤ c.toInt ∧ c.toInt ≤ 122) = _
    unfold srt
    apply propext
    by_cases h : 97 ≤ c.toInt ∧ c.toInt ≤ 122
    · rw [if_pos h]; exact ⟨fun _ => rfl, fun _ => h⟩
    · rw [if_neg h]
      refine ⟨fun z => absurd z h, fun z => ?_⟩
      split at z
      · omega
      · split at z <;> omega
  rw [e, bI_01]
  exact ⟨trivial, rfl, hq⟩
theorem p_fig (c : Int32) (q : YQi) (hq : q I J (bI (srt c = 2))) : u_X12_isFigure [.int c] (shp u) I J q := by
  rw [e_X12_isFigure, p_X12_in, ij_to]
  have e : ((48 : Int64).toInt ≤ c.toInt ∧ c.toInt ≤ (57 : Int64).toInt) = (srt c = 2) := by
    show (48 ≤ c.toInt ∧ c.toInt ≤ 57) = _
    unfold srt
    apply propext
    by_cases h : 97 ≤ c.toInt ∧ c.toInt ≤ 122
    · rw [if_pos h]; exact ⟨fun _ => by omega, fun z => by omega⟩
    · rw [if_neg h]
      by_cases h2 : 48 ≤ c.toInt ∧ c.toInt ≤ 57
      · rw [if_pos h2]; exact ⟨fun _ => rfl, fun _ => h2⟩
      · rw [if_neg h2]
        refine ⟨fun z => absurd z h2, fun z => ?_⟩
        split at z <;> omega
  rw [e, bI_01]
  exact ⟨trivial, rfl, hq⟩
theorem p_look {n p : Nat} {T : Nat → Int32} (h : Tq I n T) (hp : p ≤ n) (q : YQv) (hq : ∀ I', F4 I I' → RT I' n T p → q I' J) : u_X12_lookAt [.ref 48, .int (nI p)] (shp u) I J q := by
  have hn := h.2.1
  have ha := tA_rg T hp
  have he := tE_rg T hp
  have hsr := tS_rg n T p
  have s43 : ∀ I', F4 I I' → I' 48 16 = nI (tA n T p) → ∀ o1 o2 o3 o4, b_X12_lookAt_43 u_X12_isSmall u_X12_isFigure (qv (shp u) q) [some (.ref 48), o1, o2, o3, o4] [] (shp u) I' J := by
    intro I' hF h16 o1 o2 o3 o4
    have hT := Tq_f h hF
    rw [g_X12_lookAt_43, hT.1, h16, mI_eq (by omega) (by omega)]
    have hF0 : F4 I (zu (zu (zu I' 48 17 0) 48 18 0) 48 19 0) := F4_tr hF (F4_tr (F4_u _ (by omega) _) (F4_tr (F4_u _ (by omega) _) (F4_u _ (by omega) _)))
    refine ⟨fun hne => ⟨mI_in (by omega) (by omega), ?_⟩, fun heq => ⟨rfl, hq _ hF0 ?_⟩⟩
    · have hlt : tA n T p < n := by omega
      have hs : tS n T p = srt (T (tA n T p)) := if_pos hlt
      have hgt := he.2.2.1 hlt
      rw [mI_nat (by omega), hT.2.2 _ (by omega)]
      generalize hI0 : zu (zu (zu I' 48 17 0) 48 18 0) 48 19 0 = I0 at hF0 ⊢
      have z16 : I0 48 16 = nI (tA n T p) := by rw [← hI0]; simp only [zu_rd, Nat.reduceEqDiff, reduceIte]; exact h16
      have z19 : I0 48 19 = 0 := by rw [← hI0]; simp only [zu_rd, Nat.reduceEqDiff, reduceIte]
      clear hI0
      -- the number, and the end
      have s215 : ∀ I2, F4 I I2 → I2 48 16 = nI (tA n T p) → I2 48 17 = nI (tE n T p - tA n T p) → I2 48 18 = nI (tS n T p) → I2 48 19 = 0 → ∀ o1 o2 o3 o4, b_X12_lookAt_215 u_X12_isSmall u_X12_isFigure (qv (shp u) q) [some (.ref 48), o1, o2, o3, o4] [] (shp u) I2 J := by
        intro I2 hF2 a1 a2 a3 a4 o1 o2 o3 o4
        have q2 : (nI (tS n T p) = 2) = (tS n T p = 2) := mI_eq (b := 2) (by omega) (by omega)
        have q3 : (nI (tE n T p - tA n T p) ≤ 2) = (tE n T p - tA n T p ≤ 2) := mI_le (b := 2) (by omega) (by omega)
        have s274 : ∀ I3, F4 I I3 → I3 48 16 = nI (tA n T p) → I3 48 17 = nI (tE n T p - tA n T p) → I3 48 18 = nI (tS n T p) → I3 48 19 = tvl n T p → ∀ o1 o2 o3 o4, b_X12_lookAt_274 u_X12_isSmall u_X12_isFigure (qv (shp u) q) [some (.ref 48), o1, o2, o3, o4] [] (shp u) I3 J := by
          intro I3 hF3 b1 b2 b3 b4 o1 o2 o3 o4
          have last : ∀ y : Int32, y = nI (tkn n T p) → ∀ o0 o1 o2 o3 o4, b_X12_lookAt_299 u_X12_isSmall u_X12_isFigure (qv (shp u) q) [o0, o1, o2, o3, o4] [.int y, .ref 48] (shp u) I3 J := by
            intro y hy o0 o1 o2 o3 o4
            rw [g_X12_lookAt_299]
            refine ⟨rfl, hq _ (F4_tr hF3 (F4_u _ (by omega) _)) ⟨?_, ?_, ?_, ?_⟩⟩
            · rw [zu_rd, if_pos rfl, if_neg (by decide)]; exact b1
            · rw [zu_rd, if_pos rfl, if_neg (by decide)]; exact b2
            · rw [zu_rd, if_pos rfl, if_pos rfl]; exact hy
            · rw [zu_rd, if_pos rfl, if_neg (by decide)]; exact b4
          rw [g_X12_lookAt_274, b3, b2, q2, q3]
          refine ⟨fun z => ?_, fun z => ⟨fun z2 => ?_, fun z2 => last _ ?_ _ _ _ _ _⟩⟩
          · rw [g_X12_lookAt_295, b3]
            exact last _ (by unfold tkn; rw [if_neg (fun y => z y.1)]) _ _ _ _ _
          · rw [g_X12_lookAt_295, b3]
            exact last _ (by unfold tkn; rw [if_neg (fun y => by omega)]) _ _ _ _ _
          · unfold tkn; rw [if_pos ⟨z, by omega⟩]; rfl
        rw [g_X12_lookAt_215]
        have hstop : ∀ (k : Nat) (I3 : ZI), F4 I I3 → I3 48 16 = nI (tA n T p) → I3 48 17 = nI (tE n T p - tA n T p) → I3 48 18 = nI (tS n T p) → I3 48 19 = nvf T (tA n T p) k → (tS n T p = 2 → k = min 2 (tE n T p - tA n T p)) → (¬ tS n T p = 2 → k = 0) → ∀ o1 o2 o3 o4, b_X12_lookAt_274 u_X12_isSmall u_X12_isFigure (qv (shp u) q) [some (.ref 48), o1, o2, o3, o4] [] (shp u) I3 J := by
          intro k I3 hF3 b1 b2 b3 b4 c1 c2 o1 o2 o3 o4
          refine s274 I3 hF3 b1 b2 b3 ?_ _ _ _ _
          rw [b4]
          unfold tvl
          by_cases hc : tS n T p = 2
          · rw [if_pos hc, c1 hc]
          · rw [if_neg hc, c2 hc]; rfl
        refine zlp 2 (fun k L I3 J3 => (∃ o1 o2 o3, L = [some (.ref 48), o1, o2, o3, some (.int (nI k))]) ∧ (F4 I I3 ∧ I3 48 16 = nI (tA n T p) ∧ I3 48 17 = nI (tE n T p - tA n T p) ∧ I3 48 18 = nI (tS n T p) ∧ I3 48 19 = nvf T (tA n T p) k ∧ (k = 0 ∨ (tS n T p = 2 ∧ k ≤ tE n T p - tA n T p))) ∧ J3 = J) ?_ ?_ _ _ _ ⟨⟨_, _, _, rfl⟩, ⟨hF2, a1, a2, a3, a4, Or.inl rfl⟩, rfl⟩
        · rintro k hk r L I3 J3 ⟨⟨o1, o2, o3, rfl⟩, ⟨hF3, b1, b2, b3, b4, b5⟩, rfl⟩ hr
          have hT3 := Tq_f h hF3
          rw [g_X12_lookAt_218, b2, b3, b1, q2, mI_le (by omega) (by omega)]
          refine ⟨fun z => hstop k I3 hF3 b1 b2 b3 b4 (fun _ => by omega) (fun y => by omega) _ _ _ _, fun z => ⟨fun z2 => absurd (show nI 2 ≤ nI k from z2) (mI_ge hk (by omega)), fun _ => ⟨fun z3 => hstop k I3 hF3 b1 b2 b3 b4 (fun y => absurd y z3) (fun _ => by omega) _ _ _ _, fun z3 => ?_⟩⟩⟩
          rw [mI_add, mI_nat (by omega), hT3.2.2 _ (by omega), mI_one, b4, Int32.mul_comm]
          refine ⟨mI_in (by omega) (by omega), hr _ _ _ ⟨⟨_, _, _, rfl⟩, ⟨F4_tr hF3 (F4_u _ (by omega) _), ?_, ?_, ?_, ?_, Or.inr ⟨z3, by omega⟩⟩, rfl⟩⟩
          · rw [zu_rd, if_pos rfl, if_neg (by decide)]; exact b1
          · rw [zu_rd, if_pos rfl, if_neg (by decide)]; exact b2
          · rw [zu_rd, if_pos rfl, if_neg (by decide)]; exact b3
          · rw [zu_rd, if_pos rfl, if_pos rfl]; rfl
        · rintro r L I3 J3 ⟨⟨o1, o2, o3, rfl⟩, ⟨hF3, b1, b2, b3, b4, b5⟩, rfl⟩
          rw [g_X12_lookAt_218, b2, mI_le (by omega) (by omega)]
          refine ⟨fun z => hstop 2 I3 hF3 b1 b2 b3 b4 (fun _ => by omega) (fun y => by omega) _ _ _ _, fun z => ⟨fun _ => hstop 2 I3 hF3 b1 b2 b3 b4 (fun _ => by omega) (fun y => by omega) _ _ _ _, fun z2 => absurd (mI_rf 2) z2⟩⟩
      have s114 : ∀ o1 o2 o3 o4, b_X12_lookAt_114 u_X12_isSmall u_X12_isFigure (qv (shp u) q) [some (.ref 48), o1, o2, o3, o4] [.int (nI (tS n T p)), .ref 48] (shp u) I0 J := by
        intro o1 o2 o3 o4
        have q3 : ((3 : Int32) ≤ nI (tS n T p)) = (3 ≤ tS n T p) := mI_le (a := 3) (by omega) (by omega)
        rw [g_X12_lookAt_114, q3, g_X12_lookAt_135, g_X12_lookAt_135]
        have hF1 : F4 I (zu (zu I0 48 18 (nI (tS n T p))) 48 17 1) := F4_tr hF0 (F4_tr (F4_u _ (by omega) _) (F4_u _ (by omega) _))
        generalize hI1 : zu (zu I0 48 18 (nI (tS n T p))) 48 17 1 = I1 at hF1 ⊢
        have y16 : I1 48 16 = nI (tA n T p) := by rw [← hI1]; simp only [zu_rd, Nat.reduceEqDiff, reduceIte]; exact z16
        have y17 : I1 48 17 = nI 1 := by rw [← hI1]; simp only [zu_rd, Nat.reduceEqDiff, reduceIte]; rfl
        have y18 : I1 48 18 = nI (tS n T p) := by rw [← hI1]; simp only [zu_rd, Nat.reduceEqDiff, reduceIte]
        have y19 : I1 48 19 = 0 := by rw [← hI1]; simp only [zu_rd, Nat.reduceEqDiff, reduceIte]; exact z19
        clear hI1
        have loop : ∀ (g : Nat), ((g = 1 ∧ (tS n T p = 1 ∨ tS n T p = 2) ∧ tE n T p = enf T (tS n T p) (n - (tA n T p + 1)) (tA n T p + 1)) ∨ (g = 0 ∧ tE n T p = tA n T p + 1)) → ∀ o1 o2 o4, b_X12_lookAt_136 u_X12_isSmall u_X12_isFigure (qv (shp u) q) [some (.ref 48), o1, o2, some (.int (nI g)), o4] [] (shp u) I1 J := by
          intro g hg o1 o2 o4
          refine zlp (n - (tA n T p + 1) + 1) (fun k L I2 J2 => (∃ o1 o2 o4 g, L = [some (.ref 48), o1, o2, some (.int (nI g)), o4] ∧ ((g = 1 ∧ (tS n T p = 1 ∨ tS n T p = 2) ∧ k ≤ n - (tA n T p + 1) ∧ I2 48 17 = nI (1 + k) ∧ tE n T p = enf T (tS n T p) (n - (tA n T p + 1) - k) (tA n T p + 1 + k)) ∨ (g = 0 ∧ I2 48 17 = nI (tE n T p - tA n T p)))) ∧ (F4 I I2 ∧ I2 48 16 = nI (tA n T p) ∧ I2 48 18 = nI (tS n T p) ∧ I2 48 19 = 0) ∧ J2 = J) ?_ ?_ _ _ _ ⟨⟨o1, o2, o4, g, rfl, ?_⟩, ⟨hF1, y16, y18, y19⟩, rfl⟩
          · rintro k hk r L I2 J2 ⟨⟨o1, o2, o4, g, rfl, hg⟩, ⟨hF2, b1, b3, b4⟩, rfl⟩ hr
            have hT2 := Tq_f h hF2
            rw [g_X12_lookAt_136]
            rcases hg with ⟨rfl, hsv, hkn, h17, hE⟩ | ⟨rfl, h17⟩
            · refine ⟨fun z => absurd z (by decide), fun _ => ?_⟩
              rw [hT2.1, b1, h17, mI_add, mI_le (by omega) (by omega)]
              refine ⟨fun z => s215 I2 hF2 b1 ?_ b3 b4 _ _ _ _, fun z => ⟨mI_in (by omega) (by omega), ?_⟩⟩
              · have hz : n - (tA n T p + 1) - k = 0 := by omega
                rw [hz] at hE
                have hE2 : tE n T p = tA n T p + 1 + k := hE
                rw [h17]; congr 1; omega
              · have q1 : (nI (tS n T p) = 1) = (tS n T p = 1) := mI_eq (b := 1) (by omega) (by omega)
                have ei : tA n T p + (1 + k) = tA n T p + 1 + k := by omega
                rw [mI_nat (by omega), hT2.2.2 _ (by omega), b3, q1, ei]
                have hk1 : n - (tA n T p + 1) - k = (n - (tA n T p + 1) - (k + 1)) + 1 := by omega
                rw [hk1] at hE
                have both : ∀ o1 o2 o3 o4, b_X12_lookAt_193 u_X12_isSmall u_X12_isFigure (qv (shp u) q) r [some (.ref 48), o1, o2, o3, o4] [.int (bI (srt (T (tA n T p + 1 + k)) = tS n T p))] (shp u) I2 J2 := by
                  intro o1 o2 o3 o4
                  rw [g_X12_lookAt_193]
                  refine ⟨fun y => ?_, fun y => ?_⟩
                  · have hne := b0n y
                    rw [g_X12_lookAt_208, h17, bI_f hne]
                    have e0 : nI (1 + k) + 0 = nI (1 + k) := i_a0 _
                    rw [e0]
                    have b5 : enf T (tS n T p) (n - (tA n T p + 1) - (k + 1) + 1) (tA n T p + 1 + k) = tA n T p + 1 + k := if_neg hne
                    refine hr _ _ _ ⟨⟨_, _, _, 0, rfl, Or.inr ⟨rfl, ?_⟩⟩, ⟨F4_tr hF2 (F4_u _ (by omega) _), ?_, ?_, ?_⟩, rfl⟩
                    · rw [zu_rd, if_pos rfl, if_pos rfl]; congr 1; omega
                    · rw [zu_rd, if_pos rfl, if_neg (by decide)]; exact b1
                    · rw [zu_rd, if_pos rfl, if_neg (by decide)]; exact b3
                    · rw [zu_rd, if_pos rfl, if_neg (by decide)]; exact b4
                  · have hye := b0p y
                    rw [g_X12_lookAt_208, h17, bI_t hye, mI_one]
                    have b5 : enf T (tS n T p) (n - (tA n T p + 1) - (k + 1) + 1) (tA n T p + 1 + k) = enf T (tS n T p) (n - (tA n T p + 1) - (k + 1)) (tA n T p + 1 + k + 1) := if_pos hye
                    refine hr _ _ _ ⟨⟨_, _, _, 1, rfl, Or.inl ⟨rfl, hsv, by omega, ?_, by rw [hE, b5]; rfl⟩⟩, ⟨F4_tr hF2 (F4_u _ (by omega) _), ?_, ?_, ?_⟩, rfl⟩
                    · rw [zu_rd, if_pos rfl, if_pos rfl]; rfl
                    · rw [zu_rd, if_pos rfl, if_neg (by decide)]; exact b1
                    · rw [zu_rd, if_pos rfl, if_neg (by decide)]; exact b3
                    · rw [zu_rd, if_pos rfl, if_neg (by decide)]; exact b4
                refine ⟨fun y => ?_, fun y => ?_⟩
                · refine p_fig _ _ ?_
                  have := both none none (some (.int (nI 1))) (some (.int (T (tA n T p + 1 + k))))
                  rw [hsv.resolve_left y] at this; exact this
                · refine p_small _ _ ?_
                  have := both none none (some (.int (nI 1))) (some (.int (T (tA n T p + 1 + k))))
                  rw [y] at this; exact this
            · refine ⟨fun _ => s215 I2 hF2 b1 h17 b3 b4 _ _ _ _, fun z => absurd rfl z⟩
          · rintro r L I2 J2 ⟨⟨o1, o2, o4, g, rfl, hg⟩, ⟨hF2, b1, b3, b4⟩, rfl⟩
            rw [g_X12_lookAt_136]
            rcases hg with ⟨rfl, hsv, hkn, h17, hE⟩ | ⟨rfl, h17⟩
            · omega
            · exact ⟨fun _ => s215 I2 hF2 b1 h17 b3 b4 _ _ _ _, fun z => absurd rfl z⟩
          · rcases hg with ⟨rfl, hsv, hE⟩ | ⟨rfl, hE⟩
            · exact Or.inl ⟨rfl, hsv, by omega, y17, hE⟩
            · exact Or.inr ⟨rfl, by rw [y17]; congr 1; omega⟩
        have hse : tE n T p = if srt (T (tA n T p)) = 1 ∨ srt (T (tA n T p)) = 2 then enf T (srt (T (tA n T p))) (n - (tA n T p + 1)) (tA n T p + 1) else tA n T p + 1 := if_pos hlt
        rw [← hs] at hse
        have hs1 := srt_rg (T (tA n T p))
        refine ⟨fun z => loop 0 (Or.inr ⟨rfl, by rw [hse, if_neg (by omega)]⟩) _ _ _, fun z => loop 1 (Or.inl ⟨rfl, by omega, by rw [if_pos (by omega)] at hse; exact hse⟩) _ _ _⟩
      have e59 : (59 : Int32).toInt = 59 := rfl
      refine p_small _ _ ⟨fun z => ?_, fun z => ?_⟩
      · have h1 := b0n z
        refine p_fig _ _ ⟨fun z2 => ?_, fun z2 => ?_⟩
        · have h2 := b0n z2
          have h3 : ¬ (97 ≤ (T (tA n T p)).toInt ∧ (T (tA n T p)).toInt ≤ 122) := fun y => h1 (if_pos y)
          have h4 : ¬ (48 ≤ (T (tA n T p)).toInt ∧ (T (tA n T p)).toInt ≤ 57) := fun y => h2 (by unfold srt; rw [if_neg h3]; exact if_pos y)
          refine ⟨fun z3 => ?_, fun z3 => ?_⟩
          · have hv : tS n T p = 4 := by
              rw [hs]; unfold srt; rw [if_neg h3, if_neg h4, if_neg (fun y => z3 (i_ext (by rw [e59]; exact y)))]
            have := s114 none (some (.int (T (tA n T p)))) none none
            rw [hv] at this; exact this
          · have hv : tS n T p = 3 := by
              rw [hs]; unfold srt; rw [if_neg h3, if_neg h4, if_pos (by rw [z3, e59])]
            have := s114 none (some (.int (T (tA n T p)))) none none
            rw [hv] at this; exact this
        · have hv : tS n T p = 2 := by rw [hs]; exact b0p z2
          have := s114 none (some (.int (T (tA n T p)))) none none
          rw [hv] at this; exact this
      · have hv : tS n T p = 1 := by rw [hs]; exact b0p z
        have := s114 none (some (.int (T (tA n T p)))) none none
        rw [hv] at this; exact this
    · have hE := he.2.2.2 (by omega)
      have hs : tS n T p = 0 := (tS_0 T).2 (by omega)
      refine ⟨?_, ?_, ?_, ?_⟩
      · simp only [zu_rd, Nat.reduceEqDiff, reduceIte]; exact h16
      · simp only [zu_rd, Nat.reduceEqDiff, reduceIte]
        rw [hE.1, hE.2, Nat.sub_self]; rfl
      · simp only [zu_rd, Nat.reduceEqDiff, reduceIte]
        unfold tkn; rw [hs]; rfl
      · simp only [zu_rd, Nat.reduceEqDiff, reduceIte]
        unfold tvl; rw [hs]; rfl
  rw [e_X12_lookAt]
  refine zlp (n - p) (fun k L I1 J1 => (∃ o1 o2 o3 o4, L = [some (.ref 48), o1, o2, o3, o4]) ∧ (F4 I I1 ∧ I1 48 16 = nI (p + k) ∧ tA n T p = skf T (n - p - k) (p + k)) ∧ J1 = J) ?_ ?_ _ _ _ ⟨⟨_, _, _, _, rfl⟩, ⟨F4_u _ (by omega) _, by rw [zu_rd, if_pos rfl, if_pos rfl]; rfl, rfl⟩, rfl⟩
  · rintro k hk r L I1 J1 ⟨⟨o1, o2, o3, o4, rfl⟩, ⟨hF, h3, hsk⟩, rfl⟩ hr
    have hT := Tq_f h hF
    rw [g_X12_lookAt_5, hT.1, h3, mI_le (by omega) (by omega), mI_nat (by omega), hT.2.2 _ (by omega)]
    have hk1 : n - p - k = (n - p - (k + 1)) + 1 := by omega
    rw [hk1] at hsk
    refine ⟨fun z => by omega, fun _ => ⟨mI_in (by omega) (by omega), fun z => ?_, fun z => ?_⟩⟩
    · have b5 : skf T (n - p - (k + 1) + 1) (p + k) = p + k := if_neg z
      exact s43 _ hF (by rw [h3, hsk, b5]) _ _ _ _
    · have b5 : skf T (n - p - (k + 1) + 1) (p + k) = skf T (n - p - (k + 1)) (p + k + 1) := if_pos z
      rw [mI_one]
      exact hr _ _ _ ⟨⟨_, _, _, _, rfl⟩, ⟨F4_tr hF (F4_u _ (by omega) _), by rw [zu_rd, if_pos rfl, if_pos rfl]; rfl, by rw [hsk, b5]; rfl⟩, rfl⟩
  · rintro r L I1 J1 ⟨⟨o1, o2, o3, o4, rfl⟩, ⟨hF, h3, hsk⟩, rfl⟩
    have hT := Tq_f h hF
    rw [g_X12_lookAt_5, hT.1, h3, mI_le (by omega) (by omega)]
    rw [Nat.sub_self] at hsk
    exact ⟨fun _ => s43 _ hF (by rw [h3, hsk]; rfl) _ _ _ _, fun z => absurd (by omega) z⟩
theorem p_goB {n p : Nat} {T : Nat → Int32} (h : Tq I n T) (hp : p ≤ n) (hT : RT I n T p) (q : YQv) (hq : ∀ I', F4 I I' → RT I' n T (tE n T p) → q I' J) : u_X12_goBehind [.ref 48] (shp u) I J q := by
  have he := tE_rg T hp
  rw [e_X12_goBehind, hT.1, hT.2.1, mI_add, show tA n T p + (tE n T p - tA n T p) = tE n T p by omega]
  exact p_look h he.2.1 _ (fun I' hF hR => ⟨rfl, hq I' hF hR⟩)
