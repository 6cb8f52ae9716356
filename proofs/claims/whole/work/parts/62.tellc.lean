/-! ===== the class reads ===== -/
noncomputable def pmn (n : Nat) (T : Nat → Int32) : Nat → Nat → (Nat → Int32) → Nat → Nat ⊕ (Nat × (Nat → Int32))
  | 0, _, _, _ => .inl 0
  | f + 1, k, D, p => cIf (tS n T p = 0) (.inr (k, D)) (match pitem n T D p with
    | .inl a => .inl a
    | .inr (D', e) => pmn n T f (k + 1) D' e)
noncomputable def pread (n : Nat) (T : Nat → Int32) : Nat ⊕ (Nat × (Nat → Int32)) := match proad n T 0 with
  | .inl a => .inl a
  | .inr (D, e) => pmn n T 150 1 D e
theorem pmn_0 {n : Nat} {T : Nat → Int32} {f k : Nat} {D : Nat → Int32} {p : Nat} (h : tS n T p = 0) : pmn n T (f + 1) k D p = .inr (k, D) := cIf_t h
theorem pmn_l {n : Nat} {T : Nat → Int32} {f k : Nat} {D : Nat → Int32} {p a : Nat} (h : ¬ tS n T p = 0) (hi : pitem n T D p = .inl a) : pmn n T (f + 1) k D p = .inl a := by
  show cIf _ _ _ = _
  rw [cIf_f h, hi]
theorem pmn_r {n : Nat} {T : Nat → Int32} {f k : Nat} {D D' : Nat → Int32} {p e : Nat} (h : ¬ tS n T p = 0) (hi : pitem n T D p = .inr (D', e)) : pmn n T (f + 1) k D p = pmn n T f (k + 1) D' e := by
  show cIf _ _ _ = _
  rw [cIf_f h, hi]
theorem proad_ok {n : Nat} {T D : Nat → Int32} {e : Nat} (h : proad n T 0 = .inr (D, e)) : Dr D ∧ 2 ≤ e ∧ e ≤ n := by
  have a1 := tE_rg (n := n) (p := 0) T (by omega)
  unfold proad at h
  by_cases hw : isW n T 0 1
  · rw [cIf_t hw] at h
    obtain ⟨x, y, hr, rfl⟩ := mpr_ok h
    obtain ⟨k1, k2, k3, k4⟩ := ptwo_ok a1.2.1 hr
    have hlt : tA n T 0 < n := Classical.byContradiction (fun z => by have := (tS_0 (p := 0) T).2 z; have := hw.1; omega)
    have := a1.2.2.1 hlt
    exact ⟨Dr_0 k1 k2, by omega, k4⟩
  · rw [cIf_f hw] at h; cases h
variable {u : Nat} {I : ZI} {J : ZJ}
theorem c_tell {n : Nat} {T : Nat → Int32} (h : Tp I n T) (q : YQi)
    (hN : ∀ I' a, FD I I' → I' 31 3 = nI a → a ≤ n → pread n T = .inl a → q I' J (-1))
    (hY : ∀ I' k D, FD I I' → 1 ≤ k → k ≤ 75 → Wd 16 I' D → Dr D → pread n T = .inr (k, D) → q I' J (nI k)) : u_X4_tell [.ref 31, .ref 16] (shp u) I J q := by
  have hn := h.2.1
  have nv : ∀ a, pread n T = .inl a → True := fun _ _ => trivial
  rw [e_X4_tell]
  refine zlp 76 (fun k L I' J' => (∃ o3, L = [some (.ref 31), some (.ref 16), some (.int (nI k)), o3]) ∧ FD I I' ∧ ((k = 0 ∧ I' 31 4 = nI 0) ∨ (1 ≤ k ∧ ∃ D p, Dr D ∧ Wd 16 I' D ∧ I' 31 4 = nI p ∧ p ≤ n ∧ 2 * k ≤ p ∧ pread n T = pmn n T (151 - k) k D p)) ∧ J' = J) ?_ ?_ _ _ _ ⟨⟨_, rfl⟩, FD_31 (F31_u _ (by omega) _), Or.inl ⟨rfl, by rw [zu_rd, if_pos rfl, if_pos rfl]; rfl⟩, rfl⟩
  · rintro k hk r L I' J' ⟨⟨o3, rfl⟩, hF, hs, rfl⟩ hr
    have hT := Tp_d h hF
    rw [g_X4_tell_7]
    have hk75 : k ≤ 75 := by
      rcases hs with ⟨rfl, _⟩ | ⟨_, D, p, _, _, _, hp, h2, _⟩ <;> omega
    refine ⟨fun z => absurd (show nI 150 ≤ nI k from z) (mI_ge (by omega) (by omega)), fun _ => ?_⟩
    have ek0 : (nI k = 0) = (k = 0) := mI_eq (b := 0) (by omega) (by omega)
    have ekl : (nI k ≤ 0) = (k ≤ 0) := mI_le (b := 0) (by omega) (by omega)
    have fail : ∀ (I2 : ZI) (a : Nat) (o3 : Option Value), FD I I2 → I2 31 3 = nI a → a ≤ n → pread n T = .inl a → b_X4_tell_48 u_X4_nextToken u_X4_tellRoad u_X4_tellItem (qi (shp u) q) r [some (.ref 31), some (.ref 16), some (.int (nI k)), o3] [.int 0] (shp u) I2 J' := by
      intro I2 a o3 f1 f2 f3 f4
      rw [g_X4_tell_48]
      exact ⟨fun z => absurd rfl z, fun _ => ⟨rfl, hN I2 a f1 f2 f3 f4⟩⟩
    have good : ∀ (I2 : ZI) (D' : Nat → Int32) (e : Nat) (o3 : Option Value), FD I I2 → I2 31 4 = nI e → Wd 16 I2 D' → Dr D' → e ≤ n → 2 * (k + 1) ≤ e → pread n T = pmn n T (151 - (k + 1)) (k + 1) D' e → b_X4_tell_48 u_X4_nextToken u_X4_tellRoad u_X4_tellItem (qi (shp u) q) r [some (.ref 31), some (.ref 16), some (.int (nI k)), o3] [.int 1] (shp u) I2 J' := by
      intro I2 D' e o3 f1 f2 f3 f4 f5 f6 f7
      rw [g_X4_tell_48, mI_one]
      exact ⟨fun _ => hr _ _ _ ⟨⟨_, rfl⟩, f1, Or.inr ⟨by omega, D', e, f4, f3, f2, f5, f6, f7⟩, rfl⟩, fun z => absurd z (by decide)⟩
    rcases hs with ⟨rfl, h4⟩ | ⟨hk1, D, p, hD, hW, h4, hp, h2, hpr⟩
    · refine p_next hT (by omega) h4 _ (fun I1 hF1 hT1 => ?_)
      have hT' := Tp_f hT hF1
      have b31 : ∀ o3, b_X4_tell_31 u_X4_nextToken u_X4_tellRoad u_X4_tellItem (qi (shp u) q) r [some (.ref 31), some (.ref 16), some (.int (nI 0)), o3] [] (shp u) I1 J' := by
        intro o3
        rw [g_X4_tell_31]
        refine ⟨fun z => absurd rfl z, fun _ => ?_⟩
        refine c_rd hT' (by omega) hT1 _ (fun I2 a f1 f2 f3 => ?_) (fun I2 D' e f1 f2 f3 f4 => ?_)
        · have ha : a ≤ n := by
            have := hT1
            have a1 := tE_rg (n := n) (p := 0) T (by omega)
            unfold proad at f3
            by_cases hw : isW n T 0 1
            · rw [cIf_t hw] at f3
              have a2 := tE_rg T a1.2.1
              have a3 := tE_rg T a2.2.1
              have b1 := tA_rg T a1.2.1
              have b2 := tA_rg T a2.2.1
              have b3 := tA_rg T a3.2.1
              unfold ptwo at f3
              by_cases c1 : numk n T (tE n T 0) 1 15
              · rw [cIf_t c1] at f3
                by_cases c2 : numk n T (tE n T (tE n T 0)) 1 12
                · rw [cIf_t c2] at f3
                  by_cases c3 : tS n T (tE n T (tE n T (tE n T 0))) = 3
                  · rw [cIf_t c3] at f3; cases f3
                  · rw [cIf_f c3] at f3; cases f3; omega
                · rw [cIf_f c2] at f3; cases f3; omega
              · rw [cIf_f c1] at f3; cases f3; omega
            · rw [cIf_f hw] at f3; cases f3
              have := tA_rg (n := n) (p := 0) T (by omega)
              omega
          exact fail I2 a _ (FD_tr hF (FD_tr (FD_31 hF1) f1)) f2 ha (by unfold pread; rw [f3])
        · obtain ⟨d1, d2, d3⟩ := proad_ok f4
          exact good I2 D' e _ (FD_tr hF (FD_tr (FD_31 hF1) f1)) f2 f3 d1 d3 (by omega) (by unfold pread; rw [f4])
      exact ⟨fun _ => b31 _, fun _ => ⟨fun _ => b31 _, fun z => absurd (show nI 0 ≤ 0 by decide) z⟩⟩
    · refine p_next hT hp h4 _ (fun I1 hF1 hT1 => ?_)
      have hT' := Tp_f hT hF1
      have hsr := tS_rg n T p
      have e0 : (nI (tS n T p) = 0) = (tS n T p = 0) := mI_eq (b := 0) (by omega) (by omega)
      have ef : 151 - k = (151 - (k + 1)) + 1 := by omega
      rw [hT1.1, e0, ekl]
      refine ⟨fun hs0 => ?_, fun hs0 => ⟨fun z => by omega, fun _ => ⟨rfl, ?_⟩⟩⟩
      · rw [g_X4_tell_31, ek0]
        refine ⟨fun _ => ?_, fun z => by omega⟩
        refine c_item hT' hp hT1 (W_31 hW hF1) hD _ (fun I2 a f1 f2 f3 => ?_) (fun I2 D' e f1 f2 f3 f4 => ?_)
        · have ha : a ≤ n := by
            have t1 := tA_rg T hp
            have a1 := tE_rg T hp
            have a2 := tE_rg T a1.2.1
            have a3 := tE_rg T a2.2.1
            have b1 := tA_rg T a1.2.1
            have b2 := tA_rg T a2.2.1
            have b3 := tA_rg T a3.2.1
            have pt : ∀ {lo1 hi1 lo2 hi2 : Int32} {f : Int32 → Int32 → Nat → Int32}, mpr f (ptwo n T (tE n T p) lo1 hi1 lo2 hi2) = .inl a → a ≤ n := by
              intro lo1 hi1 lo2 hi2 f f3
              unfold ptwo at f3
              by_cases c1 : numk n T (tE n T p) lo1 hi1
              · rw [cIf_t c1] at f3
                by_cases c2 : numk n T (tE n T (tE n T p)) lo2 hi2
                · rw [cIf_t c2] at f3
                  by_cases c3 : tS n T (tE n T (tE n T (tE n T p))) = 3
                  · rw [cIf_t c3] at f3; cases f3
                  · rw [cIf_f c3] at f3; cases f3; omega
                · rw [cIf_f c2] at f3; cases f3; omega
              · rw [cIf_f c1] at f3; cases f3; omega
            have ph : ∀ sg, phd n T D p sg = .inl a → a ≤ n := by
              intro sg f3
              unfold phd at f3
              by_cases c5 : D 2 = 5
              · rw [cIf_t c5] at f3; cases f3; omega
              · rw [cIf_f c5] at f3; exact pt f3
            unfold pitem at f3
            by_cases w2 : isW n T p 2
            · rw [cIf_t w2] at f3; exact pt f3
            · rw [cIf_f w2] at f3
              by_cases w3 : isW n T p 3
              · rw [cIf_t w3] at f3; exact pt f3
              · rw [cIf_f w3] at f3
                by_cases w4 : isW n T p 4
                · rw [cIf_t w4] at f3; exact pt f3
                · rw [cIf_f w4] at f3
                  by_cases w5 : isW n T p 5
                  · rw [cIf_t w5] at f3; exact pt f3
                  · rw [cIf_f w5] at f3
                    by_cases w6 : isW n T p 6
                    · rw [cIf_t w6] at f3; exact ph _ f3
                    · rw [cIf_f w6] at f3
                      by_cases w7 : isW n T p 7
                      · rw [cIf_t w7] at f3; exact ph _ f3
                      · rw [cIf_f w7] at f3; cases f3; omega
          exact fail I2 a _ (FD_tr hF (FD_tr (FD_31 hF1) f1)) f2 ha (by rw [hpr, ef]; exact pmn_l hs0 f3)
        · obtain ⟨d1, d2, d3⟩ := pitem_ok hp hD f4
          exact good I2 D' e _ (FD_tr hF (FD_tr (FD_31 hF1) f1)) f2 f3 d1 d3 (by omega) (by rw [hpr, ef]; exact pmn_r hs0 f4)
      · exact hY I1 k D (FD_tr hF (FD_31 hF1)) hk1 hk75 (W_31 hW hF1) hD (by rw [hpr, ef]; exact pmn_0 hs0)
  · rintro r L I' J' ⟨⟨o3, rfl⟩, hF, hs, rfl⟩
    rcases hs with ⟨h0, _⟩ | ⟨_, D, p, _, _, _, hp, h2, _⟩ <;> omega
