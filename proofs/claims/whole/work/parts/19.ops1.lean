/-! ===== the simple calls ===== -/
theorem zu_rd (I : ZI) (a f : Nat) (v : Int32) (b g : Nat) : zu I a f v b g = if b = a then (if g = f then v else I a g) else I b g := rfl
theorem zuJ_rd (J : ZJ) (a f : Nat) (v : Int64) (b g : Nat) : zuJ J a f v b g = if b = a then (if g = f then v else J a g) else J b g := rfl
theorem Rl_ct {u : Nat} {I I' : ZI} {J : ZJ} (h : Rl u I J) (hf : ∀ a, a ≠ 0 → a ≠ 52 → I' a = I a) (hc : I' 0 10 = I' 52 0 ∧ I' 0 11 = I' 52 1 ∧ I' 0 12 = I' 52 2) : Rl u I' J := by
  obtain ⟨hW, hV, hC, hP, hT, hI, hu⟩ := h
  refine ⟨?_, ?_, hc, hP, ?_, ?_, hu⟩
  · rw [hf 49 (by decide) (by decide)]; exact Wd_fr hW (fun a h1 h2 => hf a (by omega) (by omega))
  · rw [hf 49 (by decide) (by decide)]; exact hV
  · unfold Tx; rw [hf 31 (by decide) (by decide), hf 48 (by decide) (by decide), hf 32 (by decide) (by decide), hf 58 (by decide) (by decide)]; exact hT
  · exact Im_fr hI (hf 50 (by decide) (by decide)) (hf 51 (by decide) (by decide)) (fun a ha => hf a (by omega) (by omega))
theorem Rl_bad {u : Nat} {I : ZI} {J : ZJ} (h : Rl u I J) : Rl u (zu (zu I 0 10 (I 0 10 + 1)) 52 0 (I 52 0 + 1)) J := by
  refine Rl_ct h (fun a h1 h2 => by rw [zu_ne _ _ _ h2, zu_ne _ _ _ h1]) ?_
  obtain ⟨c1, c2, c3⟩ := h.2.2.1
  simp only [zu_rd, Nat.reduceEqDiff, reduceIte, c1, c2, c3, and_self]
theorem Rl_no {u : Nat} {I : ZI} {J : ZJ} (h : Rl u I J) : Rl u (zu (zu I 0 11 (I 0 11 + 1)) 52 1 (I 52 1 + 1)) J := by
  refine Rl_ct h (fun a h1 h2 => by rw [zu_ne _ _ _ h2, zu_ne _ _ _ h1]) ?_
  obtain ⟨c1, c2, c3⟩ := h.2.2.1
  simp only [zu_rd, Nat.reduceEqDiff, reduceIte, c1, c2, c3, and_self]
theorem Rl_full {u : Nat} {I : ZI} {J : ZJ} (h : Rl u I J) : Rl u (zu (zu I 0 12 (I 0 12 + 1)) 52 2 (I 52 2 + 1)) J := by
  refine Rl_ct h (fun a h1 h2 => by rw [zu_ne _ _ _ h2, zu_ne _ _ _ h1]) ?_
  obtain ⟨c1, c2, c3⟩ := h.2.2.1
  simp only [zu_rd, Nat.reduceEqDiff, reduceIte, c1, c2, c3, and_self]
variable {u : Nat} {I : ZI} {J : ZJ}
/-- both refuse alike -/
theorem rf_bad (hR : Rl u I J) {Q : ZI → ZJ → Int32 → Int32 → Prop} (hQ : ∀ I' J' v, Rl u I' J' → Q I' J' v v) (x : Int32) : Q (zu (zu I 0 10 (I 0 10 + 1)) 52 0 ((zu I 0 10 (I 0 10 + 1)) 52 0 + 1)) J x x := by
  have e : (zu I 0 10 (I 0 10 + 1)) 52 0 = I 52 0 := rfl
  rw [e]; exact hQ _ _ _ (Rl_bad hR)
theorem rf_no (hR : Rl u I J) {Q : ZI → ZJ → Int32 → Int32 → Prop} (hQ : ∀ I' J' v, Rl u I' J' → Q I' J' v v) (x : Int32) : Q (zu (zu I 0 11 (I 0 11 + 1)) 52 1 ((zu I 0 11 (I 0 11 + 1)) 52 1 + 1)) J x x := by
  have e : (zu I 0 11 (I 0 11 + 1)) 52 1 = I 52 1 := rfl
  rw [e]; exact hQ _ _ _ (Rl_no hR)
theorem rf_full (hR : Rl u I J) {Q : ZI → ZJ → Int32 → Int32 → Prop} (hQ : ∀ I' J' v, Rl u I' J' → Q I' J' v v) (x : Int32) : Q (zu (zu I 0 12 (I 0 12 + 1)) 52 2 ((zu I 0 12 (I 0 12 + 1)) 52 2 + 1)) J x x := by
  have e : (zu I 0 12 (I 0 12 + 1)) 52 2 = I 52 2 := rfl
  rw [e]; exact hQ _ _ _ (Rl_full hR)
theorem o_status (hR : Rl u I J) (x : Int32) (Q : ZI → ZJ → Int32 → Int32 → Prop) (hQ : ∀ I' J' v, Rl u I' J' → Q I' J' v v) :
    u_X11_status [.ref 0, .int x] (shp u) I J (fun I1 J1 v1 => u_X12_status [.ref 48, .int x] (shp u) I1 J1 (fun I2 J2 v2 => Q I2 J2 v1 v2)) := by
  obtain ⟨c1, c2, c3⟩ := hR.2.2.1
  by_cases hb : 0 ≤ x.toInt ∧ x.toInt ≤ 2
  · have hv : vp_in x 3 := by rw [i_vp]; omega
    simp only [e_X11_status, e_X12_status, g_X12_status_26, p_X12_in, p_X11_bad, p_X12_bad, ij_to, Int64.reduceToInt, bI_0, hb, hv, eq_self, not_true, not_false_iff, Classical.not_not, true_implies, false_implies, and_true, true_and, and_self, if_true, if_false]
    have hx : x = 0 ∨ x = 1 ∨ x = 2 := by simp only [i_eq, Int32.reduceToInt]; omega
    rcases hx with e | e | e <;> subst e
    · simp; rw [c1]; exact hQ _ _ _ hR
    · simp; rw [c2]; exact hQ _ _ _ hR
    · simp; rw [c3]; exact hQ _ _ _ hR
  · simp only [e_X11_status, e_X12_status, g_X12_status_26, p_X12_in, p_X11_bad, p_X12_bad, ij_to, Int64.reduceToInt, bI_0, hb, eq_self, not_true, not_false_iff, Classical.not_not, true_implies, false_implies, and_true, true_and, and_self, if_true, if_false]
    have h0 : ¬ x = 0 := by simp only [i_eq, Int32.reduceToInt]; omega
    have h1 : ¬ x = 1 := by simp only [i_eq, Int32.reduceToInt]; omega
    have h2 : ¬ x = 2 := by simp only [i_eq, Int32.reduceToInt]; omega
    simp only [h0, h1, h2, not_true, not_false_iff, Classical.not_not, true_implies, false_implies, and_true, true_and, and_self, if_true, if_false]
    exact rf_bad hR hQ _
