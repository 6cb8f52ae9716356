/-! ===== the simple calls, on ===== -/
theorem Rl_w {u : Nat} {I I' : ZI} {J : ZJ} (h : Rl u I J) (hf : ∀ a, ¬ (2 ≤ a ∧ a ≤ 15) → a ≠ 49 → I' a = I a) (hW : Wd 2 I' (I' 49)) (hV : Vd (I' 49)) : Rl u I' J := by
  obtain ⟨_, _, hC, hP, hT, hI, hu⟩ := h
  refine ⟨hW, hV, ?_, hP, ?_, ?_, hu⟩
  · rw [hf 0 (by omega) (by decide), hf 52 (by omega) (by decide)]; exact hC
  · unfold Tx; rw [hf 31 (by omega) (by decide), hf 48 (by omega) (by decide), hf 32 (by omega) (by decide), hf 58 (by omega) (by decide)]; exact hT
  · exact Im_fr hI (hf 50 (by omega) (by decide)) (hf 51 (by omega) (by decide)) (fun a ha => hf a (by omega) (by omega))
theorem Vd_cw {n n' : Nat → Int32} (h : Vd n) (e : ∀ k, ¬ (5 ≤ k ∧ k ≤ 26) → n' k = n k) : Vd n' := by
  obtain ⟨v0, v1, v2, v3, v4, v5, v6, v7, v8, v9, v10, v11⟩ := h
  unfold Vd
  rw [e 0 (by omega), e 1 (by omega), e 2 (by omega), e 3 (by omega), e 4 (by omega), e 37 (by omega), e 38 (by omega), e 39 (by omega), e 40 (by omega), e 41 (by omega)]
  refine ⟨v0, v1, v2, v3, v4, fun h hh => ?_, v6, v7, v8, v9, fun k hk => ?_, fun k hk => ?_⟩
  · rw [e _ (by omega)]; exact v5 h hh
  · rw [e (66 + 4 * k) (by omega), e (67 + 4 * k) (by omega), e (68 + 4 * k) (by omega), e (69 + 4 * k) (by omega)]; exact v10 k hk
  · rw [e (43 + 4 * k) (by omega), e (44 + 4 * k) (by omega)]; exact v11 k hk
theorem Wd_cw {I I' : ZI} {n n' : Nat → Int32} (h : Wd 2 I n) (e : ∀ k, ¬ (5 ≤ k ∧ k ≤ 26) → n' k = n k) (hf : ∀ a, a ≠ 4 → a ≠ 5 → a ≠ 49 → I' a = I a) (hc : ∀ c, c < 16 → I' 4 c = n' (5 + c)) (hw : ∀ i, i < 6 → I' 5 i = n' (21 + i)) : Wd 2 I' n' := by
  obtain ⟨w0, w1, w2, w3, w4, w5, w6, w7, w8, w9, w10, w11, w12, w13⟩ := h
  unfold Wd
  rw [e 0 (by omega), e 1 (by omega), e 2 (by omega), e 3 (by omega), e 4 (by omega), e 37 (by omega), e 38 (by omega), e 39 (by omega), e 40 (by omega)]
  rw [hf 2 (by decide) (by decide) (by decide), hf (2 + 1) (by decide) (by decide) (by decide), hf (2 + 4) (by decide) (by decide) (by decide)]
  refine ⟨w0, w1, w2, w3, w4, hc, hw, fun h hh => ?_, w8, w9, w10, w11, fun k hk => ?_, fun k hk => ?_⟩
  · rw [e (27 + 2 * h) (by omega), e (28 + 2 * h) (by omega), hf (2 + 8) (by decide) (by decide) (by decide), hf (2 + 9) (by decide) (by decide) (by decide)]; exact w7 h hh
  · rw [e (66 + 4 * k) (by omega), e (67 + 4 * k) (by omega), e (68 + 4 * k) (by omega), hf (2 + 5) (by decide) (by decide) (by decide), hf (2 + 6) (by decide) (by decide) (by decide), hf (2 + 7) (by decide) (by decide) (by decide)]; exact w12 k hk
  · rw [e (42 + 4 * k) (by omega), e (43 + 4 * k) (by omega), e (44 + 4 * k) (by omega), e (45 + 4 * k) (by omega), hf (2 + 10) (by decide) (by decide) (by decide), hf (2 + 11) (by decide) (by decide) (by decide), hf (2 + 12) (by decide) (by decide) (by decide), hf (2 + 13) (by decide) (by decide) (by decide)]; exact w13 k hk
variable {u : Nat} {I : ZI} {J : ZJ}
theorem Rl_cob (hR : Rl u I J) {c : Nat} (hc : c < 16) (v : Int32) : Rl u (zu (zu I 4 c v) 49 (5 + c) v) J := by
  have e : ∀ k, ¬ (5 ≤ k ∧ k ≤ 26) → (zu (zu I 4 c v) 49 (5 + c) v) 49 k = I 49 k := by
    intro k hk; have : ¬ k = 5 + c := by omega
    simp only [zu_rd, this, Nat.reduceEqDiff, reduceIte]
  refine Rl_w hR (fun a h1 h2 => ?_) (Wd_cw hR.1 e (fun a h1 h2 h3 => ?_) (fun d hd => ?_) (fun i hi => ?_)) (Vd_cw hR.2.1 e)
  · rw [zu_ne _ _ _ h2, zu_ne _ _ _ (by omega)]
  · rw [zu_ne _ _ _ h3, zu_ne _ _ _ h1]
  · have h4 : I 4 d = I 49 (5 + d) := hR.1.2.2.2.2.2.1 d hd
    by_cases h : d = c
    · subst h; simp only [zu_rd, Nat.reduceEqDiff, reduceIte]
    · have h' : ¬ 5 + d = 5 + c := by omega
      simp only [zu_rd, h, h', Nat.reduceEqDiff, reduceIte, h4]
  · have h5 : I 5 i = I 49 (21 + i) := hR.1.2.2.2.2.2.2.1 i hi
    have h' : ¬ 21 + i = 5 + c := by omega
    simp only [zu_rd, h', Nat.reduceEqDiff, reduceIte, h5]
theorem Rl_win (hR : Rl u I J) {c : Nat} (hc : c < 6) (v : Int32) : Rl u (zu (zu I 5 c v) 49 (21 + c) v) J := by
  have e : ∀ k, ¬ (5 ≤ k ∧ k ≤ 26) → (zu (zu I 5 c v) 49 (21 + c) v) 49 k = I 49 k := by
    intro k hk; have : ¬ k = 21 + c := by omega
    simp only [zu_rd, this, Nat.reduceEqDiff, reduceIte]
  refine Rl_w hR (fun a h1 h2 => ?_) (Wd_cw hR.1 e (fun a h1 h2 h3 => ?_) (fun d hd => ?_) (fun i hi => ?_)) (Vd_cw hR.2.1 e)
  · rw [zu_ne _ _ _ h2, zu_ne _ _ _ (by omega)]
  · rw [zu_ne _ _ _ h3, zu_ne _ _ _ h2]
  · have h4 : I 4 d = I 49 (5 + d) := hR.1.2.2.2.2.2.1 d hd
    have h' : ¬ 5 + d = 21 + c := by omega
    simp only [zu_rd, h', Nat.reduceEqDiff, reduceIte, h4]
  · have h5 : I 5 i = I 49 (21 + i) := hR.1.2.2.2.2.2.2.1 i hi
    by_cases h : i = c
    · subst h; simp only [zu_rd, Nat.reduceEqDiff, reduceIte]
    · have h' : ¬ 21 + i = 21 + c := by omega
      simp only [zu_rd, h, h', Nat.reduceEqDiff, reduceIte, h5]
