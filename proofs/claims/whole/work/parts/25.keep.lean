/-! ===== what may be taken back ===== -/
def shc (I : ZI) (k : Nat) : ZI := fun a i => if (a = 7 ∨ a = 8 ∨ a = 9) ∧ i < k then I a (i + 1) else I a i
theorem shc_0 (I : ZI) : shc I 0 = I := by funext a i; simp [shc]
theorem shc_s (I : ZI) (k : Nat) : zu (zu (zu (shc I k) 7 k (shc I k 7 (k + 1))) 8 k (shc I k 8 (k + 1))) 9 k (shc I k 9 (k + 1)) = shc I (k + 1) := by
  funext a i
  have e7 : shc I k 7 (k + 1) = I 7 (k + 1) := if_neg (by omega)
  have e8 : shc I k 8 (k + 1) = I 8 (k + 1) := if_neg (by omega)
  have e9 : shc I k 9 (k + 1) = I 9 (k + 1) := if_neg (by omega)
  rw [e7, e8, e9]
  by_cases ha : a = 7 ∨ a = 8 ∨ a = 9
  · by_cases hi : i = k
    · subst hi
      rcases ha with e | e | e <;> subst e <;> simp [zu_rd, shc]
    · by_cases h2 : i < k
      · have : i < k + 1 := by omega
        rcases ha with e | e | e <;> subst e <;> simp [zu_rd, shc, hi, h2, this]
      · have : ¬ i < k + 1 := by omega
        rcases ha with e | e | e <;> subst e <;> simp [zu_rd, shc, hi, h2, this]
  · have h7 : ¬ a = 7 := fun h => ha (Or.inl h)
    have h8 : ¬ a = 8 := fun h => ha (Or.inr (Or.inl h))
    have h9 : ¬ a = 9 := fun h => ha (Or.inr (Or.inr h))
    simp [zu_rd, shc, h7, h8, h9]
def shm (I : ZI) (k : Nat) : ZI := fun a i => if a = 49 ∧ 66 ≤ i ∧ i < 66 + k then I 49 (i + 4) else I a i
theorem shm_0 (I : ZI) : shm I 0 = I := by
  funext a i
  have : ¬ (a = 49 ∧ 66 ≤ i ∧ i < 66 + 0) := by omega
  simp only [shm, this, if_false]
theorem shm_s (I : ZI) (k : Nat) : zu (shm I k) 49 (66 + k) (shm I k 49 (70 + k)) = shm I (k + 1) := by
  funext a i
  have e : shm I k 49 (70 + k) = I 49 (70 + k) := by
    exact if_neg (by omega)
  rw [e, zu_rd]
  by_cases ha : a = 49
  · subst ha
    by_cases hi : i = 66 + k
    · subst hi
      have : ((49 : Nat) = 49 ∧ 66 ≤ 66 + k ∧ 66 + k < 66 + (k + 1)) := by omega
      simp only [if_true, shm, this]
      have : 70 + k = 66 + k + 4 := by omega
      rw [this]; simp
    · simp only [if_true, hi, if_false]
      by_cases h2 : 66 ≤ i ∧ i < 66 + k
      · have h3 : ((49 : Nat) = 49 ∧ 66 ≤ i ∧ i < 66 + k) := ⟨rfl, h2⟩
        have h4 : ((49 : Nat) = 49 ∧ 66 ≤ i ∧ i < 66 + (k + 1)) := by omega
        unfold shm; rw [if_pos h3, if_pos h4]
      · have h3 : ¬ ((49 : Nat) = 49 ∧ 66 ≤ i ∧ i < 66 + k) := fun h => h2 h.2
        have h4 : ¬ ((49 : Nat) = 49 ∧ 66 ≤ i ∧ i < 66 + (k + 1)) := by omega
        unfold shm; rw [if_neg h3, if_neg h4]
  · simp only [ha, if_false, shm, false_and]
def cpm (I : ZI) (b k : Nat) : ZI := fun a i => if a = 49 ∧ b ≤ i ∧ i < b + k then I 49 (38 + (i - b)) else I a i
theorem cpm_0 (I : ZI) (b : Nat) : cpm I b 0 = I := by
  funext a i
  have : ¬ (a = 49 ∧ b ≤ i ∧ i < b + 0) := by omega
  simp only [cpm, this, if_false]
theorem cpm_s (I : ZI) {b k : Nat} (hb : 66 ≤ b) (hk : k < 4) : zu (cpm I b k) 49 (b + k) (cpm I b k 49 (38 + k)) = cpm I b (k + 1) := by
  funext a i
  have e : cpm I b k 49 (38 + k) = I 49 (38 + k) := by
    exact if_neg (by omega)
  rw [e, zu_rd]
  by_cases ha : a = 49
  · subst ha
    by_cases hi : i = b + k
    · subst hi
      have h3 : ((49 : Nat) = 49 ∧ b ≤ b + k ∧ b + k < b + (k + 1)) := by omega
      unfold cpm; rw [if_pos rfl, if_pos rfl, if_pos h3]
      have : b + k - b = k := by omega
      rw [this]
    · rw [if_pos rfl, if_neg hi]
      by_cases h2 : b ≤ i ∧ i < b + k
      · have h3 : ((49 : Nat) = 49 ∧ b ≤ i ∧ i < b + k) := ⟨rfl, h2⟩
        have h4 : ((49 : Nat) = 49 ∧ b ≤ i ∧ i < b + (k + 1)) := by omega
        unfold cpm; rw [if_pos h3, if_pos h4]
      · have h3 : ¬ ((49 : Nat) = 49 ∧ b ≤ i ∧ i < b + k) := fun h => h2 h.2
        have h4 : ¬ ((49 : Nat) = 49 ∧ b ≤ i ∧ i < b + (k + 1)) := by omega
        unfold cpm; rw [if_neg h3, if_neg h4]
  · simp only [ha, if_false, cpm, false_and]
variable (u : Nat) (I : ZI) (J : ZJ)
theorem p_X8_dropOldest (q : YQv) (hq : q (zu (shc I 7) 6 4 7) J) : u_X8_dropOldest [.ref 6] (shp u) I J q := by
  rw [e_X8_dropOldest]
  refine zlp 7 (fun k L I' J' => L = [some (.ref 6), some (.int (nI (k + 1)))] ∧ I' = shc I k ∧ J' = J) ?_ ?_ _ _ _ ⟨rfl, (shc_0 I).symm, rfl⟩
  · rintro k hk r L I' J' ⟨rfl, rfl, rfl⟩ hr
    rw [g_X8_dropOldest_2]
    have e1 : nI (k + 1) - 1 = nI k := by have := mI_sub (a := k + 1) (b := 1) (by omega); exact this
    refine ⟨fun h => ?_, fun _ => ?_⟩
    · have : nI 8 ≤ nI (k + 1) := h
      rw [mI_le (by omega) (by omega)] at this; omega
    · have i1 : vp_in (nI (k + 1)) 8 := mI_in (by omega) (by omega)
      have i2 : vp_in (nI k) 8 := mI_in (by omega) (by omega)
      rw [e1, mI_nat (show k < 2147483648 by omega), mI_nat (show k + 1 < 2147483648 by omega), mI_one]
      exact ⟨i1, i2, i1, i2, i1, i2, hr _ _ _ ⟨rfl, shc_s I k, rfl⟩⟩
  · rintro r L I' J' ⟨rfl, rfl, rfl⟩
    rw [g_X8_dropOldest_2]
    exact ⟨fun _ => ⟨rfl, hq⟩, fun h => absurd (show nI 8 ≤ nI (7 + 1) from by rw [i_le]; exact Int.le_refl _) h⟩
/-- what keep leaves, of the class: m stay, from d on -/
def Kc (I I' : ZI) (m d : Nat) : Prop :=
  (∀ a, ¬ (6 ≤ a ∧ a ≤ 9) → I' a = I a) ∧ (∀ g, g ≠ 4 → I' 6 g = I 6 g) ∧ I' 6 4 = nI (m + 1) ∧ I' 7 m = I 6 1 ∧ I' 8 m = I 6 2 ∧ I' 9 m = I 6 3 ∧
  (∀ i, i < m → I' 7 i = I 7 (i + d) ∧ I' 8 i = I 8 (i + d) ∧ I' 9 i = I 9 (i + d))
theorem p_X8_keep {k m d : Nat} (hk : I 6 4 = nI k) (hm : k = m + d) (hd : (d = 0 ∧ m < 8) ∨ (d = 1 ∧ m = 7)) (q : YQv) (hq : ∀ I', Kc I I' m d → q I' J) : u_X8_keep [.ref 6] (shp u) I J q := by
  have main : ∀ I0 : ZI, I0 6 4 = nI m → (∀ I', Kc I0 I' m 0 → q I' J) → b_X8_keep_13 u_X8_dropOldest u_X11_within (qv (shp u) q) [some (.ref 6)] [] (shp u) I0 J := by
    intro I0 h4 hq0
    have hw : 0 ≤ (nI m).toInt ∧ (nI m).toInt ≤ 7 := by rw [i_nI m (by omega)]; omega
    have hv : vp_in (nI m) 8 := mI_in (by omega) (by omega)
    simp only [e_X8_keep, g_X8_keep_13, g_X8_keep_75, p_X11_within, bI_0, Int32.reduceToInt, eq_self, h4, hw, hv, mI_nat (show m < 2147483648 by omega), mI_one, not_true, not_false_iff, Classical.not_not, true_implies, false_implies, and_true, true_and, and_self, if_true, if_false]
    apply hq0
    refine ⟨fun a ha => ?_, fun g hg => ?_, ?_, ?_, ?_, ?_, fun i hi => ?_⟩
    · rw [zu_ne _ _ _ (by omega), zu_ne _ _ _ (by omega), zu_ne _ _ _ (by omega), zu_ne _ _ _ (by omega)]
    · simp only [zu_rd, Nat.reduceEqDiff, reduceIte, hg]
    · simp only [zu_rd, Nat.reduceEqDiff, reduceIte]
    · simp only [zu_rd, Nat.reduceEqDiff, reduceIte]
    · simp only [zu_rd, Nat.reduceEqDiff, reduceIte]
    · simp only [zu_rd, Nat.reduceEqDiff, reduceIte]
    · have : ¬ i = m := by omega
      simp only [zu_rd, Nat.reduceEqDiff, reduceIte, this, Nat.add_zero, and_self]
  rw [e_X8_keep, hk]
  refine ⟨fun h => ?_, fun h => ?_⟩
  · have h8 : nI k < nI 8 := h
    rw [mI_lt (by omega) (by omega)] at h8
    have h0 : d = 0 := by omega
    subst h0
    exact main I (by rw [hk, hm]; rfl) hq
  · have h8 : ¬ nI k < nI 8 := h
    rw [mI_lt (by omega) (by omega)] at h8
    have h0 : d = 1 ∧ m = 7 := by omega
    obtain ⟨rfl, rfl⟩ := h0
    refine p_X8_dropOldest u I J _ ?_
    refine main _ rfl (fun I' hK => hq I' ?_)
    obtain ⟨c1, c2, c3, c4, c5, c6, c7⟩ := hK
    have s6 : ∀ g, g ≠ 4 → (zu (shc I 7) 6 4 7) 6 g = I 6 g := fun g hg => by simp [zu_rd, shc, hg]
    refine ⟨fun a ha => ?_, fun g hg => by rw [c2 g hg, s6 g hg], c3, by rw [c4, s6 1 (by decide)], by rw [c5, s6 2 (by decide)], by rw [c6, s6 3 (by decide)], fun i hi => ?_⟩
    · rw [c1 a ha, zu_ne _ _ _ (by omega)]
      funext g
      have : ¬ ((a = 7 ∨ a = 8 ∨ a = 9) ∧ g < 7) := by omega
      simp only [shc, this, if_false]
    · obtain ⟨x1, x2, x3⟩ := c7 i hi
      rw [x1, x2, x3]
      simp [zu_rd, shc, hi]
