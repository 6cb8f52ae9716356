/-! ===== the start ===== -/
theorem zcI_rd (I : ZI) (a b g : Nat) : zcI I a b g = if b = a then 0 else I b g := rfl
theorem zcJ_rd (J : ZJ) (a b g : Nat) : zcJ J a b g = if b = a then 0 else J b g := rfl
def stI (I : ZI) : ZI := zu (zu (zu (flr (mnI (cnI I)) 49 0 (fun _ => 0) 66) 49 0 8) 49 1 5) 49 37 (-1)
def stJ (J : ZJ) : ZJ := mnJ (cnJ J)
theorem stI_ne (I : ZI) {a : Nat} (h : a ≠ 49) : stI I a = mnI (cnI I) a := by unfold stI; rw [zu_ne _ _ _ h, zu_ne _ _ _ h, zu_ne _ _ _ h, flr_ne _ _ h]
theorem stI_49 (I : ZI) (k : Nat) : stI I 49 k = if k = 0 then 8 else if k = 1 then 5 else if k = 37 then -1 else 0 := by
  have hz : ∀ k, flr (mnI (cnI I)) 49 0 (fun _ => 0) 66 49 k = 0 := by
    intro k
    by_cases hk : k < 66
    · rw [flr_in _ _ (by omega) (by omega)]
    · rw [flr_out _ _ (by omega)]
      unfold mnI; simp only [zcI_rd, Nat.reduceEqDiff, reduceIte]
  unfold stI
  by_cases h0 : k = 0
  · subst h0; simp only [zu_rd, Nat.reduceEqDiff, reduceIte]
  · by_cases h1 : k = 1
    · subst h1; simp only [zu_rd, Nat.reduceEqDiff, reduceIte]
    · by_cases h2 : k = 37
      · subst h2; simp only [zu_rd, Nat.reduceEqDiff, reduceIte]
      · simp only [zu_rd, reduceIte, h0, h1, h2]; exact hz k
theorem Rl_init (I : ZI) (J : ZJ) : Rl 0 (stI I) (stJ J) := by
  have n0 : stI I 49 0 = 8 := by rw [stI_49]; rfl
  have n1 : stI I 49 1 = 5 := by rw [stI_49]; rfl
  have n37 : stI I 49 37 = -1 := by rw [stI_49]; rfl
  have nz : ∀ k, k ≠ 0 → k ≠ 1 → k ≠ 37 → stI I 49 k = 0 := fun k h0 h1 h2 => by rw [stI_49, if_neg h0, if_neg h1, if_neg h2]
  have z0 : (0 : Int32).toInt = 0 := rfl
  have z8 : (8 : Int32).toInt = 8 := rfl
  have z5 : (5 : Int32).toInt = 5 := rfl
  have zm : (-1 : Int32).toInt = -1 := rfl
  have n2 := nz 2 (by decide) (by decide) (by decide)
  have n3 := nz 3 (by decide) (by decide) (by decide)
  have n4 := nz 4 (by decide) (by decide) (by decide)
  have n38 := nz 38 (by decide) (by decide) (by decide)
  have n39 := nz 39 (by decide) (by decide) (by decide)
  have n40 := nz 40 (by decide) (by decide) (by decide)
  have n41 := nz 41 (by decide) (by decide) (by decide)
  have c30 : stI I 3 0 = 8 := by rw [stI_ne I (by decide)]; unfold mnI cnI nwI; simp only [zcI_rd, zu_rd, Nat.reduceEqDiff, Nat.reduceAdd, reduceIte]
  have c31 : stI I 3 1 = 5 := by rw [stI_ne I (by decide)]; unfold mnI cnI nwI; simp only [zcI_rd, zu_rd, Nat.reduceEqDiff, Nat.reduceAdd, reduceIte]
  have c22 : stI I 2 2 = 0 := by rw [stI_ne I (by decide)]; unfold mnI cnI nwI; simp only [zcI_rd, zu_rd, Nat.reduceEqDiff, Nat.reduceAdd, reduceIte]
  have c25 : stI I 2 5 = 0 := by rw [stI_ne I (by decide)]; unfold mnI cnI nwI; simp only [zcI_rd, zu_rd, Nat.reduceEqDiff, Nat.reduceAdd, reduceIte]
  have c60 : stI I 6 0 = -1 := by rw [stI_ne I (by decide)]; unfold mnI cnI nwI; simp only [zcI_rd, zu_rd, Nat.reduceEqDiff, Nat.reduceAdd, reduceIte]
  have c61 : stI I 6 1 = 0 := by rw [stI_ne I (by decide)]; unfold mnI cnI nwI; simp only [zcI_rd, zu_rd, Nat.reduceEqDiff, Nat.reduceAdd, reduceIte]
  have c62 : stI I 6 2 = 0 := by rw [stI_ne I (by decide)]; unfold mnI cnI nwI; simp only [zcI_rd, zu_rd, Nat.reduceEqDiff, Nat.reduceAdd, reduceIte]
  have c63 : stI I 6 3 = 0 := by rw [stI_ne I (by decide)]; unfold mnI cnI nwI; simp only [zcI_rd, zu_rd, Nat.reduceEqDiff, Nat.reduceAdd, reduceIte]
  have c64 : stI I 6 4 = 0 := by rw [stI_ne I (by decide)]; unfold mnI cnI nwI; simp only [zcI_rd, zu_rd, Nat.reduceEqDiff, Nat.reduceAdd, reduceIte]
  have c4 : ∀ k, stI I 4 k = 0 := fun k => by rw [stI_ne I (by decide)]; unfold mnI cnI nwI; simp only [zcI_rd, zu_rd, Nat.reduceEqDiff, Nat.reduceAdd, reduceIte]
  have c5 : ∀ k, stI I 5 k = 0 := fun k => by rw [stI_ne I (by decide)]; unfold mnI cnI nwI; simp only [zcI_rd, zu_rd, Nat.reduceEqDiff, Nat.reduceAdd, reduceIte]
  have c0 : stI I 0 10 = 0 ∧ stI I 0 11 = 0 ∧ stI I 0 12 = 0 := by
    rw [stI_ne I (by decide)]; unfold mnI cnI nwI; simp only [zcI_rd, zu_rd, Nat.reduceEqDiff, Nat.reduceAdd, reduceIte, and_self]
  have c52 : ∀ k, stI I 52 k = 0 := fun k => by rw [stI_ne I (by decide)]; unfold mnI; simp only [zcI_rd, Nat.reduceEqDiff, reduceIte]
  have c51 : ∀ k, stI I 51 k = 0 := fun k => by rw [stI_ne I (by decide)]; unfold mnI; simp only [zcI_rd, Nat.reduceEqDiff, reduceIte]
  have c48 : ∀ k, stI I 48 k = 0 := fun k => by rw [stI_ne I (by decide)]; unfold mnI; simp only [zcI_rd, Nat.reduceEqDiff, reduceIte]
  have c58 : ∀ k, stI I 58 k = 0 := fun k => by rw [stI_ne I (by decide)]; unfold mnI; simp only [zcI_rd, Nat.reduceEqDiff, reduceIte]
  have c311 : stI I 31 1 = 0 := by rw [stI_ne I (by decide)]; unfold mnI cnI nwI; simp only [zcI_rd, zu_rd, Nat.reduceEqDiff, Nat.reduceAdd, reduceIte]
  have c32 : ∀ k, stI I 32 k = 0 := fun k => by rw [stI_ne I (by decide)]; unfold mnI cnI nwI; simp only [zcI_rd, zu_rd, Nat.reduceEqDiff, Nat.reduceAdd, reduceIte]
  have j8 : stJ J 0 8 = 0 := by unfold stJ mnJ cnJ nwJ; simp only [zcJ_rd, zuJ_rd, Nat.reduceEqDiff, Nat.reduceAdd, reduceIte]
  have j9 : stJ J 0 9 = 1 := by unfold stJ mnJ cnJ nwJ; simp only [zcJ_rd, zuJ_rd, Nat.reduceEqDiff, Nat.reduceAdd, reduceIte]
  have m4 : stJ J 48 4 = 0 := by unfold stJ mnJ; simp only [zcJ_rd, zuJ_rd, Nat.reduceEqDiff, Nat.reduceAdd, reduceIte]
  have m5 : stJ J 48 5 = 1 := by unfold stJ mnJ; simp only [zcJ_rd, zuJ_rd, Nat.reduceEqDiff, Nat.reduceAdd, reduceIte]
  refine ⟨?_, ?_, ?_, ?_, ?_, ?_, by omega⟩
  · unfold Wd
    simp only [Nat.reduceAdd]
    rw [n0, n1, n2, n3, n4, n37, n38, n39, n40, z0]
    refine ⟨c30, c31, c22, c25, c64, fun c hc => ?_, fun i hi => ?_, fun h hh => by omega, c60, c61, c62, c63, fun k hk => by omega, fun k hk => by omega⟩
    · rw [c4, nz _ (by omega) (by omega) (by omega)]
    · rw [c5, nz _ (by omega) (by omega) (by omega)]
  · unfold Vd
    rw [n0, n1, n2, n3, n4, n37, n38, n39, n40, n41, z0, z8, z5, zm]
    have hf : ¬ fel 5 0 := by unfold fel; rw [i_neg, z0, z5]; omega
    exact ⟨by omega, by omega, by omega, by omega, by omega, fun h hh => by omega, by omega, by omega, by omega, (bI_f hf).symm, fun k hk => by omega, fun k hk => by omega⟩
  · rw [c0.1, c0.2.1, c0.2.2, c52, c52, c52]; exact ⟨rfl, rfl, rfl⟩
  · rw [j8, j9, m4, m5]; exact ⟨rfl, rfl⟩
  · unfold Tx
    rw [c311, c48, z0]
    refine ⟨rfl, by omega, fun i hi => ?_⟩
    rw [c32, c58, z0]; exact ⟨rfl, by omega, by omega⟩
  · intro i hi
    have h2 : i = 0 ∨ i = 1 := by omega
    refine ⟨fun b hb => ?_, fun _ => c51 i⟩
    rcases h2 with rfl | rfl <;> exact absurd hb (show ¬ (none : Option Nat) = some b from fun h => by cases h)
