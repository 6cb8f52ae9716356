/-! ===== what may be taken back, of the reference ===== -/
def Km (I I' : ZI) (m d : Nat) : Prop :=
  (∀ a, a ≠ 49 → I' a = I a) ∧ (∀ k, k ≠ 4 → k < 66 → I' 49 k = I 49 k) ∧ I' 49 4 = nI (m + 1) ∧ (∀ j, j < 4 → I' 49 (66 + 4 * m + j) = I 49 (38 + j)) ∧ (∀ i, i < 4 * m → I' 49 (66 + i) = I 49 (66 + 4 * d + i))
variable (u : Nat) (I : ZI) (J : ZJ)
theorem p_X12_keep_53 {m : Nat} (hm : m < 8) (h4 : I 49 4 = nI m) (q : YQv) (hq : ∀ I', Km I I' m 0 → q I' J) (o : Option Value) : b_X12_keep_51 (qv (shp u) q) [some (.ref 48), o] [] (shp u) I J := by
  rw [g_X12_keep_51]
  have c4 : ∀ k, cpm I (66 + 4 * m) k 49 4 = nI m := fun k => by rw [← h4]; exact if_neg (by omega)
  refine zlp 4 (fun k L I' J' => L = [some (.ref 48), some (.int (nI k))] ∧ I' = cpm I (66 + 4 * m) k ∧ J' = J) ?_ ?_ _ _ _ ⟨rfl, (cpm_0 I _).symm, rfl⟩
  · rintro k hk r L I' J' ⟨rfl, rfl, rfl⟩ hr
    rw [g_X12_keep_53, c4]
    have e1 : (38 : Int32) + nI k = nI (38 + k) := mI_add 38 k
    have e2 : (66 : Int32) + (4 : Int32) * nI m + nI k = nI (66 + 4 * m + k) := by
      have a1 : (4 : Int32) * nI m = nI (4 * m) := mI_mul 4 m
      have a2 : (66 : Int32) + nI (4 * m) = nI (66 + 4 * m) := mI_add 66 (4 * m)
      rw [a1, a2, mI_add]
    refine ⟨fun h => ?_, fun _ => ⟨?_, ?_, ?_⟩⟩
    · have : nI 4 ≤ nI k := h
      rw [mI_le (by omega) (by omega)] at this; omega
    · rw [e1]; exact mI_in (by omega) (by omega)
    · rw [e2]; exact mI_in (by omega) (by omega)
    · rw [e1, e2, mI_nat (show 38 + k < 2147483648 by omega), mI_nat (show 66 + 4 * m + k < 2147483648 by omega), mI_one]
      exact hr _ _ _ ⟨rfl, cpm_s I (by omega) hk, rfl⟩
  · rintro r L I' J' ⟨rfl, rfl, rfl⟩
    rw [g_X12_keep_53, c4]
    refine ⟨fun _ => ⟨rfl, hq _ ?_⟩, fun h => absurd (show nI 4 ≤ nI 4 from by rw [i_le]; exact Int.le_refl _) h⟩
    refine ⟨fun a ha => ?_, fun k k4 k66 => ?_, ?_, fun j hj => ?_, fun i hi => ?_⟩
    · rw [zu_ne _ _ _ ha]; funext g
      exact if_neg (by omega)
    · rw [zu_rd, if_pos rfl, if_neg k4]; exact if_neg (by omega)
    · rw [zu_rd, if_pos rfl, if_pos rfl, mI_one]
    · rw [zu_rd, if_pos rfl, if_neg (by omega)]
      have e : cpm I (66 + 4 * m) 4 49 (66 + 4 * m + j) = I 49 (38 + (66 + 4 * m + j - (66 + 4 * m))) := if_pos (by omega)
      rw [e]; congr 1; omega
    · rw [zu_rd, if_pos rfl, if_neg (by omega)]
      have e : cpm I (66 + 4 * m) 4 49 (66 + i) = I 49 (66 + i) := if_neg (by omega)
      rw [e]
theorem p_X12_keep {k m d : Nat} (hk : I 49 4 = nI k) (hm : k = m + d) (hd : (d = 0 ∧ m < 8) ∨ (d = 1 ∧ m = 7)) (q : YQv) (hq : ∀ I', Km I I' m d → q I' J) : u_X12_keep [.ref 48] (shp u) I J q := by
  rw [e_X12_keep, hk]
  have e8 : (nI k = (8 : Int32)) = (k = 8) := by
    have : (nI k = (8 : Int32)) = (nI k = nI 8) := rfl
    rw [this, mI_eq (by omega) (by omega)]
  rw [e8]
  refine ⟨fun h => ?_, fun h => ?_⟩
  · have h0 : d = 0 := by omega
    subst h0
    exact p_X12_keep_53 u I J (by omega) (by rw [hk, hm]; rfl) q hq none
  · have h0 : d = 1 ∧ m = 7 := by omega
    obtain ⟨rfl, rfl⟩ := h0
    refine zlp 28 (fun k L I' J' => L = [some (.ref 48), some (.int (nI k))] ∧ I' = shm I k ∧ J' = J) ?_ ?_ _ _ _ ⟨rfl, (shm_0 I).symm, rfl⟩
    · rintro k hk r L I' J' ⟨rfl, rfl, rfl⟩ hr
      rw [g_X12_keep_13]
      have e1 : (70 : Int32) + nI k = nI (70 + k) := mI_add 70 k
      have e2 : (66 : Int32) + nI k = nI (66 + k) := mI_add 66 k
      refine ⟨fun h => ?_, fun _ => ⟨?_, ?_, ?_⟩⟩
      · have : nI 28 ≤ nI k := h
        rw [mI_le (by omega) (by omega)] at this; omega
      · rw [e1]; exact mI_in (by omega) (by omega)
      · rw [e2]; exact mI_in (by omega) (by omega)
      · rw [e1, e2, mI_nat (show 70 + k < 2147483648 by omega), mI_nat (show 66 + k < 2147483648 by omega), mI_one]
        exact hr _ _ _ ⟨rfl, shm_s I k, rfl⟩
    · rintro r L I' J' ⟨rfl, rfl, rfl⟩
      rw [g_X12_keep_13]
      refine ⟨fun _ => ?_, fun h => absurd (show nI 28 ≤ nI 28 from by rw [i_le]; exact Int.le_refl _) h⟩
      refine p_X12_keep_53 u _ _ (m := 7) (by omega) rfl q (fun I' hK => hq I' ?_) _
      obtain ⟨c1, c2, c3, c4, c5⟩ := hK
      refine ⟨fun a ha => ?_, fun k k4 k66 => ?_, c3, fun j hj => ?_, fun i hi => ?_⟩
      · rw [c1 a ha, zu_ne _ _ _ ha]; funext g
        exact if_neg (by omega)
      · rw [c2 k k4 k66, zu_rd, if_pos rfl, if_neg k4]; exact if_neg (by omega)
      · rw [c4 j hj, zu_rd, if_pos rfl, if_neg (by omega)]; exact if_neg (by omega)
      · rw [c5 i hi, zu_rd, if_pos rfl, if_neg (by omega)]
        have e : shm I 28 49 (66 + 4 * 0 + i) = I 49 (66 + 4 * 0 + i + 4) := if_pos (by omega)
        rw [e]; congr 1; omega
