/-! ===== the relation ===== -/
def Vd (n : Nat → Int32) : Prop :=
  (1 ≤ (n 0).toInt ∧ (n 0).toInt ≤ 15) ∧ (1 ≤ (n 1).toInt ∧ (n 1).toInt ≤ 12) ∧ (0 ≤ (n 2).toInt ∧ (n 2).toInt ≤ 5) ∧ (0 ≤ (n 3).toInt ∧ (n 3).toInt ≤ 6) ∧ (0 ≤ (n 4).toInt ∧ (n 4).toInt ≤ 8) ∧
  (∀ h : Nat, (h : Int) < (n 2).toInt → 0 ≤ (n (27 + 2 * h)).toInt ∧ (n (27 + 2 * h)).toInt ≤ 5) ∧
  (-1 ≤ (n 37).toInt ∧ (n 37).toInt < (n 2).toInt) ∧ (0 ≤ (n 38).toInt ∧ (n 38).toInt ≤ (n 0).toInt) ∧ (0 ≤ (n 39).toInt ∧ (n 39).toInt ≤ (n 38).toInt) ∧
  n 41 = bI (fel (n 1) (n 40)) ∧
  (∀ k : Nat, (k : Int) < (n 4).toInt → (0 ≤ (n (66 + 4 * k)).toInt ∧ (n (66 + 4 * k)).toInt ≤ (n 0).toInt) ∧ (0 ≤ (n (67 + 4 * k)).toInt ∧ (n (67 + 4 * k)).toInt ≤ (n (66 + 4 * k)).toInt) ∧ n (69 + 4 * k) = bI (fel (n 1) (n (68 + 4 * k)))) ∧
  (∀ k : Nat, (k : Int) < (n 3).toInt → (0 ≤ (n (43 + 4 * k)).toInt ∧ (n (43 + 4 * k)).toInt ≤ 5) ∧ vr (n (44 + 4 * k)))
def Wd (b : Nat) (I : ZI) (n : Nat → Int32) : Prop :=
  I (b + 1) 0 = n 0 ∧ I (b + 1) 1 = n 1 ∧ I b 2 = n 2 ∧ I b 5 = n 3 ∧ I (b + 4) 4 = n 4 ∧
  (∀ c, c < 16 → I (b + 2) c = n (5 + c)) ∧ (∀ i, i < 6 → I (b + 3) i = n (21 + i)) ∧
  (∀ h : Nat, (h : Int) < (n 2).toInt → I (b + 8) h = n (27 + 2 * h) ∧ I (b + 9) h = n (28 + 2 * h)) ∧
  I (b + 4) 0 = n 37 ∧ I (b + 4) 1 = n 38 ∧ I (b + 4) 2 = n 39 ∧ I (b + 4) 3 = n 40 ∧
  (∀ k : Nat, (k : Int) < (n 4).toInt → I (b + 5) k = n (66 + 4 * k) ∧ I (b + 6) k = n (67 + 4 * k) ∧ I (b + 7) k = n (68 + 4 * k)) ∧
  (∀ k : Nat, (k : Int) < (n 3).toInt → I (b + 10) k = n (42 + 4 * k) ∧ I (b + 11) k = n (43 + 4 * k) ∧ I (b + 12) k = n (44 + 4 * k) ∧ I (b + 13) k = n (45 + 4 * k))
def Im (u : Nat) (I : ZI) : Prop := ∀ i, i < 2 → (∀ b, (zim u).getD i none = some b → I 51 i = 1 ∧ Wd b I (fun k => I 50 (98 * i + k)) ∧ Vd (fun k => I 50 (98 * i + k))) ∧ ((zim u).getD i none = none → I 51 i = 0)
def Tx (I : ZI) : Prop := I 31 1 = I 48 15 ∧ (0 ≤ (I 31 1).toInt ∧ (I 31 1).toInt ≤ 150) ∧ ∀ i, i < 150 → I 32 i = I 58 i ∧ 0 ≤ (I 32 i).toInt ∧ (I 32 i).toInt ≤ 127
def Rl (u : Nat) (I : ZI) (J : ZJ) : Prop :=
  Wd 2 I (I 49) ∧ Vd (I 49) ∧ (I 0 10 = I 52 0 ∧ I 0 11 = I 52 1 ∧ I 0 12 = I 52 2) ∧ (J 0 8 = J 48 4 ∧ J 0 9 = J 48 5) ∧ Tx I ∧ Im u I ∧ u ≤ 4
theorem zim_b {u i b : Nat} (h : (zim u).getD i none = some b) : b = 61 ∨ b = 75 := by
  have hz : ∀ v : Nat, (v = 0 ∨ v = 1 ∨ v = 2 ∨ v = 3 ∨ 4 ≤ v) := by intro v; omega
  have key : ∀ l : List (Option Nat), (∀ x ∈ l, x = none ∨ x = some 61 ∨ x = some 75) → l.getD i none = some b → b = 61 ∨ b = 75 := by
    intro l hl hb
    rw [List.getD_eq_getElem?_getD] at hb
    cases hc : l[i]? with
    | none => rw [hc] at hb; exact absurd hb (by simp)
    | some y =>
      rw [hc] at hb
      have hm := hl y (List.mem_of_getElem? hc)
      have hb2 : y = some b := hb
      subst hb2
      rcases hm with h1 | h1 | h1
      · exact absurd h1 (by simp)
      · exact Or.inl (Option.some.inj h1)
      · exact Or.inr (Option.some.inj h1)
  refine key (zim u) ?_ h
  rcases hz u with e | e | e | e | e
  · subst e; simp [zim]
  · subst e; simp [zim]
  · subst e; simp [zim]
  · subst e; simp [zim]
  · obtain ⟨w, rfl⟩ : ∃ w, u = w + 4 := ⟨u - 4, by omega⟩
    simp [zim]
theorem Wd_fr {b : Nat} {I I' : ZI} {n : Nat → Int32} (h : Wd b I n) (hf : ∀ a, b ≤ a → a ≤ b + 13 → I' a = I a) : Wd b I' n := by
  unfold Wd at *
  rw [hf b (by omega) (by omega), hf (b + 1) (by omega) (by omega), hf (b + 2) (by omega) (by omega), hf (b + 3) (by omega) (by omega), hf (b + 4) (by omega) (by omega), hf (b + 5) (by omega) (by omega), hf (b + 6) (by omega) (by omega), hf (b + 7) (by omega) (by omega), hf (b + 8) (by omega) (by omega), hf (b + 9) (by omega) (by omega), hf (b + 10) (by omega) (by omega), hf (b + 11) (by omega) (by omega), hf (b + 12) (by omega) (by omega), hf (b + 13) (by omega) (by omega)]
  exact h
def Fr (I I' : ZI) : Prop := (∀ a, a ≠ 31 → a ≠ 48 → ¬ (16 ≤ a ∧ a ≤ 29) → ¬ (33 ≤ a ∧ a ≤ 41) → ¬ (53 ≤ a ∧ a ≤ 57) → a ≠ 59 → a ≠ 60 → I' a = I a) ∧ I' 31 1 = I 31 1 ∧ I' 48 15 = I 48 15
theorem Fr_tr {I I1 I2 : ZI} (h1 : Fr I I1) (h2 : Fr I1 I2) : Fr I I2 :=
  ⟨fun a x1 x2 x3 x4 x5 x6 x7 => by rw [h2.1 a x1 x2 x3 x4 x5 x6 x7, h1.1 a x1 x2 x3 x4 x5 x6 x7], by rw [h2.2.1, h1.2.1], by rw [h2.2.2, h1.2.2]⟩
theorem Fr_rf (I : ZI) : Fr I I := ⟨fun _ _ _ _ _ _ _ _ => rfl, rfl, rfl⟩
theorem Fr_33 {I I1 : ZI} (h : F33 I I1) : Fr I I1 :=
  ⟨fun a _ _ _ x _ _ _ => h a (by omega), by rw [h 31 (by decide)], by rw [h 48 (by decide)]⟩
theorem Fr_M {I I1 : ZI} (h : FM I I1) : Fr I I1 :=
  ⟨fun a _ x _ _ y _ _ => h.1 a x (by omega), by rw [h.1 31 (by decide) (by decide)], h.2 15 (by decide) (by decide) (by decide)⟩
theorem Im_fr {u : Nat} {I I' : ZI} (h : Im u I) (h50 : I' 50 = I 50) (h51 : I' 51 = I 51) (hf : ∀ a, 61 ≤ a → I' a = I a) : Im u I' := by
  intro i hi
  obtain ⟨h1, h2⟩ := h i hi
  rw [h50, h51]
  refine ⟨fun b hb => ?_, h2⟩
  obtain ⟨x1, x2, x3⟩ := h1 b hb
  have := zim_b hb
  exact ⟨x1, Wd_fr x2 (fun a ha _ => hf a (by omega)), x3⟩
theorem Rl_fr {u : Nat} {I I' : ZI} {J J' : ZJ} (h : Rl u I J) (hf : Fr I I') (hJ : J' 0 = J 0) (hK : J' 48 = J 48) : Rl u I' J' := by
  obtain ⟨hW, hV, hC, hP, hT, hI, hu⟩ := h
  obtain ⟨hf, h31, h48⟩ := hf
  have e : ∀ a, a < 16 ∨ a = 32 ∨ (49 ≤ a ∧ a ≤ 52) ∨ a = 58 ∨ 61 ≤ a → I' a = I a := fun a ha => hf a (by omega) (by omega) (by omega) (by omega) (by omega) (by omega) (by omega)
  refine ⟨?_, ?_, ?_, ?_, ?_, ?_, hu⟩
  · rw [e 49 (by omega)]; exact Wd_fr hW (fun a _ ha => e a (by omega))
  · rw [e 49 (by omega)]; exact hV
  · rw [e 0 (by omega), e 52 (by omega)]; exact hC
  · rw [hJ, hK]; exact hP
  · unfold Tx; rw [h31, h48, e 32 (by omega), e 58 (by omega)]; exact hT
  · exact Im_fr hI (e 50 (by omega)) (e 51 (by omega)) (fun a ha => e a (by omega))
theorem Rl_Rd {u : Nat} {I : ZI} {J : ZJ} (h : Rl u I J) : Rd I (I 49 0) (I 49 1) (fun c => I 49 (5 + c)) (fun i => I 49 (21 + i)) :=
  ⟨h.1.1, h.1.2.1, h.1.2.2.2.2.2.1, h.1.2.2.2.2.2.2.1, h.2.1.1.1, h.2.1.1.2⟩
theorem Rl_Mw {u : Nat} {I : ZI} {J : ZJ} (h : Rl u I J) : Mw I (I 49 0) (I 49 1) (fun c => I 49 (5 + c)) (fun i => I 49 (21 + i)) :=
  ⟨rfl, rfl, fun _ _ => rfl, fun _ _ => rfl, h.2.1.1.1, h.2.1.1.2⟩
