/-! ===== what a text tells: the pure part, and the pieces of both sides ===== -/
def nvl (n : Nat) (T : Nat → Int32) (p : Nat) : Int32 := nvf T (tA n T p) (tE n T p - tA n T p)
noncomputable def ptwo (n : Nat) (T : Nat → Int32) (p : Nat) (lo1 hi1 lo2 hi2 : Int32) : Nat ⊕ (Int32 × Int32 × Nat) :=
  cIf (numk n T p lo1 hi1)
    (cIf (numk n T (tE n T p) lo2 hi2)
      (cIf (tS n T (tE n T (tE n T p)) = 3) (.inr (nvl n T p, nvl n T (tE n T p), tE n T (tE n T (tE n T p)))) (.inl (tA n T (tE n T (tE n T p)))))
      (.inl (tA n T (tE n T p))))
    (.inl (tA n T p))
def mpr {α : Type} (f : Int32 → Int32 → α) (r : Nat ⊕ (Int32 × Int32 × Nat)) : Nat ⊕ (α × Nat) := match r with
  | .inl a => .inl a
  | .inr (x, y, e) => .inr (f x y, e)
def updn (D : Nat → Int32) (k : Nat) (v : Int32) : Nat → Int32 := fun j => if j = k then v else D j
def efC (D : Nat → Int32) (sg x y : Int32) : Nat → Int32 := updn D (5 + x.toInt.toNat) (sg * y)
def efW (D : Nat → Int32) (sg x y : Int32) : Nat → Int32 := updn D (21 + x.toInt.toNat) (sg * y)
def efH (D : Nat → Int32) (sg x y : Int32) : Nat → Int32 := updn (updn (updn D (27 + 2 * (D 2).toInt.toNat) x) (28 + 2 * (D 2).toInt.toNat) (sg * y)) 2 (D 2 + 1)
def drf (x y : Int32) : Nat → Int32 := fun k => if k = 0 then x else if k = 1 then y else if k = 37 then -1 else 0
noncomputable def phd (n : Nat) (T : Nat → Int32) (D : Nat → Int32) (p : Nat) (sg : Int32) : Nat ⊕ ((Nat → Int32) × Nat) := cIf (D 2 = 5) (.inl (tA n T p)) (mpr (efH D sg) (ptwo n T (tE n T p) 0 5 0 12))
noncomputable def pitem (n : Nat) (T : Nat → Int32) (D : Nat → Int32) (p : Nat) : Nat ⊕ ((Nat → Int32) × Nat) :=
  cIf (isW n T p 2) (mpr (efC D 1) (ptwo n T (tE n T p) 0 (D 0) 0 4))
  (cIf (isW n T p 3) (mpr (efC D (-1)) (ptwo n T (tE n T p) 0 (D 0) 0 4))
  (cIf (isW n T p 4) (mpr (efW D 1) (ptwo n T (tE n T p) 0 5 0 3))
  (cIf (isW n T p 5) (mpr (efW D (-1)) (ptwo n T (tE n T p) 0 5 0 3))
  (cIf (isW n T p 6) (phd n T D p 1)
  (cIf (isW n T p 7) (phd n T D p (-1)) (.inl (tA n T p)))))))
noncomputable def proad (n : Nat) (T : Nat → Int32) (p : Nat) : Nat ⊕ ((Nat → Int32) × Nat) := cIf (isW n T p 1) (mpr drf (ptwo n T (tE n T p) 1 15 1 12)) (.inl (tA n T p))
def Dr (D : Nat → Int32) : Prop := Vd D ∧ D 3 = 0 ∧ D 4 = 0
theorem ptwo_ok {n p : Nat} {T : Nat → Int32} {lo1 hi1 lo2 hi2 x y : Int32} {e : Nat} (hp : p ≤ n) (h : ptwo n T p lo1 hi1 lo2 hi2 = .inr (x, y, e)) : (lo1.toInt ≤ x.toInt ∧ x.toInt ≤ hi1.toInt) ∧ (lo2.toInt ≤ y.toInt ∧ y.toInt ≤ hi2.toInt) ∧ p + 1 ≤ e ∧ e ≤ n := by
  unfold ptwo at h
  by_cases h1 : numk n T p lo1 hi1
  · rw [cIf_t h1] at h
    by_cases h2 : numk n T (tE n T p) lo2 hi2
    · rw [cIf_t h2] at h
      by_cases h3 : tS n T (tE n T (tE n T p)) = 3
      · rw [cIf_t h3] at h
        have h4 := Sum.inr.inj h
        have hx : nvl n T p = x := congrArg Prod.fst h4
        have hy : nvl n T (tE n T p) = y := congrArg (fun z => z.2.1) h4
        have he : tE n T (tE n T (tE n T p)) = e := congrArg (fun z => z.2.2) h4
        have a1 := tE_rg T hp
        have b1 := tA_rg T hp
        have a2 := tE_rg T a1.2.1
        have b2 := tA_rg T a1.2.1
        have a3 := tE_rg T a2.2.1
        have b3 := tA_rg T a2.2.1
        have hlt : tA n T p < n := Classical.byContradiction (fun z => by have := (tS_0 (p := p) T).2 z; have := h1.1; omega)
        have := a1.2.2.1 hlt
        exact ⟨by rw [← hx]; exact h1.2.2, by rw [← hy]; exact h2.2.2, by omega, by omega⟩
      · rw [cIf_f h3] at h; cases h
    · rw [cIf_f h2] at h; cases h
  · rw [cIf_f h1] at h; cases h
theorem mpr_ok {α : Type} {f : Int32 → Int32 → α} {r : Nat ⊕ (Int32 × Int32 × Nat)} {D : α} {e : Nat} (h : mpr f r = .inr (D, e)) : ∃ x y, r = .inr (x, y, e) ∧ D = f x y := by
  cases r with
  | inl a => cases h
  | inr w => obtain ⟨x, y, e'⟩ := w
             have h2 := Sum.inr.inj h
             have h3 : f x y = D := congrArg Prod.fst h2
             have h4 : e' = e := congrArg Prod.snd h2
             subst h4; exact ⟨x, y, rfl, h3.symm⟩
theorem Dr_cw {D : Nat → Int32} (h : Dr D) {k : Nat} (hk : 5 ≤ k ∧ k ≤ 26) (v : Int32) : Dr (updn D k v) := by
  refine ⟨Vd_cw h.1 (fun j hj => if_neg (by omega)), ?_, ?_⟩
  · show (if 3 = k then v else D 3) = 0; rw [if_neg (by omega)]; exact h.2.1
  · show (if 4 = k then v else D 4) = 0; rw [if_neg (by omega)]; exact h.2.2
theorem Dr_h {D : Nat → Int32} (h : Dr D) {x y : Int32} (sg : Int32) (hx : 0 ≤ x.toInt ∧ x.toInt ≤ 5) (h5 : ¬ D 2 = 5) : Dr (efH D sg x y) := by
  obtain ⟨⟨v0, v1, v2, v3, v4, v5, v6, v7, v8, v9, v10, v11⟩, d3, d4⟩ := h
  have e5 : (5 : Int32).toInt = 5 := rfl
  have e1 : (1 : Int32).toInt = 1 := rfl
  have hlt : (D 2).toInt < 5 := by
    rcases Int.lt_or_le (D 2).toInt 5 with z | z
    · exact z
    · exact absurd (i_ext (by rw [e5]; omega)) h5
  have hs : (D 2 + 1).toInt = (D 2).toInt + 1 := by rw [i_add, e1]; omega
  have g : ∀ k, k ≠ 2 → k ≠ 27 + 2 * (D 2).toInt.toNat → k ≠ 28 + 2 * (D 2).toInt.toNat → efH D sg x y k = D k := fun k h1 h2 h3 => by
    unfold efH updn; rw [if_neg h1, if_neg h3, if_neg h2]
  have g2 : efH D sg x y 2 = D 2 + 1 := by unfold efH updn; rw [if_pos rfl]
  have g27 : efH D sg x y (27 + 2 * (D 2).toInt.toNat) = x := by unfold efH updn; rw [if_neg (by omega), if_neg (by omega), if_pos rfl]
  refine ⟨?_, by rw [g 3 (by omega) (by omega) (by omega)]; exact d3, by rw [g 4 (by omega) (by omega) (by omega)]; exact d4⟩
  unfold Vd
  rw [g 0 (by omega) (by omega) (by omega), g 1 (by omega) (by omega) (by omega), g2, hs, g 3 (by omega) (by omega) (by omega), g 4 (by omega) (by omega) (by omega), g 37 (by omega) (by omega) (by omega), g 38 (by omega) (by omega) (by omega), g 39 (by omega) (by omega) (by omega), g 40 (by omega) (by omega) (by omega), g 41 (by omega) (by omega) (by omega)]
  have z0 : (0 : Int32).toInt = 0 := rfl
  refine ⟨v0, v1, by omega, v3, v4, fun k hk => ?_, by omega, v7, v8, v9, fun k hk => ?_, fun k hk => ?_⟩
  · by_cases hkk : k = (D 2).toInt.toNat
    · rw [hkk, g27]; exact hx
    · rw [g _ (by omega) (by omega) (by omega)]; exact v5 k (by omega)
  · rw [d4, z0] at hk; omega
  · rw [d3, z0] at hk; omega
theorem Dr_0 {x y : Int32} (hx : 1 ≤ x.toInt ∧ x.toInt ≤ 15) (hy : 1 ≤ y.toInt ∧ y.toInt ≤ 12) : Dr (drf x y) := by
  have z0 : (0 : Int32).toInt = 0 := rfl
  have zm : (-1 : Int32).toInt = -1 := rfl
  have n0 : drf x y 0 = x := rfl
  have n1 : drf x y 1 = y := rfl
  have n37 : drf x y 37 = -1 := rfl
  have nz : ∀ k, k ≠ 0 → k ≠ 1 → k ≠ 37 → drf x y k = 0 := fun k h0 h1 h2 => by unfold drf; rw [if_neg h0, if_neg h1, if_neg h2]
  refine ⟨?_, rfl, rfl⟩
  unfold Vd
  rw [n0, n1, n37, nz 2 (by omega) (by omega) (by omega), nz 3 (by omega) (by omega) (by omega), nz 4 (by omega) (by omega) (by omega), nz 38 (by omega) (by omega) (by omega), nz 39 (by omega) (by omega) (by omega), nz 40 (by omega) (by omega) (by omega), nz 41 (by omega) (by omega) (by omega), z0, zm]
  have hf : ¬ fel y 0 := by unfold fel; rw [i_neg, z0]; omega
  exact ⟨hx, hy, by omega, by omega, by omega, fun h hh => by omega, by omega, by omega, by omega, (bI_f hf).symm, fun k hk => by omega, fun k hk => by omega⟩
theorem pitem_ok {n p : Nat} {T D D' : Nat → Int32} {e : Nat} (hp : p ≤ n) (hD : Dr D) (h : pitem n T D p = .inr (D', e)) : Dr D' ∧ p + 2 ≤ e ∧ e ≤ n := by
  have b1 := tA_rg T hp
  have a1 := tE_rg T hp
  have hv0 := hD.1.1
  have z0 : (0 : Int32).toInt = 0 := rfl
  have z5 : (5 : Int32).toInt = 5 := rfl
  have hw : ∀ j, isW n T p j → p + 1 ≤ tE n T p := fun j hj => by
    have hlt : tA n T p < n := Classical.byContradiction (fun z => by have := (tS_0 (p := p) T).2 z; have := hj.1; omega)
    have := a1.2.2.1 hlt
    omega
  have hc : ∀ sg, mpr (efC D sg) (ptwo n T (tE n T p) 0 (D 0) 0 4) = .inr (D', e) → p + 1 ≤ tE n T p → Dr D' ∧ p + 2 ≤ e ∧ e ≤ n := by
    intro sg hm hw1
    obtain ⟨x, y, hr, rfl⟩ := mpr_ok hm
    obtain ⟨k1, k2, k3, k4⟩ := ptwo_ok a1.2.1 hr
    rw [z0] at k1
    exact ⟨Dr_cw hD (by omega) _, by omega, k4⟩
  have hwd : ∀ sg, mpr (efW D sg) (ptwo n T (tE n T p) 0 5 0 3) = .inr (D', e) → p + 1 ≤ tE n T p → Dr D' ∧ p + 2 ≤ e ∧ e ≤ n := by
    intro sg hm hw1
    obtain ⟨x, y, hr, rfl⟩ := mpr_ok hm
    obtain ⟨k1, k2, k3, k4⟩ := ptwo_ok a1.2.1 hr
    rw [z0, z5] at k1
    exact ⟨Dr_cw hD (by omega) _, by omega, k4⟩
  have hhd : ∀ sg, phd n T D p sg = .inr (D', e) → p + 1 ≤ tE n T p → Dr D' ∧ p + 2 ≤ e ∧ e ≤ n := by
    intro sg hm hw1
    unfold phd at hm
    by_cases h5 : D 2 = 5
    · rw [cIf_t h5] at hm; cases hm
    · rw [cIf_f h5] at hm
      obtain ⟨x, y, hr, rfl⟩ := mpr_ok hm
      obtain ⟨k1, k2, k3, k4⟩ := ptwo_ok a1.2.1 hr
      rw [z0, z5] at k1
      exact ⟨Dr_h hD _ k1 h5, by omega, k4⟩
  unfold pitem at h
  by_cases h2 : isW n T p 2
  · rw [cIf_t h2] at h; exact hc _ h (hw 2 h2)
  · rw [cIf_f h2] at h
    by_cases h3 : isW n T p 3
    · rw [cIf_t h3] at h; exact hc _ h (hw 3 h3)
    · rw [cIf_f h3] at h
      by_cases h4 : isW n T p 4
      · rw [cIf_t h4] at h; exact hwd _ h (hw 4 h4)
      · rw [cIf_f h4] at h
        by_cases h5 : isW n T p 5
        · rw [cIf_t h5] at h; exact hwd _ h (hw 5 h5)
        · rw [cIf_f h5] at h
          by_cases h6 : isW n T p 6
          · rw [cIf_t h6] at h; exact hhd _ h (hw 6 h6)
          · rw [cIf_f h6] at h
            by_cases h7 : isW n T p 7
            · rw [cIf_t h7] at h; exact hhd _ h (hw 7 h7)
            · rw [cIf_f h7] at h; cases h
variable {u : Nat} {I : ZI} {J : ZJ}
theorem nvl_m1 {n p : Nat} {T : Nat → Int32} {lo hi : Int32} (h : numk n T p lo hi) (hl : 0 ≤ lo.toInt) : ¬ nvl n T p = -1 := by
  intro z
  have h3 : lo.toInt ≤ (nvl n T p).toInt := h.2.2.1
  have zm : (-1 : Int32).toInt = -1 := rfl
  rw [z, zm] at h3; omega
/-- the class's two numbers and the end -/
theorem c_two {n p : Nat} {T : Nat → Int32} (h : Tp I n T) (hp : p ≤ n) (h4 : I 31 4 = nI p) {lo1 hi1 lo2 hi2 : Int32} (hl1 : 0 ≤ lo1.toInt) (hl2 : 0 ≤ lo2.toInt) (B N G : ZI → ZJ → Int32 → Int32 → Prop)
    (hB : ∀ I' J' v1 y0, (y0 = -1 → N I' J' v1 y0) → (¬ y0 = -1 → u_X4_nextIsEnd [.ref 31] (shp u) I' J' (fun I1 J1 v => (¬ v = 0 → G I1 J1 v1 y0) ∧ (v = 0 → N I1 J1 v1 y0))) → B I' J' v1 y0)
    (hN : ∀ I' a v1 y0, F31 I I' → I' 31 3 = nI a → ptwo n T p lo1 hi1 lo2 hi2 = .inl a → N I' J v1 y0)
    (hG : ∀ I' v1 v2 e, F31 I I' → I' 31 4 = nI e → ptwo n T p lo1 hi1 lo2 hi2 = .inr (v1, v2, e) → G I' J v1 v2) :
    u_X4_nextNumber [.ref 31, .int lo1, .int hi1] (shp u) I J (fun I1 J1 v1 => ((¬ v1 = (-1 : Int32) → u_X4_nextNumber [.ref 31, .int lo2, .int hi2] (shp u) I1 J1 (fun I2 J2 v2 => B I2 J2 v1 v2)) ∧ (v1 = (-1 : Int32) → B I1 J1 v1 (-1)))) := by
  have a1 := tE_rg T hp
  refine p_num h hp h4 lo1 hi1 _ (fun hk I1 hF1 hT1 => ?_) (fun hk I1 hF1 hT1 => ?_)
  · refine ⟨fun _ => ?_, fun z => absurd z (nvl_m1 hk hl1)⟩
    have a2 := tE_rg T a1.2.1
    refine p_num (Tp_f h hF1) a1.2.1 hT1.2.2 lo2 hi2 _ (fun hk2 I2 hF2 hT2 => ?_) (fun hk2 I2 hF2 hT2 => ?_)
    · refine hB _ _ _ _ (fun z => absurd z (nvl_m1 hk2 hl2)) (fun _ => ?_)
      refine p_end (Tp_f (Tp_f h hF1) hF2) a2.2.1 hT2.2.2 _ (fun I3 hF3 hT3 => ⟨fun z => ?_, fun z => ?_⟩)
      · exact hG I3 _ _ _ (F31_tr hF1 (F31_tr hF2 hF3)) hT3.2.2 (by unfold ptwo; rw [cIf_t hk, cIf_t hk2, cIf_t (b0p z)]; rfl)
      · exact hN I3 _ _ _ (F31_tr hF1 (F31_tr hF2 hF3)) hT3.2.1 (by unfold ptwo; rw [cIf_t hk, cIf_t hk2, cIf_f (b0n z)])
    · refine hB _ _ _ _ (fun _ => ?_) (fun z => absurd rfl z)
      exact hN I2 _ _ _ (F31_tr hF1 hF2) hT2.2.1 (by unfold ptwo; rw [cIf_t hk, cIf_f hk2])
  · refine ⟨fun z => absurd rfl z, fun _ => ?_⟩
    refine hB _ _ _ _ (fun _ => ?_) (fun z => absurd rfl z)
    exact hN I1 _ _ _ hF1 hT1.2.1 (by unfold ptwo; rw [cIf_f hk])
