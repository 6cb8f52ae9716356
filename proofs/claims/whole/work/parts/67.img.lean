/-! ===== image, for the law: what follows the class's call may be anything that the reference's call implies ===== -/
variable {I : ZI} {J : ZJ}
theorem o_imageG {u : Nat} (hR : Rl u I J) (x : Int32) (Q : ZS → ZI → ZJ → Int32 → Int32 → Prop) (hQ : ∀ u' I' J' v, Rl u' I' J' → Q (shp u') I' J' v v) (G : ZQi) (hG : ∀ u' I1 J1 v1, u_X12_image [.ref 48, .int x] (shp u') I1 J1 (fun I2 J2 v2 => Q (shp u') I2 J2 v1 v2) → G (shp u') I1 J1 v1) : t_X11_image [.ref 0, .int x] (shp u) I J G := by
  have hIm := hR.2.2.2.2.2.1
  have hu : u ≤ 4 := hR.2.2.2.2.2.2
  by_cases hx : 0 ≤ x.toInt ∧ x.toInt ≤ 1
  · obtain ⟨i, rfl, hi2⟩ : ∃ i : Nat, x = nI i ∧ i < 2 := ⟨_, mI_of hx.1, by omega⟩
    have g1' : (0 : Int64).toInt ≤ (nI i).toInt64.toInt ∧ (nI i).toInt64.toInt ≤ (1 : Int64).toInt := by rw [ij_to]; exact hx
    refine p_image hu hi2 _ (fun u' b I1 J1 hu' hb hsame hdis hF hJ hWb => ?_)
    refine hG _ _ _ _ ?_
    have hb2 := zim_b hb
    rw [e_X12_image, p_X12_in]
    refine ⟨fun _ => ?_, fun z => b0t g1' z⟩
    refine p_image_19 hi2 _ ?_
    refine hQ u' _ _ _ ?_
    have lo : ∀ a, a < 61 → I1 a = I a := fun a ha => hF a (by omega)
    have e50 : ∀ k, 98 * i ≤ k → k < 98 * i + 98 → zu (flr I1 50 (98 * i) (fun k => I1 49 (k - 98 * i)) 98) 51 i 1 50 k = I 49 (k - 98 * i) := fun k h1 h2 => by
      rw [zu_ne _ _ _ (by decide), flr_in _ _ h1 h2]; show I1 49 _ = _; rw [lo 49 (by omega)]
    have n50 : ∀ k, ¬ (98 * i ≤ k ∧ k < 98 * i + 98) → zu (flr I1 50 (98 * i) (fun k => I1 49 (k - 98 * i)) 98) 51 i 1 50 k = I 50 k := fun k h => by
      rw [zu_ne _ _ _ (by decide), flr_out _ _ (by omega), lo 50 (by omega)]
    have e51 : zu (flr I1 50 (98 * i) (fun k => I1 49 (k - 98 * i)) 98) 51 i 1 51 i = 1 := by rw [zu_rd, if_pos rfl, if_pos rfl]
    have n51 : ∀ k, k ≠ i → zu (flr I1 50 (98 * i) (fun k => I1 49 (k - 98 * i)) 98) 51 i 1 51 k = I 51 k := fun k h => by
      rw [zu_rd, if_pos rfl, if_neg h, flr_ne _ _ (by decide), lo 51 (by omega)]
    have ene : ∀ a, a ≠ 50 → a ≠ 51 → zu (flr I1 50 (98 * i) (fun k => I1 49 (k - 98 * i)) 98) 51 i 1 a = I1 a := fun a h1 h2 => by
      rw [zu_ne _ _ _ h2, flr_ne _ _ h1]
    generalize zu (flr I1 50 (98 * i) (fun k => I1 49 (k - 98 * i)) 98) 51 i 1 = I2 at e50 n50 e51 n51 ene
    have lo2 : ∀ a, a < 61 → a ≠ 50 → a ≠ 51 → I2 a = I a := fun a h1 h2 h3 => by rw [ene a h2 h3, lo a h1]
    obtain ⟨hW, hV, hC, hP, hT, _, _⟩ := hR
    have e49 : I2 49 = I 49 := lo2 49 (by omega) (by omega) (by omega)
    refine ⟨?_, ?_, ?_, ?_, ?_, ?_, hu'⟩
    · rw [e49]; exact Wd_fr hW (fun a a1 a2 => lo2 a (by omega) (by omega) (by omega))
    · rw [e49]; exact hV
    · rw [lo2 0 (by omega) (by omega) (by omega), lo2 52 (by omega) (by omega) (by omega)]; exact hC
    · rw [hJ 0 (by omega), hJ 48 (by omega)]; exact hP
    · unfold Tx; rw [lo2 31 (by omega) (by omega) (by omega), lo2 48 (by omega) (by omega) (by omega), lo2 32 (by omega) (by omega) (by omega), lo2 58 (by omega) (by omega) (by omega)]; exact hT
    · intro j hj
      by_cases hji : j = i
      · subst hji
        refine ⟨fun b2 hbb => ?_, fun hbb => by rw [hb] at hbb; cases hbb⟩
        have : b2 = b := by rw [hb] at hbb; exact (Option.some.inj hbb).symm
        subst this
        have hk : ∀ k, k < 98 → I2 50 (98 * j + k) = I 49 k := fun k hk => by rw [e50 _ (by omega) (by omega), Nat.add_sub_cancel_left]
        exact ⟨e51, Wd_98 hV (Wd_fr (hWb _ hW hV) (fun a a1 a2 => ene a (by omega) (by omega))) hk, Vd_98 hV hk⟩
      · obtain ⟨m1, m2⟩ := hIm j hj
        have hs := hsame j hj hji
        have hk : ∀ k, k < 98 → I2 50 (98 * j + k) = I 50 (98 * j + k) := fun k hk => n50 _ (by omega)
        refine ⟨fun b2 hbb => ?_, fun hbb => ?_⟩
        · rw [hs] at hbb
          obtain ⟨y1, y2, y3⟩ := m1 b2 hbb
          have hd := hdis j b2 hj hji hbb
          have hb3 := zim_b hbb
          refine ⟨by rw [n51 j hji]; exact y1, Wd_98 y3 (Wd_fr y2 (fun a a1 a2 => ?_)) hk, Vd_98 y3 hk⟩
          rw [ene a (by omega) (by omega), hF a (by omega)]
        · rw [hs] at hbb
          rw [n51 j hji]; exact m2 hbb
  · refine t_img_bad hx _ ?_
    refine hG _ _ _ _ ?_
    have hx' : ¬ ((0 : Int64).toInt ≤ x.toInt64.toInt ∧ x.toInt64.toInt ≤ (1 : Int64).toInt) := by rw [ij_to]; exact hx
    rw [e_X12_image, p_X12_in]
    refine ⟨fun z => b0f hx' z, fun _ => ?_⟩
    rw [p_X12_bad]
    exact ⟨rfl, hQ _ _ _ _ (Rl_bad hR)⟩
