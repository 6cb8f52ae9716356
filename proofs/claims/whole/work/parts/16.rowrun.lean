/-! ===== is it a row; a trial along a row ===== -/
variable (u : Nat) (I : ZI) (J : ZJ)
theorem not9 {k : Nat} (hk : k < 9) : ¬ (9 : Int32) ≤ nI k := by
  intro h; have h2 : nI 9 ≤ nI k := h
  rw [mI_le (by omega) (by omega)] at h2; omega
theorem le0_nI {v : Nat} (hv : v < 2147483648) : (nI v ≤ 0) = (v = 0) := by
  have : (nI v ≤ 0) = (nI v ≤ nI 0) := rfl
  rw [this, mI_le hv (by omega)]; apply propext; omega
theorem q0_nI {v : Nat} (hv : v < 2147483648) : (nI v = 0) = (v = 0) := by
  have : (nI v = 0) = (nI v = nI 0) := rfl
  rw [this, mI_eq hv (by omega)]
theorem wi_nI {v : Nat} (hv : v < 2147483648) (a b : Nat) : ((a : Int) ≤ (nI v).toInt ∧ (nI v).toInt ≤ (b : Int)) = (a ≤ v ∧ v ≤ b) := by
  rw [i_nI v hv]; apply propext; omega
theorem p_X11_isRow (x : Int32) (q : YQi) (hq : q I J (bI (vr x))) : u_X11_isRow [.int x] (shp u) I J q := by
  rw [e_X11_isRow]
  refine ⟨fun h0 => ?_, fun h0 => ⟨Or.inl rfl, rfl, ?_⟩⟩
  · have h1 : 0 ≤ x.toInt := by rw [i_le] at h0; exact h0
    have hx := i_rg x
    refine zlp 9 (fun k L I' J' => (∃ o v, L = [o, some (.int (nI v)), some (.int (nI k))] ∧ v < 2147483648 ∧ (rok 9 x.toInt.toNat ↔ rok (9 - k) v)) ∧ I' = I ∧ J' = J) ?_ ?_ _ _ _ ⟨⟨_, x.toInt.toNat, by rw [← mI_of h1]; rfl, by omega, Iff.rfl⟩, rfl, rfl⟩
    · rintro k hk rr L I' J' ⟨⟨o, v, rfl, hv, hro⟩, rfl, rfl⟩ hr2
      have h9 : 9 - k = (9 - (k + 1)) + 1 := by omega
      rw [g_X11_isRow_10]
      refine ⟨fun h => absurd h (not9 hk), fun _ => ⟨fun h => ?_, fun h => ⟨by decide, ?_⟩⟩⟩
      · rw [le0_nI hv] at h
        subst h
        rw [g_X11_isRow_47]
        refine ⟨fun h => absurd rfl h, fun _ => ?_⟩
        rw [g_X11_isRow_56]
        have : vr x := ⟨h1, hro.mpr (rok_0 _)⟩
        rw [bI_t this] at hq
        exact ⟨Or.inr rfl, rfl, hq⟩
      · rw [le0_nI hv] at h
        rw [p_X11_within, i_m10 hv, bI_0]
        have hm : (((1 : Int32).toInt ≤ (nI (v % 10)).toInt ∧ (nI (v % 10)).toInt ≤ (3 : Int32).toInt)) = (1 ≤ v % 10 ∧ v % 10 ≤ 3) := wi_nI (v := v % 10) (by omega) 1 3
        rw [hm]
        refine ⟨fun hp => ⟨by decide, ?_⟩, fun hp => ⟨Or.inl rfl, rfl, ?_⟩⟩
        · rw [i_d10 hv, mI_one]
          refine hr2 _ _ _ ⟨⟨_, v / 10, rfl, by omega, ?_⟩, rfl, rfl⟩
          rw [hro, h9]
          show (v = 0 ∨ ((1 ≤ v % 10 ∧ v % 10 ≤ 3) ∧ rok (9 - (k + 1)) (v / 10))) ↔ _
          have hp' := Classical.not_not.mp hp
          constructor
          · rintro (e | e)
            · exact absurd e h
            · exact e.2
          · intro e; exact Or.inr ⟨hp', e⟩
        · have : ¬ vr x := by
            intro hv2
            have h3 := hro.mp hv2.2
            rw [h9] at h3
            rcases h3 with e | e
            · exact h e
            · exact hp e.1
          rw [bI_f this] at hq
          exact hq
    · rintro rr L I' J' ⟨⟨o, v, rfl, hv, hro⟩, rfl, rfl⟩
      rw [g_X11_isRow_10]
      refine ⟨fun _ => ?_, fun h => absurd (show nI 9 ≤ nI 9 from by rw [i_le]; exact Int.le_refl _) h⟩
      rw [g_X11_isRow_47, q0_nI hv]
      refine ⟨fun h => ?_, fun h => ?_⟩
      · rw [g_X11_isRow_56]
        have : ¬ vr x := fun hv2 => h (hro.mp hv2.2)
        rw [bI_f this] at hq
        exact ⟨Or.inl rfl, rfl, hq⟩
      · rw [g_X11_isRow_56]
        have : vr x := ⟨h1, hro.mpr h⟩
        rw [bI_t this] at hq
        exact ⟨Or.inr rfl, rfl, hq⟩
  · have : ¬ vr x := fun hv => h0 (by rw [i_le]; exact hv.1)
    rw [bI_f this] at hq
    exact hq
theorem p_X12_isRow_w (x : Int32) (b : Nat) (hx : 0 ≤ x.toInt) (hx9 : x.toInt < 1000000000) (q : YQi) (hb : b = 1 ∨ (b = 0 ∧ ¬ vr x)) (hq : q I J (bI (vr x))) : b_X12_isRow_18 u_X12_isPace (qi (shp u) q) [some (.int x), some (.int (nI b)), some (.int x)] [] (shp u) I J := by
  refine zlp 9 (fun k L I' J' => (∃ o b v, L = [o, some (.int (nI b)), some (.int (nI v))] ∧ v < 10 ^ (9 - k) ∧ v < 1000000000 ∧ ((b = 1 ∧ (rok 9 x.toInt.toNat ↔ rok (9 - k) v)) ∨ (b = 0 ∧ ¬ vr x))) ∧ I' = I ∧ J' = J) ?_ ?_ _ _ _ ⟨⟨_, b, x.toInt.toNat, by rw [← mI_of hx], by show x.toInt.toNat < 1000000000; omega, by omega, ?_⟩, rfl, rfl⟩
  · rintro k hk rr L I' J' ⟨⟨o, b, v, rfl, hv, hv9, hb⟩, rfl, rfl⟩ hr2
    have h9 : 9 - k = (9 - (k + 1)) + 1 := by omega
    rw [g_X12_isRow_18, le0_nI (by omega)]
    refine ⟨fun h => ?_, fun h => ⟨fun h2 => ?_, fun h2 => ⟨by decide, ?_⟩⟩⟩
    · subst h
      rw [g_X12_isRow_42]
      rcases hb with ⟨rfl, hro⟩ | ⟨rfl, hn⟩
      · have : vr x := ⟨hx, hro.mpr (rok_0 _)⟩
        rw [bI_t this] at hq
        exact ⟨Or.inr rfl, rfl, hq⟩
      · rw [bI_f hn] at hq
        exact ⟨Or.inl rfl, rfl, hq⟩
    · rw [g_X12_isRow_42]
      rcases hb with ⟨rfl, hro⟩ | ⟨rfl, hn⟩
      · exact absurd h2 (by decide)
      · rw [bI_f hn] at hq
        exact ⟨Or.inl rfl, rfl, hq⟩
    · rcases hb with ⟨rfl, hro⟩ | ⟨rfl, hn⟩
      · rw [p_X12_isPace, i_m10 (by omega), i_d10 (by omega)]
        have hm : ((1 ≤ (nI (v % 10)).toInt ∧ (nI (v % 10)).toInt ≤ 3)) = (1 ≤ v % 10 ∧ v % 10 ≤ 3) := wi_nI (v := v % 10) (by omega) 1 3
        rw [hm]
        refine ⟨by decide, ?_⟩
        by_cases hp : 1 ≤ v % 10 ∧ v % 10 ≤ 3
        · rw [bI_t hp]
          refine hr2 _ _ _ ⟨⟨_, 1, v / 10, rfl, by rw [h9, Nat.pow_succ] at hv; omega, by omega, Or.inl ⟨rfl, ?_⟩⟩, rfl, rfl⟩
          rw [hro, h9]
          show (v = 0 ∨ ((1 ≤ v % 10 ∧ v % 10 ≤ 3) ∧ rok (9 - (k + 1)) (v / 10))) ↔ _
          constructor
          · rintro (e | e)
            · exact absurd e h
            · exact e.2
          · intro e; exact Or.inr ⟨hp, e⟩
        · rw [bI_f hp]
          refine hr2 _ _ _ ⟨⟨_, 0, v / 10, rfl, by rw [h9, Nat.pow_succ] at hv; omega, by omega, Or.inr ⟨rfl, ?_⟩⟩, rfl, rfl⟩
          intro hv2
          have h3 := hro.mp hv2.2
          rw [h9] at h3
          rcases h3 with e | e
          · exact h e
          · exact hp e.1
      · exact absurd rfl h2
  · rintro rr L I' J' ⟨⟨o, b, v, rfl, hv, hv9, hb⟩, rfl, rfl⟩
    have h0 : v = 0 := by have : (10 : Nat) ^ (9 - 9) = 1 := rfl
                          omega
    subst h0
    rw [g_X12_isRow_18, le0_nI (by omega)]
    refine ⟨fun h => ?_, fun h => absurd rfl h⟩
    rw [g_X12_isRow_42]
    rcases hb with ⟨rfl, hro⟩ | ⟨rfl, hn⟩
    · have : vr x := ⟨hx, hro.mpr (rok_0 _)⟩
      rw [bI_t this] at hq
      exact ⟨Or.inr rfl, rfl, hq⟩
    · rw [bI_f hn] at hq
      exact ⟨Or.inl rfl, rfl, hq⟩
  · rcases hb with h | h
    · exact Or.inl ⟨h, Iff.rfl⟩
    · exact Or.inr h
theorem p_X12_isRow_0 (x : Int32) (q : YQi) (hq : q I J 0) : b_X12_isRow_18 u_X12_isPace (qi (shp u) q) [some (.int x), some (.int 0), some (.int x)] [] (shp u) I J := by
  refine ⟨1, ?_⟩
  show bb_X12_isRow_18 u_X12_isPace (qi (shp u) q) _ _ _ _ _ _
  rw [g_X12_isRow_18]
  refine ⟨fun _ => ?_, fun _ => ⟨fun _ => ?_, fun h => absurd rfl h⟩⟩
  · rw [g_X12_isRow_42]; exact ⟨Or.inl rfl, rfl, hq⟩
  · rw [g_X12_isRow_42]; exact ⟨Or.inl rfl, rfl, hq⟩
theorem p_X12_isRow (x : Int32) (q : YQi) (hq : q I J (bI (vr x))) : u_X12_isRow [.int x] (shp u) I J q := by
  rw [e_X12_isRow]
  simp only [g_X12_isRow_14, g_X12_isRow_15]
  refine ⟨fun h => ?_, fun h => ⟨fun h2 => ?_, fun h2 => ?_⟩⟩
  · have hn : ¬ vr x := fun hv => by rw [i_lt] at h; have := hv.1; have e : (0 : Int32).toInt = 0 := rfl
                                     omega
    rw [bI_f hn] at hq
    exact p_X12_isRow_0 u I J x q hq
  · have hn : ¬ vr x := fun hv => by
      have := rok_le 9 _ hv.2
      rw [i_lt] at h2
      have e : (333333333 : Int32).toInt = 333333333 := by decide
      have e9 : (10 : Nat) ^ 9 = 1000000000 := by decide
      have := hv.1
      omega
    rw [bI_f hn] at hq
    exact p_X12_isRow_0 u I J x q hq
  · rw [i_lt] at h h2
    have e : (333333333 : Int32).toInt = 333333333 := by decide
    have e0 : (0 : Int32).toInt = 0 := rfl
    exact p_X12_isRow_w u I J x 1 (by omega) (by omega) q (Or.inl rfl) hq
