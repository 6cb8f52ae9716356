/-! ===== words ===== -/
def wlen (j : Nat) : Nat := zlenS.getD (j - 1) 0
def wby (j k : Nat) : Int32 := (zbytS.getD (j - 1) []).getD k 0
theorem wby_ok : ∀ j : Fin 7, ∀ k : Fin 6, ((((zbytS.getD j.val []).getD k.val 0) &&& 255).toUInt32 % 65536).toInt32 = (zbytS.getD j.val []).getD k.val 0 ∧ 0 ≤ ((zbytS.getD j.val []).getD k.val 0).toInt ∧ ((zbytS.getD j.val []).getD k.val 0).toInt ≤ 127 := by decide +kernel
theorem nar_ch : ∀ b : Fin 128, narrow .char (.int (nI b.val)) = .int (nI b.val) := by decide +kernel
theorem nar_ch2 {x : Int32} (h : 0 ≤ x.toInt ∧ x.toInt ≤ 127) : narrow .char (.int x) = .int x := by
  rw [mI_of h.1]; exact nar_ch ⟨x.toInt.toNat, by omega⟩
def isW (n : Nat) (T : Nat → Int32) (p j : Nat) : Prop := tS n T p = 1 ∧ tE n T p - tA n T p = wlen j ∧ ∀ k, k < wlen j → T (tA n T p + k) = wby j k
variable {u : Nat} {I : ZI} {J : ZJ}
theorem p_ck {k n : Nat} (h : k < n) (hn : n < 1000) (q : YQv) (hq : q I J) : u_J0_checkIndex_df160 [.int (nI k), .int (nI n)] (shp u) I J q := by
  have h0 : ¬ nI k < 0 := by rw [i_lt, i_nI _ (by omega)]; show ¬ (k : Int) < 0; omega
  have h1 : nI k < nI n := by rw [mI_lt (by omega) (by omega)]; exact h
  rw [e_J0_checkIndex_df160, e_J3_checkIndex_8e157, e_J3_checkIndex_8e157_a]
  exact ⟨⟨fun z => absurd z h0, fun _ => ⟨fun _ => ⟨rfl, rfl, hq⟩, fun z => absurd h1 z⟩⟩, ⟨fun z => absurd z h0, fun _ => ⟨fun _ => ⟨rfl, rfl, hq⟩, fun z => absurd h1 z⟩⟩⟩
theorem p_len_1 (q : YQi) (hq : q I J (nI 4)) : u_J0_length_8abf5 [.retAddr 1] (shp u) I J q := by
  rw [e_J0_length_8abf5, e_J0_coder_7d493]
  refine ⟨fun h => absurd h (by decide), fun _ => ?_⟩
  rw [g_J0_coder_7d493_14]
  have e : (nI 4) >>> ((0 : Int32) &&& 31) = nI 4 := by decide
  rw [e]
  exact ⟨by decide, rfl, rfl, hq⟩
theorem p_chr_1 {k : Nat} (hk : k < 4) (q : YQi) (hq : q I J (wby 1 k)) : u_J0_charAt_5068e [.retAddr 1, .int (nI k)] (shp u) I J q := by
  obtain ⟨w1, w2⟩ := wby_ok ⟨0, by omega⟩ ⟨k, by omega⟩
  have hn := nar_ch2 w2
  rw [e_J0_charAt_5068e_d, e_J0_isLatin1_aae02_d]
  refine ⟨fun h => absurd h (by decide), fun _ => ⟨fun h => absurd rfl h, fun _ => ?_⟩⟩
  rw [g_J0_isLatin1_aae02_d_18]
  refine ⟨Or.inr rfl, rfl, fun h => absurd h (by decide), fun _ => ?_⟩
  rw [e_J1_charAt_3b067]
  refine p_ck hk (by omega) _ ⟨mI_in hk (by omega), ?_⟩
  rw [mI_nat (by omega), show ((((zbytS.getD 0 []).getD k 0) &&& 255).toUInt32 % 65536).toInt32 = (zbytS.getD 0 []).getD k 0 from w1]
  exact ⟨hn, rfl, hn, rfl, hq⟩
theorem p_isw_1 {n p : Nat} {T : Nat → Int32} (h : Tp I n T) (hp : p ≤ n) (hT : Tk I n T p) (q : YQi) (hq : q I J (bI (isW n T p 1))) : u_X4_isWord [.ref 31, .retAddr 1] (shp u) I J q := by
  have hn150 := h.2.1
  have he := tE_rg T hp
  have hsr := tS_rg n T p
  obtain ⟨k1, k2, k3⟩ := hT
  have q1 : (nI (tS n T p) = 1) = (tS n T p = 1) := mI_eq (b := 1) (by omega) (by omega)
  have hsub : nI (tE n T p) - nI (tA n T p) = nI (tE n T p - tA n T p) := mI_sub he.1
  have hl : wlen 1 = 4 := rfl
  have no : ¬ isW n T p 1 → ∀ o0 o1 o2, b_X4_isWord_24 u_J0_length_8abf5 u_X4_byteAt u_J0_charAt_5068e (qi (shp u) q) [o0, o1, o2] [] (shp u) I J := by
    intro hno o0 o1 o2
    rw [bI_f hno] at hq
    rw [g_X4_isWord_d_24]; exact ⟨Or.inl rfl, rfl, hq⟩
  rw [e_X4_isWord_d, k1, k2, k3, q1, hsub]
  refine ⟨fun z => no (fun y => z y.1) _ _ _, fun z => ?_⟩
  refine p_len_1 _ ?_
  rw [mI_eq (by omega) (by omega)]
  refine ⟨fun z2 => ?_, fun z2 => no (fun y => z2 (y.2.1.trans hl)) _ _ _⟩
  refine zlp 4 (fun k L I2 J2 => L = [some (.ref 31), some (.retAddr 1), some (.int (nI k))] ∧ (∀ i, i < k → T (tA n T p + i) = wby 1 i) ∧ I2 = I ∧ J2 = J) ?_ ?_ _ _ _ ⟨rfl, fun i hi => absurd hi (by omega), rfl, rfl⟩
  · rintro k hk r L I2 J2 ⟨rfl, hw, rfl, rfl⟩ hr
    rw [g_X4_isWord_d_28]
    refine p_len_1 _ ?_
    refine ⟨fun y => absurd y (mI_ge hk (by omega)), fun _ => ?_⟩
    rw [k2, mI_add]
    refine p_byte h (by omega) _ ?_
    refine p_chr_1 hk _ ?_
    rw [mI_one]
    refine ⟨fun y => hr _ _ _ ⟨rfl, fun i hi => ?_, rfl, rfl⟩, fun y => ⟨Or.inl rfl, rfl, ?_⟩⟩
    · by_cases hik : i = k
      · subst hik; exact y
      · exact hw i (by omega)
    · rw [bI_f (fun w => y (w.2.2 k (by rw [hl]; exact hk)))] at hq; exact hq
  · rintro r L I2 J2 ⟨rfl, hw, rfl, rfl⟩
    rw [g_X4_isWord_d_28]
    refine p_len_1 _ ?_
    rw [bI_t ⟨z, z2.trans hl.symm, fun k hk => hw k (by rw [hl] at hk; exact hk)⟩] at hq
    exact ⟨fun _ => ⟨Or.inr rfl, rfl, hq⟩, fun y => absurd (mI_rf 4) y⟩
theorem p_len_2 (q : YQi) (hq : q I J (nI 6)) : u_J0_length_8abf5 [.retAddr 2] (shp u) I J q := by
  rw [e_J0_length_8abf5_a, e_J0_coder_7d493_a]
  refine ⟨fun h => absurd h (by decide), fun _ => ?_⟩
  rw [g_J0_coder_7d493_a_14]
  have e : (nI 6) >>> ((0 : Int32) &&& 31) = nI 6 := by decide
  rw [e]
  exact ⟨by decide, rfl, rfl, hq⟩
theorem p_chr_2 {k : Nat} (hk : k < 6) (q : YQi) (hq : q I J (wby 2 k)) : u_J0_charAt_5068e [.retAddr 2, .int (nI k)] (shp u) I J q := by
  obtain ⟨w1, w2⟩ := wby_ok ⟨1, by omega⟩ ⟨k, by omega⟩
  have hn := nar_ch2 w2
  rw [e_J0_charAt_5068e_e, e_J0_isLatin1_aae02_e]
  refine ⟨fun h => absurd h (by decide), fun _ => ⟨fun h => absurd rfl h, fun _ => ?_⟩⟩
  rw [g_J0_isLatin1_aae02_e_18]
  refine ⟨Or.inr rfl, rfl, fun h => absurd h (by decide), fun _ => ?_⟩
  rw [e_J1_charAt_3b067_a]
  refine p_ck hk (by omega) _ ⟨mI_in hk (by omega), ?_⟩
  rw [mI_nat (by omega), show ((((zbytS.getD 1 []).getD k 0) &&& 255).toUInt32 % 65536).toInt32 = (zbytS.getD 1 []).getD k 0 from w1]
  exact ⟨hn, rfl, hn, rfl, hq⟩
theorem p_isw_2 {n p : Nat} {T : Nat → Int32} (h : Tp I n T) (hp : p ≤ n) (hT : Tk I n T p) (q : YQi) (hq : q I J (bI (isW n T p 2))) : u_X4_isWord [.ref 31, .retAddr 2] (shp u) I J q := by
  have hn150 := h.2.1
  have he := tE_rg T hp
  have hsr := tS_rg n T p
  obtain ⟨k1, k2, k3⟩ := hT
  have q1 : (nI (tS n T p) = 1) = (tS n T p = 1) := mI_eq (b := 1) (by omega) (by omega)
  have hsub : nI (tE n T p) - nI (tA n T p) = nI (tE n T p - tA n T p) := mI_sub he.1
  have hl : wlen 2 = 6 := rfl
  have no : ¬ isW n T p 2 → ∀ o0 o1 o2, b_X4_isWord_24 u_J0_length_8abf5 u_X4_byteAt u_J0_charAt_5068e (qi (shp u) q) [o0, o1, o2] [] (shp u) I J := by
    intro hno o0 o1 o2
    rw [bI_f hno] at hq
    rw [g_X4_isWord_e_24]; exact ⟨Or.inl rfl, rfl, hq⟩
  rw [e_X4_isWord_e, k1, k2, k3, q1, hsub]
  refine ⟨fun z => no (fun y => z y.1) _ _ _, fun z => ?_⟩
  refine p_len_2 _ ?_
  rw [mI_eq (by omega) (by omega)]
  refine ⟨fun z2 => ?_, fun z2 => no (fun y => z2 (y.2.1.trans hl)) _ _ _⟩
  refine zlp 6 (fun k L I2 J2 => L = [some (.ref 31), some (.retAddr 2), some (.int (nI k))] ∧ (∀ i, i < k → T (tA n T p + i) = wby 2 i) ∧ I2 = I ∧ J2 = J) ?_ ?_ _ _ _ ⟨rfl, fun i hi => absurd hi (by omega), rfl, rfl⟩
  · rintro k hk r L I2 J2 ⟨rfl, hw, rfl, rfl⟩ hr
    rw [g_X4_isWord_e_28]
    refine p_len_2 _ ?_
    refine ⟨fun y => absurd y (mI_ge hk (by omega)), fun _ => ?_⟩
    rw [k2, mI_add]
    refine p_byte h (by omega) _ ?_
    refine p_chr_2 hk _ ?_
    rw [mI_one]
    refine ⟨fun y => hr _ _ _ ⟨rfl, fun i hi => ?_, rfl, rfl⟩, fun y => ⟨Or.inl rfl, rfl, ?_⟩⟩
    · by_cases hik : i = k
      · subst hik; exact y
      · exact hw i (by omega)
    · rw [bI_f (fun w => y (w.2.2 k (by rw [hl]; exact hk)))] at hq; exact hq
  · rintro r L I2 J2 ⟨rfl, hw, rfl, rfl⟩
    rw [g_X4_isWord_e_28]
    refine p_len_2 _ ?_
    rw [bI_t ⟨z, z2.trans hl.symm, fun k hk => hw k (by rw [hl] at hk; exact hk)⟩] at hq
    exact ⟨fun _ => ⟨Or.inr rfl, rfl, hq⟩, fun y => absurd (mI_rf 6) y⟩
theorem p_len_3 (q : YQi) (hq : q I J (nI 4)) : u_J0_length_8abf5 [.retAddr 3] (shp u) I J q := by
  rw [e_J0_length_8abf5_b, e_J0_coder_7d493_b]
  refine ⟨fun h => absurd h (by decide), fun _ => ?_⟩
  rw [g_J0_coder_7d493_b_14]
  have e : (nI 4) >>> ((0 : Int32) &&& 31) = nI 4 := by decide
  rw [e]
  exact ⟨by decide, rfl, rfl, hq⟩
theorem p_chr_3 {k : Nat} (hk : k < 4) (q : YQi) (hq : q I J (wby 3 k)) : u_J0_charAt_5068e [.retAddr 3, .int (nI k)] (shp u) I J q := by
  obtain ⟨w1, w2⟩ := wby_ok ⟨2, by omega⟩ ⟨k, by omega⟩
  have hn := nar_ch2 w2
  rw [e_J0_charAt_5068e_b, e_J0_isLatin1_aae02_f]
  refine ⟨fun h => absurd h (by decide), fun _ => ⟨fun h => absurd rfl h, fun _ => ?_⟩⟩
  rw [g_J0_isLatin1_aae02_f_18]
  refine ⟨Or.inr rfl, rfl, fun h => absurd h (by decide), fun _ => ?_⟩
  rw [e_J1_charAt_3b067_b]
  refine p_ck hk (by omega) _ ⟨mI_in hk (by omega), ?_⟩
  rw [mI_nat (by omega), show ((((zbytS.getD 2 []).getD k 0) &&& 255).toUInt32 % 65536).toInt32 = (zbytS.getD 2 []).getD k 0 from w1]
  exact ⟨hn, rfl, hn, rfl, hq⟩
theorem p_isw_3 {n p : Nat} {T : Nat → Int32} (h : Tp I n T) (hp : p ≤ n) (hT : Tk I n T p) (q : YQi) (hq : q I J (bI (isW n T p 3))) : u_X4_isWord [.ref 31, .retAddr 3] (shp u) I J q := by
  have hn150 := h.2.1
  have he := tE_rg T hp
  have hsr := tS_rg n T p
  obtain ⟨k1, k2, k3⟩ := hT
  have q1 : (nI (tS n T p) = 1) = (tS n T p = 1) := mI_eq (b := 1) (by omega) (by omega)
  have hsub : nI (tE n T p) - nI (tA n T p) = nI (tE n T p - tA n T p) := mI_sub he.1
  have hl : wlen 3 = 4 := rfl
  have no : ¬ isW n T p 3 → ∀ o0 o1 o2, b_X4_isWord_24 u_J0_length_8abf5 u_X4_byteAt u_J0_charAt_5068e (qi (shp u) q) [o0, o1, o2] [] (shp u) I J := by
    intro hno o0 o1 o2
    rw [bI_f hno] at hq
    rw [g_X4_isWord_f_24]; exact ⟨Or.inl rfl, rfl, hq⟩
  rw [e_X4_isWord_f, k1, k2, k3, q1, hsub]
  refine ⟨fun z => no (fun y => z y.1) _ _ _, fun z => ?_⟩
  refine p_len_3 _ ?_
  rw [mI_eq (by omega) (by omega)]
  refine ⟨fun z2 => ?_, fun z2 => no (fun y => z2 (y.2.1.trans hl)) _ _ _⟩
  refine zlp 4 (fun k L I2 J2 => L = [some (.ref 31), some (.retAddr 3), some (.int (nI k))] ∧ (∀ i, i < k → T (tA n T p + i) = wby 3 i) ∧ I2 = I ∧ J2 = J) ?_ ?_ _ _ _ ⟨rfl, fun i hi => absurd hi (by omega), rfl, rfl⟩
  · rintro k hk r L I2 J2 ⟨rfl, hw, rfl, rfl⟩ hr
    rw [g_X4_isWord_f_28]
    refine p_len_3 _ ?_
    refine ⟨fun y => absurd y (mI_ge hk (by omega)), fun _ => ?_⟩
    rw [k2, mI_add]
    refine p_byte h (by omega) _ ?_
    refine p_chr_3 hk _ ?_
    rw [mI_one]
    refine ⟨fun y => hr _ _ _ ⟨rfl, fun i hi => ?_, rfl, rfl⟩, fun y => ⟨Or.inl rfl, rfl, ?_⟩⟩
    · by_cases hik : i = k
      · subst hik; exact y
      · exact hw i (by omega)
    · rw [bI_f (fun w => y (w.2.2 k (by rw [hl]; exact hk)))] at hq; exact hq
  · rintro r L I2 J2 ⟨rfl, hw, rfl, rfl⟩
    rw [g_X4_isWord_f_28]
    refine p_len_3 _ ?_
    rw [bI_t ⟨z, z2.trans hl.symm, fun k hk => hw k (by rw [hl] at hk; exact hk)⟩] at hq
    exact ⟨fun _ => ⟨Or.inr rfl, rfl, hq⟩, fun y => absurd (mI_rf 4) y⟩
theorem p_len_4 (q : YQi) (hq : q I J (nI 4)) : u_J0_length_8abf5 [.retAddr 4] (shp u) I J q := by
  rw [e_J0_length_8abf5_c, e_J0_coder_7d493_c]
  refine ⟨fun h => absurd h (by decide), fun _ => ?_⟩
  rw [g_J0_coder_7d493_c_14]
  have e : (nI 4) >>> ((0 : Int32) &&& 31) = nI 4 := by decide
  rw [e]
  exact ⟨by decide, rfl, rfl, hq⟩
theorem p_chr_4 {k : Nat} (hk : k < 4) (q : YQi) (hq : q I J (wby 4 k)) : u_J0_charAt_5068e [.retAddr 4, .int (nI k)] (shp u) I J q := by
  obtain ⟨w1, w2⟩ := wby_ok ⟨3, by omega⟩ ⟨k, by omega⟩
  have hn := nar_ch2 w2
  rw [e_J0_charAt_5068e, e_J0_isLatin1_aae02]
  refine ⟨fun h => absurd h (by decide), fun _ => ⟨fun h => absurd rfl h, fun _ => ?_⟩⟩
  rw [g_J0_isLatin1_aae02_18]
  refine ⟨Or.inr rfl, rfl, fun h => absurd h (by decide), fun _ => ?_⟩
  rw [e_J1_charAt_3b067_c]
  refine p_ck hk (by omega) _ ⟨mI_in hk (by omega), ?_⟩
  rw [mI_nat (by omega), show ((((zbytS.getD 3 []).getD k 0) &&& 255).toUInt32 % 65536).toInt32 = (zbytS.getD 3 []).getD k 0 from w1]
  exact ⟨hn, rfl, hn, rfl, hq⟩
theorem p_isw_4 {n p : Nat} {T : Nat → Int32} (h : Tp I n T) (hp : p ≤ n) (hT : Tk I n T p) (q : YQi) (hq : q I J (bI (isW n T p 4))) : u_X4_isWord [.ref 31, .retAddr 4] (shp u) I J q := by
  have hn150 := h.2.1
  have he := tE_rg T hp
  have hsr := tS_rg n T p
  obtain ⟨k1, k2, k3⟩ := hT
  have q1 : (nI (tS n T p) = 1) = (tS n T p = 1) := mI_eq (b := 1) (by omega) (by omega)
  have hsub : nI (tE n T p) - nI (tA n T p) = nI (tE n T p - tA n T p) := mI_sub he.1
  have hl : wlen 4 = 4 := rfl
  have no : ¬ isW n T p 4 → ∀ o0 o1 o2, b_X4_isWord_24 u_J0_length_8abf5 u_X4_byteAt u_J0_charAt_5068e (qi (shp u) q) [o0, o1, o2] [] (shp u) I J := by
    intro hno o0 o1 o2
    rw [bI_f hno] at hq
    rw [g_X4_isWord_24]; exact ⟨Or.inl rfl, rfl, hq⟩
  rw [e_X4_isWord, k1, k2, k3, q1, hsub]
  refine ⟨fun z => no (fun y => z y.1) _ _ _, fun z => ?_⟩
  refine p_len_4 _ ?_
  rw [mI_eq (by omega) (by omega)]
  refine ⟨fun z2 => ?_, fun z2 => no (fun y => z2 (y.2.1.trans hl)) _ _ _⟩
  refine zlp 4 (fun k L I2 J2 => L = [some (.ref 31), some (.retAddr 4), some (.int (nI k))] ∧ (∀ i, i < k → T (tA n T p + i) = wby 4 i) ∧ I2 = I ∧ J2 = J) ?_ ?_ _ _ _ ⟨rfl, fun i hi => absurd hi (by omega), rfl, rfl⟩
  · rintro k hk r L I2 J2 ⟨rfl, hw, rfl, rfl⟩ hr
    rw [g_X4_isWord_28]
    refine p_len_4 _ ?_
    refine ⟨fun y => absurd y (mI_ge hk (by omega)), fun _ => ?_⟩
    rw [k2, mI_add]
    refine p_byte h (by omega) _ ?_
    refine p_chr_4 hk _ ?_
    rw [mI_one]
    refine ⟨fun y => hr _ _ _ ⟨rfl, fun i hi => ?_, rfl, rfl⟩, fun y => ⟨Or.inl rfl, rfl, ?_⟩⟩
    · by_cases hik : i = k
      · subst hik; exact y
      · exact hw i (by omega)
    · rw [bI_f (fun w => y (w.2.2 k (by rw [hl]; exact hk)))] at hq; exact hq
  · rintro r L I2 J2 ⟨rfl, hw, rfl, rfl⟩
    rw [g_X4_isWord_28]
    refine p_len_4 _ ?_
    rw [bI_t ⟨z, z2.trans hl.symm, fun k hk => hw k (by rw [hl] at hk; exact hk)⟩] at hq
    exact ⟨fun _ => ⟨Or.inr rfl, rfl, hq⟩, fun y => absurd (mI_rf 4) y⟩
theorem p_len_5 (q : YQi) (hq : q I J (nI 4)) : u_J0_length_8abf5 [.retAddr 5] (shp u) I J q := by
  rw [e_J0_length_8abf5_d, e_J0_coder_7d493_d]
  refine ⟨fun h => absurd h (by decide), fun _ => ?_⟩
  rw [g_J0_coder_7d493_d_14]
  have e : (nI 4) >>> ((0 : Int32) &&& 31) = nI 4 := by decide
  rw [e]
  exact ⟨by decide, rfl, rfl, hq⟩
theorem p_chr_5 {k : Nat} (hk : k < 4) (q : YQi) (hq : q I J (wby 5 k)) : u_J0_charAt_5068e [.retAddr 5, .int (nI k)] (shp u) I J q := by
  obtain ⟨w1, w2⟩ := wby_ok ⟨4, by omega⟩ ⟨k, by omega⟩
  have hn := nar_ch2 w2
  rw [e_J0_charAt_5068e_f, e_J0_isLatin1_aae02_a]
  refine ⟨fun h => absurd h (by decide), fun _ => ⟨fun h => absurd rfl h, fun _ => ?_⟩⟩
  rw [g_J0_isLatin1_aae02_a_18]
  refine ⟨Or.inr rfl, rfl, fun h => absurd h (by decide), fun _ => ?_⟩
  rw [e_J1_charAt_3b067_d]
  refine p_ck hk (by omega) _ ⟨mI_in hk (by omega), ?_⟩
  rw [mI_nat (by omega), show ((((zbytS.getD 4 []).getD k 0) &&& 255).toUInt32 % 65536).toInt32 = (zbytS.getD 4 []).getD k 0 from w1]
  exact ⟨hn, rfl, hn, rfl, hq⟩
theorem p_isw_5 {n p : Nat} {T : Nat → Int32} (h : Tp I n T) (hp : p ≤ n) (hT : Tk I n T p) (q : YQi) (hq : q I J (bI (isW n T p 5))) : u_X4_isWord [.ref 31, .retAddr 5] (shp u) I J q := by
  have hn150 := h.2.1
  have he := tE_rg T hp
  have hsr := tS_rg n T p
  obtain ⟨k1, k2, k3⟩ := hT
  have q1 : (nI (tS n T p) = 1) = (tS n T p = 1) := mI_eq (b := 1) (by omega) (by omega)
  have hsub : nI (tE n T p) - nI (tA n T p) = nI (tE n T p - tA n T p) := mI_sub he.1
  have hl : wlen 5 = 4 := rfl
  have no : ¬ isW n T p 5 → ∀ o0 o1 o2, b_X4_isWord_24 u_J0_length_8abf5 u_X4_byteAt u_J0_charAt_5068e (qi (shp u) q) [o0, o1, o2] [] (shp u) I J := by
    intro hno o0 o1 o2
    rw [bI_f hno] at hq
    rw [g_X4_isWord_a_24]; exact ⟨Or.inl rfl, rfl, hq⟩
  rw [e_X4_isWord_a, k1, k2, k3, q1, hsub]
  refine ⟨fun z => no (fun y => z y.1) _ _ _, fun z => ?_⟩
  refine p_len_5 _ ?_
  rw [mI_eq (by omega) (by omega)]
  refine ⟨fun z2 => ?_, fun z2 => no (fun y => z2 (y.2.1.trans hl)) _ _ _⟩
  refine zlp 4 (fun k L I2 J2 => L = [some (.ref 31), some (.retAddr 5), some (.int (nI k))] ∧ (∀ i, i < k → T (tA n T p + i) = wby 5 i) ∧ I2 = I ∧ J2 = J) ?_ ?_ _ _ _ ⟨rfl, fun i hi => absurd hi (by omega), rfl, rfl⟩
  · rintro k hk r L I2 J2 ⟨rfl, hw, rfl, rfl⟩ hr
    rw [g_X4_isWord_a_28]
    refine p_len_5 _ ?_
    refine ⟨fun y => absurd y (mI_ge hk (by omega)), fun _ => ?_⟩
    rw [k2, mI_add]
    refine p_byte h (by omega) _ ?_
    refine p_chr_5 hk _ ?_
    rw [mI_one]
    refine ⟨fun y => hr _ _ _ ⟨rfl, fun i hi => ?_, rfl, rfl⟩, fun y => ⟨Or.inl rfl, rfl, ?_⟩⟩
    · by_cases hik : i = k
      · subst hik; exact y
      · exact hw i (by omega)
    · rw [bI_f (fun w => y (w.2.2 k (by rw [hl]; exact hk)))] at hq; exact hq
  · rintro r L I2 J2 ⟨rfl, hw, rfl, rfl⟩
    rw [g_X4_isWord_a_28]
    refine p_len_5 _ ?_
    rw [bI_t ⟨z, z2.trans hl.symm, fun k hk => hw k (by rw [hl] at hk; exact hk)⟩] at hq
    exact ⟨fun _ => ⟨Or.inr rfl, rfl, hq⟩, fun y => absurd (mI_rf 4) y⟩
theorem p_len_6 (q : YQi) (hq : q I J (nI 4)) : u_J0_length_8abf5 [.retAddr 6] (shp u) I J q := by
  rw [e_J0_length_8abf5_e, e_J0_coder_7d493_e]
  refine ⟨fun h => absurd h (by decide), fun _ => ?_⟩
  rw [g_J0_coder_7d493_e_14]
  have e : (nI 4) >>> ((0 : Int32) &&& 31) = nI 4 := by decide
  rw [e]
  exact ⟨by decide, rfl, rfl, hq⟩
theorem p_chr_6 {k : Nat} (hk : k < 4) (q : YQi) (hq : q I J (wby 6 k)) : u_J0_charAt_5068e [.retAddr 6, .int (nI k)] (shp u) I J q := by
  obtain ⟨w1, w2⟩ := wby_ok ⟨5, by omega⟩ ⟨k, by omega⟩
  have hn := nar_ch2 w2
  rw [e_J0_charAt_5068e_c, e_J0_isLatin1_aae02_c]
  refine ⟨fun h => absurd h (by decide), fun _ => ⟨fun h => absurd rfl h, fun _ => ?_⟩⟩
  rw [g_J0_isLatin1_aae02_c_18]
  refine ⟨Or.inr rfl, rfl, fun h => absurd h (by decide), fun _ => ?_⟩
  rw [e_J1_charAt_3b067_e]
  refine p_ck hk (by omega) _ ⟨mI_in hk (by omega), ?_⟩
  rw [mI_nat (by omega), show ((((zbytS.getD 5 []).getD k 0) &&& 255).toUInt32 % 65536).toInt32 = (zbytS.getD 5 []).getD k 0 from w1]
  exact ⟨hn, rfl, hn, rfl, hq⟩
theorem p_isw_6 {n p : Nat} {T : Nat → Int32} (h : Tp I n T) (hp : p ≤ n) (hT : Tk I n T p) (q : YQi) (hq : q I J (bI (isW n T p 6))) : u_X4_isWord [.ref 31, .retAddr 6] (shp u) I J q := by
  have hn150 := h.2.1
  have he := tE_rg T hp
  have hsr := tS_rg n T p
  obtain ⟨k1, k2, k3⟩ := hT
  have q1 : (nI (tS n T p) = 1) = (tS n T p = 1) := mI_eq (b := 1) (by omega) (by omega)
  have hsub : nI (tE n T p) - nI (tA n T p) = nI (tE n T p - tA n T p) := mI_sub he.1
  have hl : wlen 6 = 4 := rfl
  have no : ¬ isW n T p 6 → ∀ o0 o1 o2, b_X4_isWord_24 u_J0_length_8abf5 u_X4_byteAt u_J0_charAt_5068e (qi (shp u) q) [o0, o1, o2] [] (shp u) I J := by
    intro hno o0 o1 o2
    rw [bI_f hno] at hq
    rw [g_X4_isWord_c_24]; exact ⟨Or.inl rfl, rfl, hq⟩
  rw [e_X4_isWord_c, k1, k2, k3, q1, hsub]
  refine ⟨fun z => no (fun y => z y.1) _ _ _, fun z => ?_⟩
  refine p_len_6 _ ?_
  rw [mI_eq (by omega) (by omega)]
  refine ⟨fun z2 => ?_, fun z2 => no (fun y => z2 (y.2.1.trans hl)) _ _ _⟩
  refine zlp 4 (fun k L I2 J2 => L = [some (.ref 31), some (.retAddr 6), some (.int (nI k))] ∧ (∀ i, i < k → T (tA n T p + i) = wby 6 i) ∧ I2 = I ∧ J2 = J) ?_ ?_ _ _ _ ⟨rfl, fun i hi => absurd hi (by omega), rfl, rfl⟩
  · rintro k hk r L I2 J2 ⟨rfl, hw, rfl, rfl⟩ hr
    rw [g_X4_isWord_c_28]
    refine p_len_6 _ ?_
    refine ⟨fun y => absurd y (mI_ge hk (by omega)), fun _ => ?_⟩
    rw [k2, mI_add]
    refine p_byte h (by omega) _ ?_
    refine p_chr_6 hk _ ?_
    rw [mI_one]
    refine ⟨fun y => hr _ _ _ ⟨rfl, fun i hi => ?_, rfl, rfl⟩, fun y => ⟨Or.inl rfl, rfl, ?_⟩⟩
    · by_cases hik : i = k
      · subst hik; exact y
      · exact hw i (by omega)
    · rw [bI_f (fun w => y (w.2.2 k (by rw [hl]; exact hk)))] at hq; exact hq
  · rintro r L I2 J2 ⟨rfl, hw, rfl, rfl⟩
    rw [g_X4_isWord_c_28]
    refine p_len_6 _ ?_
    rw [bI_t ⟨z, z2.trans hl.symm, fun k hk => hw k (by rw [hl] at hk; exact hk)⟩] at hq
    exact ⟨fun _ => ⟨Or.inr rfl, rfl, hq⟩, fun y => absurd (mI_rf 4) y⟩
theorem p_len_7 (q : YQi) (hq : q I J (nI 4)) : u_J0_length_8abf5 [.retAddr 7] (shp u) I J q := by
  rw [e_J0_length_8abf5_f, e_J0_coder_7d493_f]
  refine ⟨fun h => absurd h (by decide), fun _ => ?_⟩
  rw [g_J0_coder_7d493_f_14]
  have e : (nI 4) >>> ((0 : Int32) &&& 31) = nI 4 := by decide
  rw [e]
  exact ⟨by decide, rfl, rfl, hq⟩
theorem p_chr_7 {k : Nat} (hk : k < 4) (q : YQi) (hq : q I J (wby 7 k)) : u_J0_charAt_5068e [.retAddr 7, .int (nI k)] (shp u) I J q := by
  obtain ⟨w1, w2⟩ := wby_ok ⟨6, by omega⟩ ⟨k, by omega⟩
  have hn := nar_ch2 w2
  rw [e_J0_charAt_5068e_a, e_J0_isLatin1_aae02_b]
  refine ⟨fun h => absurd h (by decide), fun _ => ⟨fun h => absurd rfl h, fun _ => ?_⟩⟩
  rw [g_J0_isLatin1_aae02_b_18]
  refine ⟨Or.inr rfl, rfl, fun h => absurd h (by decide), fun _ => ?_⟩
  rw [e_J1_charAt_3b067_f]
  refine p_ck hk (by omega) _ ⟨mI_in hk (by omega), ?_⟩
  rw [mI_nat (by omega), show ((((zbytS.getD 6 []).getD k 0) &&& 255).toUInt32 % 65536).toInt32 = (zbytS.getD 6 []).getD k 0 from w1]
  exact ⟨hn, rfl, hn, rfl, hq⟩
theorem p_isw_7 {n p : Nat} {T : Nat → Int32} (h : Tp I n T) (hp : p ≤ n) (hT : Tk I n T p) (q : YQi) (hq : q I J (bI (isW n T p 7))) : u_X4_isWord [.ref 31, .retAddr 7] (shp u) I J q := by
  have hn150 := h.2.1
  have he := tE_rg T hp
  have hsr := tS_rg n T p
  obtain ⟨k1, k2, k3⟩ := hT
  have q1 : (nI (tS n T p) = 1) = (tS n T p = 1) := mI_eq (b := 1) (by omega) (by omega)
  have hsub : nI (tE n T p) - nI (tA n T p) = nI (tE n T p - tA n T p) := mI_sub he.1
  have hl : wlen 7 = 4 := rfl
  have no : ¬ isW n T p 7 → ∀ o0 o1 o2, b_X4_isWord_24 u_J0_length_8abf5 u_X4_byteAt u_J0_charAt_5068e (qi (shp u) q) [o0, o1, o2] [] (shp u) I J := by
    intro hno o0 o1 o2
    rw [bI_f hno] at hq
    rw [g_X4_isWord_b_24]; exact ⟨Or.inl rfl, rfl, hq⟩
  rw [e_X4_isWord_b, k1, k2, k3, q1, hsub]
  refine ⟨fun z => no (fun y => z y.1) _ _ _, fun z => ?_⟩
  refine p_len_7 _ ?_
  rw [mI_eq (by omega) (by omega)]
  refine ⟨fun z2 => ?_, fun z2 => no (fun y => z2 (y.2.1.trans hl)) _ _ _⟩
  refine zlp 4 (fun k L I2 J2 => L = [some (.ref 31), some (.retAddr 7), some (.int (nI k))] ∧ (∀ i, i < k → T (tA n T p + i) = wby 7 i) ∧ I2 = I ∧ J2 = J) ?_ ?_ _ _ _ ⟨rfl, fun i hi => absurd hi (by omega), rfl, rfl⟩
  · rintro k hk r L I2 J2 ⟨rfl, hw, rfl, rfl⟩ hr
    rw [g_X4_isWord_b_28]
    refine p_len_7 _ ?_
    refine ⟨fun y => absurd y (mI_ge hk (by omega)), fun _ => ?_⟩
    rw [k2, mI_add]
    refine p_byte h (by omega) _ ?_
    refine p_chr_7 hk _ ?_
    rw [mI_one]
    refine ⟨fun y => hr _ _ _ ⟨rfl, fun i hi => ?_, rfl, rfl⟩, fun y => ⟨Or.inl rfl, rfl, ?_⟩⟩
    · by_cases hik : i = k
      · subst hik; exact y
      · exact hw i (by omega)
    · rw [bI_f (fun w => y (w.2.2 k (by rw [hl]; exact hk)))] at hq; exact hq
  · rintro r L I2 J2 ⟨rfl, hw, rfl, rfl⟩
    rw [g_X4_isWord_b_28]
    refine p_len_7 _ ?_
    rw [bI_t ⟨z, z2.trans hl.symm, fun k hk => hw k (by rw [hl] at hk; exact hk)⟩] at hq
    exact ⟨fun _ => ⟨Or.inr rfl, rfl, hq⟩, fun y => absurd (mI_rf 4) y⟩
