/-! ===== rows of paces ===== -/
def mny : Nat → Nat → Nat
  | 0, _ => 0
  | f + 1, r => if r = 0 then 0 else mny f (r / 10) + 1
def rok : Nat → Nat → Prop
  | 0, r => r = 0
  | f + 1, r => r = 0 ∨ ((1 ≤ r % 10 ∧ r % 10 ≤ 3) ∧ rok f (r / 10))
def fg (r : Nat) : Nat := mny 9 r
def pcn (r i : Nat) : Nat := r / 10 ^ (fg r - 1 - i) % 10
def vr (x : Int32) : Prop := 0 ≤ x.toInt ∧ rok 9 x.toInt.toNat
theorem rok_le : ∀ f r, rok f r → 3 * r < 10 ^ f := by
  intro f
  induction f with
  | zero => intro r h; have : r = 0 := h; subst this; decide
  | succ f ih =>
    intro r h
    rcases h with h | ⟨h1, h2⟩
    · subst h; have : 0 < 10 ^ (f + 1) := Nat.pow_pos (by decide)
      omega
    · have := ih _ h2
      rw [Nat.pow_succ]; omega
theorem rok_0 (f : Nat) : rok f 0 := by
  cases f with
  | zero => rfl
  | succ f => exact Or.inl rfl
theorem mny_le : ∀ f r, mny f r ≤ f := by
  intro f
  induction f with
  | zero => intro r; exact Nat.le_refl 0
  | succ f ih => intro r; show (if r = 0 then 0 else mny f (r / 10) + 1) ≤ f + 1
                 split
                 · omega
                 · have := ih (r / 10); omega
theorem mny_pow : ∀ f j r, j < f → (10 ^ j ≤ r ↔ j < mny f r) := by
  intro f
  induction f with
  | zero => intro j r h; omega
  | succ f ih =>
    intro j r h
    show _ ↔ j < (if r = 0 then 0 else mny f (r / 10) + 1)
    by_cases h0 : r = 0
    · rw [if_pos h0]; subst h0
      have : 0 < 10 ^ j := Nat.pow_pos (by decide)
      omega
    · rw [if_neg h0]
      cases j with
      | zero => have : (10 : Nat) ^ 0 = 1 := rfl
                omega
      | succ j =>
        have := ih j (r / 10) (by omega)
        rw [Nat.pow_succ]
        have h2 : 10 ^ j ≤ r / 10 ↔ 10 ^ j * 10 ≤ r := Nat.le_div_iff_mul_le (by decide)
        omega
theorem zTens_at {k : Nat} (h : k < 9) : zTens.getD k 0 = nI (10 ^ k) := by
  have : k = 0 ∨ k = 1 ∨ k = 2 ∨ k = 3 ∨ k = 4 ∨ k = 5 ∨ k = 6 ∨ k = 7 ∨ k = 8 := by omega
  rcases this with e | e | e | e | e | e | e | e | e <;> subst e <;> rfl
theorem pow9 {k : Nat} (h : k < 9) : 10 ^ k < 1000000000 := by
  have : k = 0 ∨ k = 1 ∨ k = 2 ∨ k = 3 ∨ k = 4 ∨ k = 5 ∨ k = 6 ∨ k = 7 ∨ k = 8 := by omega
  rcases this with e | e | e | e | e | e | e | e | e <;> subst e <;> decide
theorem i_d10 {r : Nat} (h : r < 2147483648) : nI r / 10 = nI (r / 10) := by
  apply i_ext
  rw [i_div (by rw [i_nI r h]; omega) (by decide), i_nI r h, i_nI _ (by omega)]
  have : (10 : Int32).toInt = 10 := rfl
  rw [this]; omega
theorem i_m10 {r : Nat} (h : r < 2147483648) : nI r - nI r / 10 * 10 = nI (r % 10) := by
  rw [i_d10 h]
  have e : nI (r / 10) * 10 = nI (r / 10 * 10) := mI_mul (r / 10) 10
  rw [e]
  apply i_ext
  rw [i_sub, i_nI r h, i_nI _ (by omega), i_nI _ (by omega)]; omega
theorem i_dn {r d : Nat} (h : r < 2147483648) (hd : d < 2147483648) (h0 : 0 < d) : nI r / nI d = nI (r / d) := by
  apply i_ext
  have hle : r / d ≤ r := Nat.div_le_self r d
  rw [i_div (by rw [i_nI r h]; omega) (by rw [i_nI d hd]; omega), i_nI r h, i_nI d hd, i_nI _ (by omega)]
  rfl
variable (u : Nat) (I : ZI) (J : ZJ)
theorem p_X11_figuresOf {r : Nat} (hr : r < 1000000000) (q : YQi) (hq : q I J (nI (fg r))) : u_X11_figuresOf [.int (nI r)] (shp u) I J q := by
  rw [e_X11_figuresOf]
  refine zlp 9 (fun k L I' J' => L = [some (.int (nI r)), some (.int (nI (min k (fg r)))), some (.int (nI k))] ∧ I' = I ∧ J' = J) ?_ ?_ _ _ _ ⟨by rw [Nat.zero_min]; rfl, rfl, rfl⟩
  · rintro k hk rr L I' J' ⟨rfl, rfl, rfl⟩ hr2
    rw [g_X11_figuresOf_4]
    refine ⟨fun h => ?_, fun _ => ⟨mI_in hk (by omega), ?_⟩⟩
    · have : nI 9 ≤ nI k := h
      rw [mI_le (by omega) (by omega)] at this; omega
    · rw [mI_nat (by omega), zTens_at hk, mI_lt (by omega) (by have := pow9 hk; omega)]
      have hm := mny_pow 9 k r hk
      have hf : fg r = mny 9 r := rfl
      refine ⟨fun h => ?_, fun h => ?_⟩
      · rw [g_X11_figuresOf_27]
        have e : u_X11_bit [.int 0] (shp u) I' J' = u_X11_bit [.int (bI False)] (shp u) I' J' := by rw [bI_f (fun h => h)]
        show u_X11_bit [.int 0] (shp u) I' J' _
        rw [e, p_X11_bit, bI_f (fun h => h), mI_one]
        have h0 : nI (min k (fg r)) + 0 = nI (min (k + 1) (fg r)) := by
          have : min (k + 1) (fg r) = min k (fg r) + 0 := by omega
          rw [this]; exact mI_add _ 0
        rw [h0]
        exact hr2 _ _ _ ⟨rfl, rfl, rfl⟩
      · rw [g_X11_figuresOf_27]
        have e : u_X11_bit [.int 1] (shp u) I' J' = u_X11_bit [.int (bI True)] (shp u) I' J' := by rw [bI_t True.intro]
        show u_X11_bit [.int 1] (shp u) I' J' _
        rw [e, p_X11_bit, bI_t True.intro]
        have h0 : nI (min k (fg r)) + 1 = nI (min (k + 1) (fg r)) := by
          have : min (k + 1) (fg r) = min k (fg r) + 1 := by omega
          rw [this]; exact mI_add _ 1
        rw [h0, mI_one]
        exact hr2 _ _ _ ⟨rfl, rfl, rfl⟩
  · rintro rr L I' J' ⟨rfl, rfl, rfl⟩
    rw [g_X11_figuresOf_4]
    have : min 9 (fg r) = fg r := by have := mny_le 9 r; show min 9 (mny 9 r) = mny 9 r; omega
    rw [this]
    exact ⟨fun _ => ⟨rfl, hq⟩, fun h => absurd (show nI 9 ≤ nI 9 from by rw [i_le]; exact Int.le_refl _) h⟩
theorem mny_s {f r : Nat} (h : r ≠ 0) : mny (f + 1) r = mny f (r / 10) + 1 := by
  show (if r = 0 then 0 else mny f (r / 10) + 1) = _; rw [if_neg h]
theorem mny_0 (f : Nat) : mny f 0 = 0 := by
  cases f with
  | zero => rfl
  | succ f => rfl
theorem p_X12_manyOf {r : Nat} (hr : r < 1000000000) (q : YQi) (hq : q I J (nI (fg r))) : u_X12_manyOf [.int (nI r)] (shp u) I J q := by
  rw [e_X12_manyOf]
  refine zlp 9 (fun k L I' J' => (∃ o m v, L = [o, some (.int (nI m)), some (.int (nI v))] ∧ v < 10 ^ (9 - k) ∧ m + mny (9 - k) v = fg r ∧ v < 1000000000) ∧ I' = I ∧ J' = J) ?_ ?_ _ _ _ ⟨⟨_, 0, r, rfl, hr, by rw [Nat.zero_add]; rfl, hr⟩, rfl, rfl⟩
  · rintro k hk rr L I' J' ⟨⟨o, m, v, rfl, h1, h2, h3⟩, rfl, rfl⟩ hr2
    rw [g_X12_manyOf_4]
    have h9 : 9 - k = (9 - (k + 1)) + 1 := by omega
    refine ⟨fun h => ⟨rfl, ?_⟩, fun h => ⟨by decide, ?_⟩⟩
    · have h0 : nI v ≤ nI 0 := h
      rw [mI_le (by omega) (by omega)] at h0
      have : v = 0 := by omega
      subst this
      rw [mny_0] at h2
      have : m = fg r := by omega
      rw [this]; exact hq
    · have h0 : ¬ nI v ≤ nI 0 := h
      rw [mI_le (by omega) (by omega)] at h0
      rw [i_d10 (by omega), mI_one]
      refine hr2 _ _ _ ⟨⟨_, m + 1, v / 10, rfl, ?_, ?_, ?_⟩, rfl, rfl⟩
      · rw [h9, Nat.pow_succ] at h1; omega
      · rw [h9, mny_s (by omega)] at h2; omega
      · omega
  · rintro rr L I' J' ⟨⟨o, m, v, rfl, h1, h2, h3⟩, rfl, rfl⟩
    rw [g_X12_manyOf_4]
    have hv : v = 0 := by have : (10 : Nat) ^ (9 - 9) = 1 := rfl
                          omega
    subst hv
    have hm : m = fg r := by have : mny (9 - 9) 0 = 0 := rfl
                             omega
    subst hm
    exact ⟨fun _ => ⟨rfl, hq⟩, fun h => absurd (show nI 0 ≤ nI 0 from by rw [i_le]; exact Int.le_refl _) h⟩
