/-! ===== pigeons: numbers and vectors ===== -/
def kL (n : Nat) : Int64 := Int64.ofNat n
theorem k_i {n : Nat} (h : n < 9223372036854775808) : (kL n).toInt = n := Int64.toInt_ofNat_of_lt h
theorem k_add (a b : Nat) : kL a + kL b = kL (a + b) := (Int64.ofNat_add a b).symm
theorem k_mul (a b : Nat) : kL a * kL b = kL (a * b) := (Int64.ofNat_mul a b).symm
theorem k_div {a b : Nat} (ha : a < 9223372036854775808) (hb : 0 < b) (hb2 : b < 9223372036854775808) : kL a / kL b = kL (a / b) := by
  have h1 := k_i ha
  have h2 := k_i hb2
  have h3 : a / b ≤ a := Nat.div_le_self _ _
  apply j_ext
  rw [j_div (by rw [h1]; omega) (by rw [h2]; omega), h1, h2, k_i (by omega)]
  exact (Int.natCast_ediv a b).symm
theorem k_mod {a b : Nat} (ha : a < 9223372036854775808) (hb : 0 < b) (hb2 : b < 9223372036854775808) : kL a - kL a / kL b * kL b = kL (a % b) := by
  have h3 := Nat.div_add_mod' a b
  rw [k_div ha hb hb2, k_mul]
  generalize a / b * b = z at h3
  generalize a % b = w at h3
  apply j_ext
  rw [j_sub, k_i ha, k_i (by omega), k_i (by omega)]
  omega
theorem k_eq {a b : Nat} (ha : a < 9223372036854775808) (hb : b < 9223372036854775808) : (kL a = kL b) = (a = b) := by
  rw [j_eq, k_i ha, k_i hb]; exact propext Int.ofNat_inj
theorem lg_0 {b : Nat} (hb : b < 9223372036854775808) : (lg_cmp (kL b) 0 = 0) = (b = 0) := by
  have e : (0 : Int64) = kL 0 := rfl
  unfold lg_cmp
  rw [e]
  by_cases h : b = 0
  · subst h
    apply propext
    refine ⟨fun _ => rfl, fun _ => ?_⟩
    rw [if_neg (by rw [gt_iff_lt, j_lt]; omega), if_pos rfl]
  · have hgt : kL b > kL 0 := by rw [gt_iff_lt, j_lt, k_i hb, k_i (by omega)]; omega
    rw [if_pos hgt]
    apply propext
    exact ⟨fun z => absurd z (by decide), fun z => absurd z h⟩
theorem k_32 {n : Nat} (h : n < 2147483648) : (nI n).toInt64 = kL n := by
  apply j_ext; rw [ij_to, i_nI n h, k_i (by omega)]
def psm (v : Nat → Nat) : Nat → Nat
  | 0 => 0
  | k + 1 => psm v k + v k
theorem psm_up (f : Nat → Nat) (z a : Nat) : ∀ k, psm (fun i => if i = z then f i + a else f i) k = psm f k + if z < k then a else 0 := by
  intro k
  induction k with
  | zero => rfl
  | succ k ih =>
    show psm _ k + (if k = z then f k + a else f k) = psm f k + f k + _
    rw [ih]
    by_cases h : k = z
    · subst h; rw [if_pos rfl, if_neg (by omega), if_pos (by omega)]; omega
    · rw [if_neg h]
      by_cases h2 : z < k
      · rw [if_pos h2, if_pos (by omega)]; omega
      · rw [if_neg h2, if_neg (by omega)]; omega
theorem psm_mono (v : Nat → Nat) {a b : Nat} (h : a ≤ b) : psm v a ≤ psm v b := by
  induction b with
  | zero => have : a = 0 := by omega
            subst this; exact Nat.le_refl _
  | succ b ih =>
    by_cases hd : a = b + 1
    · subst hd; exact Nat.le_refl _
    · have := ih (by omega); show psm v a ≤ psm v b + v b; omega
theorem psm_at (v : Nat → Nat) {i k : Nat} (h : i < k) : v i ≤ psm v k := by
  have := psm_mono v (a := i + 1) (b := k) (by omega)
  have e : psm v (i + 1) = psm v i + v i := rfl
  omega
/-- a chance laid on a lean, where the lean holds -/
noncomputable def adc (H : Int32) (f : Nat → Nat) (x : Int32) (a : Nat) : Nat → Nat := cIf (fel H x) f (fun i => if i = (x.toInt + 12).toNat then f i + a else f i)
theorem adc_le (H : Int32) (f : Nat → Nat) (x : Int32) (a : Nat) : psm (adc H f x a) 25 ≤ psm f 25 + a := by
  unfold adc
  by_cases h : fel H x
  · rw [cIf_t h]; omega
  · rw [cIf_f h, psm_up]; split <;> omega
noncomputable def nxv (H kd co wi p : Int32) (c : Nat) (v : Nat → Nat) : Nat → (Nat → Nat)
  | 0 => fun _ => 0
  | j + 1 => adc H (adc H (nxv H kd co wi p c v j) (lb kd (nI j - H) co wi p) (v (12 - H.toInt.toNat + j) * (10 - c))) (lb kd (nI j - H) co wi p + 1) (v (12 - H.toInt.toNat + j) * c)
theorem nxv_le (H kd co wi p : Int32) {c : Nat} (hc : c ≤ 10) (v : Nat → Nat) : ∀ j, psm (nxv H kd co wi p c v j) 25 + 10 * psm v (12 - H.toInt.toNat) ≤ 10 * psm v (12 - H.toInt.toNat + j) := by
  intro j
  induction j with
  | zero =>
    have : ∀ k, psm (fun _ => 0) k = 0 := by
      intro k; induction k with
      | zero => rfl
      | succ k ih => show psm _ k + 0 = 0; omega
    show psm (fun _ => 0) 25 + _ ≤ _
    rw [this, Nat.add_zero]; omega
  | succ j ih =>
    have h1 := adc_le H (adc H (nxv H kd co wi p c v j) (lb kd (nI j - H) co wi p) (v (12 - H.toInt.toNat + j) * (10 - c))) (lb kd (nI j - H) co wi p + 1) (v (12 - H.toInt.toNat + j) * c)
    have h2 := adc_le H (nxv H kd co wi p c v j) (lb kd (nI j - H) co wi p) (v (12 - H.toInt.toNat + j) * (10 - c))
    have e : nxv H kd co wi p c v (j + 1) = adc H (adc H (nxv H kd co wi p c v j) (lb kd (nI j - H) co wi p) (v (12 - H.toInt.toNat + j) * (10 - c))) (lb kd (nI j - H) co wi p + 1) (v (12 - H.toInt.toNat + j) * c) := rfl
    have e2 : psm v (12 - H.toInt.toNat + (j + 1)) = psm v (12 - H.toInt.toNat + j) + v (12 - H.toInt.toNat + j) := rfl
    have e3 : v (12 - H.toInt.toNat + j) * (10 - c) + v (12 - H.toInt.toNat + j) * c = 10 * v (12 - H.toInt.toNat + j) := by
      rw [← Nat.mul_add, show 10 - c + c = 10 by omega, Nat.mul_comm]
    rw [e, e2]
    omega
noncomputable def vkv (n : Nat → Int32) (kd set : Int32) (p c : Nat) : Nat → (Nat → Nat)
  | 0 => adc (n 1) (fun _ => 0) set 1
  | k + 1 => nxv (n 1) kd (n (5 + min (n 0).toInt.toNat ((k + 1) * p))) (n (21 + k % 6)) (nI p) c (vkv n kd set p c k) (2 * (n 1).toInt.toNat + 1)
theorem psm_z : ∀ k, psm (fun _ => 0) k = 0 := by
  intro k; induction k with
  | zero => rfl
  | succ k ih => show psm _ k + 0 = 0; omega
theorem vkv_le {n : Nat → Int32} (hH : 1 ≤ (n 1).toInt ∧ (n 1).toInt ≤ 12) (kd set : Int32) (p : Nat) {c : Nat} (hc : c ≤ 10) : ∀ k, psm (vkv n kd set p c k) 25 ≤ 10 ^ k := by
  intro k
  induction k with
  | zero => have := adc_le (n 1) (fun _ => 0) set 1; rw [psm_z] at this; exact this
  | succ k ih =>
    have h1 := nxv_le (n 1) kd (n (5 + min (n 0).toInt.toNat ((k + 1) * p))) (n (21 + k % 6)) (nI p) hc (vkv n kd set p c k) (2 * (n 1).toInt.toNat + 1)
    have h2 := psm_mono (vkv n kd set p c k) (a := 12 - (n 1).toInt.toNat + (2 * (n 1).toInt.toNat + 1)) (b := 25) (by omega)
    have e : vkv n kd set p c (k + 1) = nxv (n 1) kd (n (5 + min (n 0).toInt.toNat ((k + 1) * p))) (n (21 + k % 6)) (nI p) c (vkv n kd set p c k) (2 * (n 1).toInt.toNat + 1) := rfl
    rw [e, Nat.pow_succ]
    omega
theorem ten_le {k : Nat} (h : k ≤ 15) : 10 ^ k ≤ 1000000000000000 := Nat.pow_le_pow_right (n := 10) (by omega) h
/-- Euclid's rounds: one of them -/
def euc (k a b : Nat) : Prop := (k = 0 ∧ b ≤ 1000000000000000) ∨ (1 ≤ k ∧ b < a ∧ a ≤ 1000000000000000 ∧ a * b * 2 ^ (k - 1) < 1000000000000000000000000000000)
theorem euc_s {k a b : Nat} (h : euc k a b) (hb : b ≠ 0) : euc (k + 1) b (a % b) := by
  have hr : a % b < b := Nat.mod_lt _ (by omega)
  refine Or.inr ⟨by omega, hr, ?_, ?_⟩
  · rcases h with h | h
    · exact h.2
    · omega
  · rw [Nat.add_sub_cancel]
    rcases h with ⟨rfl, h⟩ | ⟨hk, hlt, ha, hp⟩
    · rw [Nat.pow_zero, Nat.mul_one]
      have h1 : b * (a % b) < b * b := Nat.mul_lt_mul_of_pos_left hr (by omega)
      have h2 : b * b ≤ 1000000000000000 * 1000000000000000 := Nat.mul_le_mul h h
      omega
    · have h2 : 2 * (a % b) ≤ a := by
        have hd := Nat.div_add_mod a b
        have hq : 1 ≤ a / b := Nat.div_pos (by omega) (by omega)
        have : b * 1 ≤ b * (a / b) := Nat.mul_le_mul_left b hq
        omega
      have e : 2 ^ k = 2 * 2 ^ (k - 1) := by
        have : k = (k - 1) + 1 := by omega
        rw [this, Nat.pow_succ, Nat.add_sub_cancel]; omega
      have h3 : b * (a % b) * 2 ^ k = b * (2 * (a % b)) * 2 ^ (k - 1) := by
        rw [e, ← Nat.mul_assoc, ← Nat.mul_assoc, Nat.mul_assoc b, Nat.mul_comm (a % b) 2]; rw [Nat.mul_assoc b 2 (a % b)]
      have h4 : b * (2 * (a % b)) ≤ b * a := Nat.mul_le_mul_left b h2
      have h5 : b * (2 * (a % b)) * 2 ^ (k - 1) ≤ a * b * 2 ^ (k - 1) := by
        rw [Nat.mul_comm a b]; exact Nat.mul_le_mul_right _ h4
      omega
theorem euc_end {a b : Nat} (h : euc 100 a b) : b = 0 := by
  rcases h with ⟨h, _⟩ | ⟨_, hlt, _, hp⟩
  · omega
  · by_cases hb : b = 0
    · exact hb
    · exfalso
      have h1 : 2 * 1 ≤ a * b := Nat.mul_le_mul (by omega) (by omega)
      have h2 : 2 * 1 * 2 ^ (100 - 1) ≤ a * b * 2 ^ (100 - 1) := Nat.mul_le_mul_right _ h1
      have h3 : (2 : Nat) * 1 * 2 ^ (100 - 1) = 1267650600228229401496703205376 := by decide
      omega
theorem euc_rg {k a b : Nat} (ha : a < 9223372036854775808) (h : euc k a b) : a < 9223372036854775808 ∧ b < 9223372036854775808 := by
  rcases h with h | h <;> omega
def kkn (M p : Nat) : Nat := (M + p - 1) / p
theorem kkn_e {M p k : Nat} (hM : 1 ≤ M) (hp : 1 ≤ p ∧ p ≤ 3) (h1 : ¬ k * p < M) (h2 : k = 0 ∨ (k - 1) * p < M) : k = kkn M p := by
  unfold kkn
  have : p = 1 ∨ p = 2 ∨ p = 3 := by omega
  rcases this with rfl | rfl | rfl <;> omega
theorem kkn_le {M p : Nat} (hM : 1 ≤ M ∧ M ≤ 15) (hp : 1 ≤ p ∧ p ≤ 3) : kkn M p ≤ 15 := by
  unfold kkn
  have : p = 1 ∨ p = 2 ∨ p = 3 := by omega
  rcases this with rfl | rfl | rfl <;> omega
theorem kp_lt {M p k : Nat} (hp : 1 ≤ p ∧ p ≤ 3) (h : k * p < M) : k < M := by
  have : k * 1 ≤ k * p := Nat.mul_le_mul_left k hp.1
  omega
variable {u : Nat} {I : ZI} {J : ZJ}
theorem c_gcd {a b : Nat} (ha : a < 9223372036854775808) (hb : b ≤ 1000000000000000) (q : YQl) (hq : q I J (kL (Nat.gcd a b))) : u_X11_commonDivisor [.long (kL a), .long (kL b)] (shp u) I J q := by
  rw [e_X11_commonDivisor]
  refine zlp 100 (fun k L I' J' => (∃ o0 o1 o2 o3 o5 o7 o9 o10 x y, L = [o0, o1, o2, o3, some (.long (kL x)), o5, some (.long (kL y)), o7, some (.int (nI k)), o9, o10] ∧ x < 9223372036854775808 ∧ Nat.gcd x y = Nat.gcd a b ∧ euc k x y) ∧ I' = I ∧ J' = J) ?_ ?_ _ _ _ ⟨⟨_, _, _, _, _, _, _, _, a, b, rfl, ha, rfl, Or.inl ⟨rfl, hb⟩⟩, rfl, rfl⟩
  · rintro k hk r L I' J' ⟨⟨o0, o1, o2, o3, o5, o7, o9, o10, x, y, rfl, hx, hg, he⟩, rfl, rfl⟩ hr
    obtain ⟨_, hy⟩ := euc_rg hx he
    rw [g_X11_commonDivisor_9, lg_0 hy]
    refine ⟨fun h => absurd (show nI 100 ≤ nI k from h) (mI_ge hk (by omega)), fun _ => ⟨fun h => ?_, fun h => ?_⟩⟩
    · subst h
      rw [Nat.gcd_zero_right] at hg
      rw [g_X11_commonDivisor_44, hg]; exact ⟨rfl, hq⟩
    · have hz : ¬ kL y = 0 := fun z => h (by have : kL y = kL 0 := z
                                             rw [k_eq hy (by omega)] at this; exact this)
      rw [k_mod hx (by omega) hy, mI_one]
      refine ⟨hz, hr _ _ _ ⟨⟨_, _, _, _, _, _, _, _, y, x % y, rfl, hy, ?_, euc_s he h⟩, rfl, rfl⟩⟩
      rw [← hg, Nat.gcd_comm y, ← Nat.gcd_rec, Nat.gcd_comm]
  · rintro r L I' J' ⟨⟨o0, o1, o2, o3, o5, o7, o9, o10, x, y, rfl, hx, hg, he⟩, rfl, rfl⟩
    have := euc_end he
    subst this
    rw [Nat.gcd_zero_right] at hg
    rw [g_X11_commonDivisor_9]
    refine ⟨fun _ => ?_, fun h => absurd (mI_rf 100) h⟩
    rw [g_X11_commonDivisor_44, hg]; exact ⟨rfl, hq⟩
theorem m_frac {a b : Nat} (ha : a < 9223372036854775808) (hb : b ≤ 1000000000000000) (hb0 : 0 < b) (q : YQv) (hq : q I (zuJ (zuJ J 48 4 (kL (a / Nat.gcd a b))) 48 5 (kL (b / Nat.gcd a b)))) : u_X12_fraction [.ref 48, .long (kL a), .long (kL b)] (shp u) I J q := by
  have hg0 : 0 < Nat.gcd a b := Nat.gcd_pos_of_pos_right a hb0
  have hg1 : Nat.gcd a b ≤ b := Nat.gcd_le_right a hb0
  rw [e_X12_fraction]
  have fin : ¬ kL (Nat.gcd a b) = 0 ∧ (¬ kL (Nat.gcd a b) = 0 ∧ (shp u = shp u ∧ q I (zuJ (zuJ J 48 4 (kL a / kL (Nat.gcd a b))) 48 5 (kL b / kL (Nat.gcd a b))))) := by
    have hz : ¬ kL (Nat.gcd a b) = 0 := fun z => by
      have : kL (Nat.gcd a b) = kL 0 := z
      rw [k_eq (by omega) (by omega)] at this; omega
    rw [k_div ha hg0 (by omega), k_div (by omega) hg0 (by omega)]
    exact ⟨hz, hz, rfl, hq⟩
  refine zlp 100 (fun k L I' J' => (∃ o2 o4 o6 o8 o9 o10 x y, L = [some (.ref 48), some (.long (kL a)), o2, some (.long (kL b)), o4, some (.long (kL x)), o6, some (.long (kL y)), o8, o9, o10] ∧ x < 9223372036854775808 ∧ Nat.gcd x y = Nat.gcd a b ∧ euc k x y) ∧ I' = I ∧ J' = J) ?_ ?_ _ _ _ ⟨⟨_, _, _, _, _, _, a, b, rfl, ha, rfl, Or.inl ⟨rfl, hb⟩⟩, rfl, rfl⟩
  · rintro k hk r L I' J' ⟨⟨o2, o4, o6, o8, o9, o10, x, y, rfl, hx, hg, he⟩, rfl, rfl⟩ hr
    obtain ⟨_, hy⟩ := euc_rg hx he
    rw [g_X12_fraction_6, lg_0 hy]
    refine ⟨fun h => ?_, fun h => ?_⟩
    · subst h
      rw [Nat.gcd_zero_right] at hg
      rw [hg]; exact fin
    · have hz : ¬ kL y = 0 := fun z => h (by have : kL y = kL 0 := z
                                             rw [k_eq hy (by omega)] at this; exact this)
      rw [k_mod hx (by omega) hy]
      refine ⟨hz, hr _ _ _ ⟨⟨_, _, _, _, _, _, y, x % y, rfl, hy, ?_, euc_s he h⟩, rfl, rfl⟩⟩
      rw [← hg, Nat.gcd_comm y, ← Nat.gcd_rec, Nat.gcd_comm]
  · rintro r L I' J' ⟨⟨o2, o4, o6, o8, o9, o10, x, y, rfl, hx, hg, he⟩, rfl, rfl⟩
    have := euc_end he
    subst this
    rw [Nat.gcd_zero_right] at hg
    rw [g_X12_fraction_6, lg_0 (by omega)]
    refine ⟨fun _ => ?_, fun h => absurd rfl h⟩
    rw [hg]; exact fin
