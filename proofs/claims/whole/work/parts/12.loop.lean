/-! ===== loops ===== -/
theorem zlp {B : ZK → ZK} {S : ZS} (N : Nat) (C : Nat → List (Option Value) → ZI → ZJ → Prop)
    (step : ∀ k, k < N → ∀ (r : ZK) L I J, C k L I J → (∀ L' I' J', C (k + 1) L' I' J' → r L' [] S I' J') → B r L [] S I J)
    (last : ∀ (r : ZK) L I J, C N L I J → B r L [] S I J) : ∀ L I J, C 0 L I J → zIt B L [] S I J := by
  intro L I J hC
  have key : ∀ m k, k + m = N → ∀ L I J, C k L I J → zit B (m + 1) L [] S I J := by
    intro m
    induction m with
    | zero => intro k hk L I J hc; have : k = N := by omega
              subst this; exact last _ L I J hc
    | succ m ih => intro k hk L I J hc; exact step k (by omega) _ L I J hc (fun L' I' J' h' => ih (k + 1) (by omega) L' I' J' h')
  exact ⟨N + 1, key N 0 (by omega) L I J hC⟩
theorem mI_add (a b : Nat) : nI a + nI b = nI (a + b) := by unfold nI; exact (Int32.ofNat_add a b).symm
theorem mI_mul (a b : Nat) : nI a * nI b = nI (a * b) := by unfold nI; exact (Int32.ofNat_mul a b).symm
theorem mI_nat {k : Nat} (h : k < 2147483648) : (nI k).toNatClampNeg = k := by rw [i_nat, i_nI k h]; exact Int.toNat_natCast k
theorem mI_in {k n : Nat} (h : k < n) (hn : n < 2147483648) : vp_in (nI k) n := by
  rw [i_vp, i_nI k (by omega)]; omega
theorem mI_one (k : Nat) : nI k + 1 = nI (k + 1) := mI_add k 1
theorem mI_eq {a b : Nat} (ha : a < 2147483648) (hb : b < 2147483648) : (nI a = nI b) = (a = b) := by
  rw [i_eq, i_nI a ha, i_nI b hb]; exact propext Int.ofNat_inj
theorem mI_le {a b : Nat} (ha : a < 2147483648) (hb : b < 2147483648) : (nI a ≤ nI b) = (a ≤ b) := by
  rw [i_le, i_nI a ha, i_nI b hb]; exact propext Int.ofNat_le
theorem mI_lt {a b : Nat} (ha : a < 2147483648) (hb : b < 2147483648) : (nI a < nI b) = (a < b) := by
  rw [i_lt, i_nI a ha, i_nI b hb]; exact propext Int.ofNat_lt
/-- a number that is not below 0, as a natural one -/
theorem mI_of {x : Int32} (h : 0 ≤ x.toInt) : x = nI x.toInt.toNat := by
  apply i_ext; have := i_rg x; rw [i_nI _ (by omega)]; omega
variable (u : Nat) (I : ZI) (J : ZJ)
def lay (I : ZI) (k : Nat) : ZI := fun a i => if a = 53 ∧ i < k then I 49 (5 + i) else I a i
theorem lay_0 (I : ZI) : lay I 0 = I := by funext a i; simp [lay]
theorem lay_s (I : ZI) (k : Nat) : zu (lay I k) 53 k (lay I k 49 (5 + k)) = lay I (k + 1) := by
  funext a i
  unfold zu
  have h49 : lay I k 49 (5 + k) = I 49 (5 + k) := by simp [lay]
  rw [h49]
  by_cases ha : a = 53
  · subst ha
    by_cases hi : i = k
    · subst hi; simp [lay]
    · by_cases h2 : i < k
      · have : i < k + 1 := by omega
        simp [lay, hi, h2, this]
      · have : ¬ i < k + 1 := by omega
        simp [lay, hi, h2, this]
  · simp [lay, ha]
theorem p_X12_layStones (q : YQv) (hq : q (lay I 16) J) : u_X12_layStones [.ref 48] (shp u) I J q := by
  rw [e_X12_layStones]
  refine zlp 16 (fun k L I' J' => L = [some (.ref 48), some (.int (nI k))] ∧ I' = lay I k ∧ J' = J) ?_ ?_ _ _ _ ⟨rfl, (lay_0 I).symm, rfl⟩
  · rintro k hk r L I' J' ⟨rfl, rfl, rfl⟩ hr
    rw [g_X12_layStones_2]
    have h5 : (5 : Int32) + nI k = nI (5 + k) := mI_add 5 k
    refine ⟨fun h => ?_, fun _ => ⟨?_, ?_, ?_⟩⟩
    · have : nI 16 ≤ nI k := h
      rw [mI_le (by omega) (by omega)] at this; omega
    · rw [h5]; exact mI_in (by omega) (by omega)
    · exact mI_in (by omega) (by omega)
    · rw [h5, mI_nat (by omega), mI_nat (by omega), mI_one]
      exact hr _ _ _ ⟨rfl, lay_s I k, rfl⟩
  · rintro r L I' J' ⟨rfl, rfl, rfl⟩
    rw [g_X12_layStones_2]
    exact ⟨fun _ => ⟨rfl, hq⟩, fun h => absurd (show nI 16 ≤ nI 16 from by rw [i_le]; exact Int.le_refl _) h⟩
