/-! ===== what the start gives: classes, statics, texts ===== -/
theorem law_ts {p : Program} {s : State} {m : MethodId} {meth : Method} {c : Code} {b L : Nat} {xs : Nat → Int32} (C0 : lw_At p s m meth c b L xs) : ∀ w ∈ zG, w.before #[Value.ref b] s = true := fun w hw => C0.2.2.2.2.2.1 w (List.mem_filter.mp hw).1
theorem law_arr {A : Array Value} {s : State} {ty : FieldType} (h : (Cond.arrayClass ty).before A s = true) (ho : ∀ C, ty ≠ .object C) : ∃ cA, ArrOfT s cA ty ∧ va_RA s cA ty := by
  obtain ⟨cA, k, comp, h1, h2, h3⟩ := Cond.arrayClass_spec h
  refine ⟨cA, fun n z => ⟨fun q h => (by cases h), k, h2, comp, h3⟩, ?_⟩
  cases ty with
  | object C => exact absurd rfl (ho C)
  | _ => exact h1
theorem law_over {A : Array Value} {s : State} {C : String} (h : (Cond.arrayOver (.object C)).before A s = true) : ∃ cA, ArrOfT s cA (.object C) ∧ va_RA s cA (.object C) := by
  obtain ⟨comp, cA, k, h1, h2, h3, h4, h5⟩ := Cond.arrayOver_spec h
  exact ⟨cA, fun n z => ⟨fun q h => (by cases h), k, h3, comp, h4⟩, k, comp, h3, h4, h1, h5⟩
theorem law_K {p : Program} {s : State} {m : MethodId} {meth : Method} {c : Code} {b L : Nat} {xs : Nat → Int32} (C0 : lw_At p s m meth c b L xs) : ∃ (D : va_G) (a : ClassId × ClassId × ClassId × ClassId × ClassId), va_K D vwCl [(a.1, .int), (a.2.1, .long), (a.2.2.1, .boolean), (a.2.2.2.1, .object "SmallCrown$Plain"), (a.2.2.2.2, .object "SmallCrown$World")] s := by
  have hG := law_ts C0
  have hT := C0.2.2.2.2.2.1
  obtain ⟨c0, i0, h0⟩ := u_known (C := RX0) (T := TX0) (N := 0) (n := 0) hG zin0 (hG _ zw138)
  obtain ⟨c1, i1, h1⟩ := u_known (C := RX1) (T := TX1) (N := 0) (n := 0) hG zin1 (hG _ zw148)
  obtain ⟨c2, i2, h2⟩ := u_known (C := RX2) (T := TX2) (N := 0) (n := 0) hG zin2 (hG _ zw143)
  obtain ⟨c3, i3, h3⟩ := u_known (C := RX3) (T := TX3) (N := 0) (n := 0) hG zin3 (hG _ zw122)
  obtain ⟨c4, i4, h4⟩ := u_known (C := RX4) (T := TX4) (N := 5) (n := 5) hG zin4 (hG _ zw93)
  obtain ⟨c5, i5, h5⟩ := u_known (C := RX5) (T := TX5) (N := 4) (n := 4) hG zin5 (hG _ zw35)
  obtain ⟨c6, i6, h6⟩ := u_known (C := RX6) (T := TX6) (N := 0) (n := 0) hG zin6 (hG _ zw133)
  obtain ⟨c7, i7, h7⟩ := u_known (C := RX7) (T := TX7) (N := 0) (n := 0) hG zin7 (hG _ zw128)
  obtain ⟨c8, i8, h8⟩ := u_known (C := RX8) (T := TX8) (N := 8) (n := 8) hG zin8 (hG _ zw50)
  obtain ⟨c9, i9, h9⟩ := u_known (C := RX9) (T := TX9) (N := 3) (n := 3) hG zin9 (hG _ zw110)
  obtain ⟨c10, i10, h10⟩ := u_known (C := RX10) (T := TX10) (N := 10) (n := 10) hG zin10 (hG _ zw30)
  obtain ⟨c11, i11, h11⟩ := u_known (C := RX11) (T := TX11) (N := 13) (n := 13) hG zin11 (hG _ zw21)
  obtain ⟨c12, i12, h12⟩ := u_known (C := RX12) (T := TX12) (N := 22) (n := 22) hG zin12 (hG _ zw589)
  obtain ⟨a0, f0⟩ := law_arr (ty := .int) (hG _ zw48) (fun C h => by cases h)
  obtain ⟨a1, f1⟩ := law_arr (ty := .long) (hG _ zw121) (fun C h => by cases h)
  obtain ⟨a2, f2⟩ := law_arr (ty := .boolean) (hG _ zw642) (fun C h => by cases h)
  obtain ⟨a3, f3⟩ := law_over (hT _ zao0)
  obtain ⟨a4, f4⟩ := law_over (hT _ zao1)
  refine ⟨(fun k => ([c0, c1, c2, c3, c4, c5, c6, c7, c8, c9, c10, c11, c12] : List ClassId).getD k c0, fun k => ([i0, i1, i2, i3, i4, i5, i6, i7, i8, i9, i10, i11, i12] : List (Nat → Nat)).getD k i0), (a0, a1, a2, a3, a4), fun k q hq => ?_, fun k q hq => ?_⟩
  · match k, hq with
    | 0, hq => cases hq; exact h0
    | 1, hq => cases hq; exact h1
    | 2, hq => cases hq; exact h2
    | 3, hq => cases hq; exact h3
    | 4, hq => cases hq; exact h4
    | 5, hq => cases hq; exact h5
    | 6, hq => cases hq; exact h6
    | 7, hq => cases hq; exact h7
    | 8, hq => cases hq; exact h8
    | 9, hq => cases hq; exact h9
    | 10, hq => cases hq; exact h10
    | 11, hq => cases hq; exact h11
    | 12, hq => cases hq; exact h12
    | k + 13, hq => cases hq
  · match k, hq with
    | 0, hq => cases hq; exact f0
    | 1, hq => cases hq; exact f1
    | 2, hq => cases hq; exact f2
    | 3, hq => cases hq; exact f3
    | 4, hq => cases hq; exact f4
    | k + 5, hq => cases hq
def tmS (i : Nat) : Term := .string RX4 (zsix.getD i 0)
def tmV (i : Nat) : Term := .field (tmS i) "java/lang/String" "value" "[B"
def tmT : Term := .static "SmallCrown" "TENS" "[I"
theorem le_T1 : Cond.arrayOf tmT .int ∈ flatC (Jvm.Cond.and given_1 narrow_1) := by decide +kernel
theorem le_T2 : Cond.eq (.length tmT) (.int (Int32.ofNat 9)) ∈ flatC (Jvm.Cond.and given_1 narrow_1) := by decide +kernel
theorem le_T3 : ∀ j, j < 9 → Cond.eq (.elem tmT (.int (Int32.ofNat j))) (.int (zTens.getD j 0)) ∈ flatC (Jvm.Cond.and given_1 narrow_1) := by decide +kernel
theorem le_C : Cond.eq (.static "java/lang/String" "COMPACT_STRINGS" "Z") (.int 1) ∈ flatC (Jvm.Cond.and given_1 narrow_1) := by decide +kernel
theorem le_F : Cond.isRef (.static "jdk/internal/util/Preconditions" "SIOOBE_FORMATTER" "Ljava/util/function/BiFunction;") ∈ flatC (Jvm.Cond.and given_1 narrow_1) := by decide +kernel
theorem le_S0 : ∀ i, i < 7 → zlenS.getD i 0 < 2 ^ 31 := by decide +kernel
theorem le_S1 : ∀ i, i < 7 → Cond.exactly (tmS i) "java/lang/String" ∈ flatC (Jvm.Cond.and given_1 narrow_1) := by decide +kernel
theorem le_S2 : ∀ i, i < 7 → Cond.eq (.field (tmS i) "java/lang/String" "coder" "B") (.int 0) ∈ flatC (Jvm.Cond.and given_1 narrow_1) := by decide +kernel
theorem le_S3 : ∀ i, i < 7 → Cond.arrayOf (tmV i) .byte ∈ flatC (Jvm.Cond.and given_1 narrow_1) := by decide +kernel
theorem le_S4 : ∀ i, i < 7 → Cond.eq (.length (tmV i)) (.int (Int32.ofNat (zlenS.getD i 0))) ∈ flatC (Jvm.Cond.and given_1 narrow_1) := by decide +kernel
theorem le_S5 : ∀ i, i < 7 → ∀ j, j < zlenS.getD i 0 → Cond.eq (.elem (tmV i) (.int (Int32.ofNat j))) (.int ((zbytS.getD i []).getD j 0)) ∈ flatC (Jvm.Cond.and given_1 narrow_1) := by decide +kernel
theorem le_S6 : ∀ i, i < 7 → ∀ j, j < 7 → i ≠ j → (Cond.not (Cond.eq (tmS i) (tmS j)) ∈ flatC (Jvm.Cond.and given_1 narrow_1) ∨ Cond.not (Cond.eq (tmS j) (tmS i)) ∈ flatC (Jvm.Cond.and given_1 narrow_1)) := by decide +kernel
theorem le_sr : ∀ i, i < 7 → Cond.stringRef RX4 (zsix.getD i 0) (zstx.getD i "") ∈ lw_tbl := fun i hi => match i, hi with
  | 0, _ => zsr0
  | 1, _ => zsr1
  | 2, _ => zsr2
  | 3, _ => zsr3
  | 4, _ => zsr4
  | 5, _ => zsr5
  | 6, _ => zsr6
  | i + 7, hi => absurd hi (by omega)
def zad (t b f : Nat) (k v : Nat → Nat) (n : Nat) : Nat := if n = 0 then t else if n = 300 then b else if n = 200 then f else if n < 100 then k (n - 1) else v (n - 101)
theorem zad_k {t b f : Nat} {k v : Nat → Nat} {i : Nat} (hi : i < 7) : zad t b f k v (1 + i) = k i := by unfold zad; rw [if_neg (by omega), if_neg (by omega), if_neg (by omega), if_pos (by omega)]; congr 1; omega
theorem zad_v {t b f : Nat} {k v : Nat → Nat} {i : Nat} (hi : i < 7) : zad t b f k v (101 + i) = v i := by unfold zad; rw [if_neg (by omega), if_neg (by omega), if_neg (by omega), if_neg (by omega)]; congr 1; omega
theorem law_env {p : Program} {s : State} {m : MethodId} {meth : Method} {c : Code} {b L : Nat} {xs : Nat → Int32} (C0 : lw_At p s m meth c b L xs) : ∃ X : ZC, zB X = s.heap.size ∧ X.2.2.2 300 = b ∧ va_T .int b L (fun j => .int (xs j)) (zA X) s s.heap ∧ zFx X p s m #[Value.ref b] meth c cL_law 4 RL ret meth.name := by
  obtain ⟨D, a, hK⟩ := law_K C0
  have hG := law_ts C0
  obtain ⟨hx, hb, hr, hml, hown, hts, hX, hbl, hlocks, hgv⟩ := C0
  have hf := flat_of_before _ hgv
  have hA : ∀ q : Nat, q < s.heap.size → ¬ (fun q : Nat => s.heap.size ≤ q) q := fun q h z => absurd h (Nat.not_lt.mpr z)
  obtain ⟨t0, e0, hT0⟩ := va_Tof (args := #[Value.ref b]) (tm := tmT) (ty := .int) (N := 9) (f := fun j => .int (zTens.getD j 0)) (A := fun q : Nat => s.heap.size ≤ q) (by decide) (hf _ le_T1) (va_eqt (hf _ le_T2)) (fun j hj => va_eqt (hf _ (le_T3 j hj))) hA
  have hZ0 := va_Zref (A := fun q : Nat => s.heap.size ≤ q) (hts _ zls5) (hG _ zw1) e0 hA
  obtain ⟨k, v, hS, hSe⟩ := vk_Sof (args := #[Value.ref b]) (s := s) (N := 7) (tm := tmS) (len := zlenS) (byt := zbytS) (A := fun q : Nat => s.heap.size ≤ q) le_S0 (fun i hi => hf _ (le_S1 i hi)) (fun i hi => hf _ (le_S2 i hi)) (fun i hi => hf _ (le_S3 i hi)) (fun i hi => hf _ (le_S4 i hi)) (fun i hi j hj => hf _ (le_S5 i hi j hj)) (fun i j hi hj hn => (le_S6 i hi j hj hn).imp (fun h => hf _ h) (fun h => hf _ h)) hA
  have hC := va_Zof (A := fun q : Nat => s.heap.size ≤ q) (hts _ zls0) (hG _ zw15) (va_eqt (hf _ le_C)) hA
  have hF := va_Zqof (A := fun q : Nat => s.heap.size ≤ q) (hts _ zls1) (hG _ zw17) (hf _ le_F) hA
  obtain ⟨f, hF⟩ : ∃ f : Nat, va_Z "jdk/internal/util/Preconditions" "SIOOBE_FORMATTER" "Ljava/util/function/BiFunction;" .null (fun q : Nat => s.heap.size ≤ q) s s.heap ∨ va_Z "jdk/internal/util/Preconditions" "SIOOBE_FORMATTER" "Ljava/util/function/BiFunction;" (.ref f) (fun q : Nat => s.heap.size ≤ q) s s.heap := by
    rcases hF with h | ⟨t, h⟩
    · exact ⟨0, Or.inl h⟩
    · exact ⟨t, Or.inr h⟩
  refine ⟨(D, a, s.heap.size, zad t0 b f k v), rfl, rfl, ?_, hx, hb, hml, hr, hown, hG, hlocks, rfl, hK, ?_, Nat.le_refl _⟩
  · obtain ⟨scr, x1, x2, x3, x4, x5⟩ := hX
    refine ⟨scr, x1, x2, x3, by omega, by rw [x4], x5, hA b hbl⟩
  · refine ⟨hZ0, hT0, fun t ht => va_Nw.of rfl (hts _ (znM_in t ht)), fun t ht => va_Nw.of rfl (hts _ (znF_in t ht)), fun t ht => va_Nw.of rfl (hts _ (znC_in t ht)), va_AO.of (hts _ zao0), va_AO.of (hts _ zao1), fun i hi => ?_, ⟨fun i hi => ?_, fun i j hi hj h => ?_⟩, hC, hF⟩
    · show vk_R RX4 (zsix.getD i 0) (zstx.getD i "") (zad t0 b f k v (1 + i)) s
      rw [zad_k hi]
      exact vk_R.of (hts _ (le_sr i hi)) (hSe i hi)
    · show va_O _ (zad t0 b f k v (1 + i)) _ _ _ ∧ va_OF _ _ _ _ (zad t0 b f k v (1 + i)) _ _ _ ∧ va_OF _ _ _ (.ref (zad t0 b f k v (101 + i))) (zad t0 b f k v (1 + i)) _ _ _ ∧ va_T _ (zad t0 b f k v (101 + i)) _ _ _ _ _
      rw [zad_k hi, zad_v hi]
      exact hS.1 i hi
    · have h : zad t0 b f k v (1 + i) = zad t0 b f k v (1 + j) := h
      rw [zad_k hi, zad_k hj] at h
      exact hS.2 i j hi hj h
