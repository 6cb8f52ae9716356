/-! ===== filling a range; undo ===== -/
def flr (I : ZI) (a lo : Nat) (f : Nat → Int32) (n : Nat) : ZI := fun b i => if b = a ∧ lo ≤ i ∧ i < lo + n then f i else I b i
theorem flr_0 (I : ZI) (a lo : Nat) (f : Nat → Int32) : flr I a lo f 0 = I := by
  funext b i; unfold flr; rw [if_neg (by omega)]
theorem flr_in (I : ZI) {a lo n i : Nat} (f : Nat → Int32) (h1 : lo ≤ i) (h2 : i < lo + n) : flr I a lo f n a i = f i := by
  unfold flr; rw [if_pos ⟨rfl, h1, h2⟩]
theorem flr_out (I : ZI) {a lo n b i : Nat} (f : Nat → Int32) (h : ¬ (b = a ∧ lo ≤ i ∧ i < lo + n)) : flr I a lo f n b i = I b i := by
  unfold flr; rw [if_neg h]
theorem flr_ne (I : ZI) {a lo n b : Nat} (f : Nat → Int32) (h : b ≠ a) : flr I a lo f n b = I b := by
  funext i; unfold flr; rw [if_neg (fun x => h x.1)]
theorem flr_s (I : ZI) (a lo : Nat) (f : Nat → Int32) (k : Nat) : zu (flr I a lo f k) a (lo + k) (f (lo + k)) = flr I a lo f (k + 1) := by
  funext b i
  rw [zu_rd]
  by_cases hb : b = a
  · subst hb
    rw [if_pos rfl]
    by_cases hi : i = lo + k
    · subst hi; rw [if_pos rfl, flr_in _ _ (by omega) (by omega)]
    · rw [if_neg hi]
      by_cases h2 : lo ≤ i ∧ i < lo + k
      · rw [flr_in _ _ h2.1 h2.2, flr_in _ _ h2.1 (by omega)]
      · rw [flr_out _ _ (by omega), flr_out _ _ (by omega)]
  · rw [if_neg hb, flr_ne _ _ hb, flr_ne _ _ hb]
variable {u : Nat} {I : ZI} {J : ZJ}
theorem p_X12_undo_28 {m : Nat} (hm : m < 8) (h4 : I 49 4 = nI m) (q : YQi) (hq : q (flr I 49 38 (fun i => I 49 (66 + 4 * m + (i - 38))) 4) J (I 49 (66 + 4 * m))) :
    b_X12_undo_28 u_X12_no (qi (shp u) q) [some (.ref 48), some (.int 0)] [] (shp u) I J := by
  refine zlp 4 (fun k L I' J' => L = [some (.ref 48), some (.int (nI k))] ∧ I' = flr I 49 38 (fun i => I 49 (66 + 4 * m + (i - 38))) k ∧ J' = J) ?_ ?_ _ _ _ ⟨rfl, (flr_0 _ _ _ _).symm, rfl⟩
  · rintro k hk r L I' J' ⟨rfl, rfl, rfl⟩ hr
    rw [g_X12_undo_28]
    have e4 : flr I 49 38 (fun i => I 49 (66 + 4 * m + (i - 38))) k 49 4 = nI m := by rw [flr_out _ _ (by omega), h4]
    have e1 : ((66 : Int32) + ((4 : Int32) * nI m)) + nI k = nI (66 + 4 * m + k) := by
      have x1 : (4 : Int32) * nI m = nI (4 * m) := mI_mul 4 m
      have x2 : (66 : Int32) + nI (4 * m) = nI (66 + 4 * m) := mI_add 66 (4 * m)
      rw [x1, x2, mI_add]
    have e2 : (38 : Int32) + nI k = nI (38 + k) := mI_add 38 k
    refine ⟨fun h => ?_, fun _ => ⟨?_, ?_, ?_⟩⟩
    · have : nI 4 ≤ nI k := h
      rw [mI_le (by omega) (by omega)] at this; omega
    · rw [e4, e1]; exact mI_in (by omega) (by omega)
    · rw [e2]; exact mI_in (by omega) (by omega)
    · rw [e4, e1, e2, mI_nat (by omega), mI_nat (by omega), mI_one]
      refine hr _ _ _ ⟨rfl, ?_, rfl⟩
      have := flr_s I 49 38 (fun i => I 49 (66 + 4 * m + (i - 38))) k
      rw [← this, flr_out _ _ (by omega : ¬ (49 = 49 ∧ 38 ≤ 66 + 4 * m + k ∧ 66 + 4 * m + k < 38 + k))]
      have x3 : 66 + 4 * m + (38 + k - 38) = 66 + 4 * m + k := by omega
      show zu _ 49 (38 + k) _ = zu _ 49 (38 + k) (I 49 (66 + 4 * m + (38 + k - 38)))
      rw [x3]
  · rintro r L I' J' ⟨rfl, rfl, rfl⟩
    rw [g_X12_undo_28]
    refine ⟨fun _ => ⟨rfl, ?_⟩, fun h => absurd (show nI 4 ≤ nI 4 from by rw [i_le]; exact Int.le_refl _) h⟩
    rw [flr_in _ _ (by omega) (by omega)]
    exact hq
theorem o_undo (hR : Rl u I J) (Q : ZI → ZJ → Int32 → Int32 → Prop) (hQ : ∀ I' J' v, Rl u I' J' → Q I' J' v v) :
    u_X11_undo [.ref 0] (shp u) I J (fun I1 J1 v1 => u_X12_undo [.ref 48] (shp u) I1 J1 (fun I2 J2 v2 => Q I2 J2 v1 v2)) := by
  obtain ⟨w0, w1, w2, w3, w4, w5, w6, w7, w8, w9, w10, w11, w12, w13⟩ := hR.1
  obtain ⟨v0, v1, v2, v3, v4, v5, v6, v7, v8, v9, v10, v11⟩ := hR.2.1
  have w4' : I 6 4 = I 49 4 := w4
  have w8' : I 6 0 = I 49 37 := w8
  rw [e_X11_undo]
  by_cases h : I 49 4 = 0
  · have h0 : ¬ (0 : Int32) < I 6 4 := by rw [w4', h]; decide
    refine ⟨fun x => absurd x h0, fun _ => ?_⟩
    rw [p_X11_no]
    refine ⟨rfl, ?_⟩
    rw [e_X12_undo]
    refine ⟨fun x => absurd (show zu I 0 11 (I 0 11 + 1) 49 4 = 0 by rw [zu_ne _ _ _ (by decide)]; exact h) x, fun _ => ?_⟩
    rw [p_X12_no]
    exact ⟨rfl, hQ _ _ _ (Rl_no hR)⟩
  · have hp : 0 < (I 49 4).toInt := by
      rcases Int.lt_or_le 0 (I 49 4).toInt with x | x
      · exact x
      · exact absurd (i_ext (show (I 49 4).toInt = (0 : Int32).toInt by show _ = (0 : Int); omega)) h
    obtain ⟨m, hm, hm8⟩ : ∃ m : Nat, I 49 4 = nI (m + 1) ∧ m < 8 := ⟨(I 49 4).toInt.toNat - 1, by
      have := mI_of v4.1
      have e : (I 49 4).toInt.toNat = (I 49 4).toInt.toNat - 1 + 1 := by omega
      rw [← e]; exact this, by omega⟩
    have t4 : (I 49 4).toInt = (m + 1 : Nat) := by rw [hm, i_nI _ (by omega)]
    have hs : (nI (m + 1) : Int32) - 1 = nI m := by
      apply i_ext
      have x1 : (1 : Int32).toInt = 1 := rfl
      rw [i_sub, i_nI _ (by omega), i_nI _ (by omega), x1]; omega
    have h0 : (0 : Int32) < I 6 4 := by rw [w4', i_lt]; exact hp
    refine ⟨fun _ => ?_, fun x => absurd h0 x⟩
    rw [e_X8_takeBack, p_X11_within]
    have hb : (1 : Int32).toInt ≤ (I 6 4).toInt ∧ (I 6 4).toInt ≤ (8 : Int32).toInt := by rw [w4']; exact ⟨hp, v4.2⟩
    refine ⟨fun x => absurd x (by rw [bI_t hb]; decide), fun _ => ?_⟩
    rw [w4', hm, hs, mI_nat (by omega)]
    have hin : vp_in (nI m) 8 := mI_in hm8 (by omega)
    refine ⟨hin, hin, hin, ?_⟩
    rw [g_X8_takeBack_62]
    refine ⟨rfl, rfl, ?_⟩
    generalize hI1 : zu (zu (zu (zu I 6 4 (nI m)) 6 1 (I 7 m)) 6 2 (I 8 m)) 6 3 (I 9 m) = I1
    have n6 : ∀ a, a ≠ 6 → I1 a = I a := fun a ha => by rw [← hI1, zu_ne _ _ _ ha, zu_ne _ _ _ ha, zu_ne _ _ _ ha, zu_ne _ _ _ ha]
    have r0 : I1 6 0 = I 6 0 := by rw [← hI1]; simp only [zu_rd, Nat.reduceEqDiff, reduceIte]
    have r1 : I1 6 1 = I 7 m := by rw [← hI1]; simp only [zu_rd, Nat.reduceEqDiff, reduceIte]
    have r2 : I1 6 2 = I 8 m := by rw [← hI1]; simp only [zu_rd, Nat.reduceEqDiff, reduceIte]
    have r3 : I1 6 3 = I 9 m := by rw [← hI1]; simp only [zu_rd, Nat.reduceEqDiff, reduceIte]
    have r4 : I1 6 4 = nI m := by rw [← hI1]; simp only [zu_rd, Nat.reduceEqDiff, reduceIte]
    rw [e_X12_undo]
    refine ⟨fun _ => ?_, fun x => absurd (by rw [n6 49 (by decide)] at x; exact x) h⟩
    have e4 : zu I1 49 4 (I1 49 4 - 1) 49 4 = nI m := by
      rw [zu_rd, if_pos rfl, if_pos rfl, n6 49 (by decide), hm, hs]
    refine p_X12_undo_28 hm8 e4 _ ?_
    have q49 : ∀ g, g ≠ 4 → zu I1 49 4 (I1 49 4 - 1) 49 g = I 49 g := fun g hg => by rw [zu_rd, if_pos rfl, if_neg hg, n6 49 (by decide)]
    have qn : ∀ a, a ≠ 49 → zu I1 49 4 (I1 49 4 - 1) a = I1 a := fun a ha => zu_ne _ _ _ ha
    generalize zu I1 49 4 (I1 49 4 - 1) = I2 at e4 q49 qn ⊢
    generalize hI3 : flr I2 49 38 (fun i => I2 49 (66 + 4 * m + (i - 38))) 4 = I3
    have s49 : ∀ g, ¬ (38 ≤ g ∧ g < 42) → g ≠ 4 → I3 49 g = I 49 g := fun g hg h4 => by rw [← hI3, flr_out _ _ (by omega), q49 g h4]
    have s38 : ∀ j, j < 4 → I3 49 (38 + j) = I 49 (66 + 4 * m + j) := fun j hj => by
      rw [← hI3, flr_in _ _ (by omega) (by omega)]
      show I2 49 (66 + 4 * m + (38 + j - 38)) = _
      rw [q49 _ (by omega)]; congr 1; omega
    have s4 : I3 49 4 = nI m := by rw [← hI3, flr_out _ _ (by omega), e4]
    have sn : ∀ a, a ≠ 49 → I3 a = I1 a := fun a ha => by rw [← hI3, flr_ne _ _ ha, qn a ha]
    have t38 : I3 49 38 = I 49 (66 + 4 * m) := s38 0 (by omega)
    have t39 : I3 49 39 = I 49 (67 + 4 * m) := (s38 1 (by omega)).trans (congrArg (I 49) (by omega))
    have t40 : I3 49 40 = I 49 (68 + 4 * m) := (s38 2 (by omega)).trans (congrArg (I 49) (by omega))
    have t41 : I3 49 41 = I 49 (69 + 4 * m) := (s38 3 (by omega)).trans (congrArg (I 49) (by omega))
    obtain ⟨p1, p2, p3⟩ := w12 m (by omega)
    have p1' : I 7 m = I 49 (66 + 4 * m) := p1
    have p2' : I 8 m = I 49 (67 + 4 * m) := p2
    have p3' : I 9 m = I 49 (68 + 4 * m) := p3
    obtain ⟨y1, y2, y3⟩ := v10 m (by omega)
    have ev : I1 6 1 = I2 49 (66 + 4 * m) := by rw [r1, q49 _ (by omega), p1']
    rw [ev]
    have t5 : (I3 49 4).toInt = (m : Nat) := by rw [s4, i_nI _ (by omega)]
    refine hQ _ _ _ (Rl_walk hR (fun a a1 a2 => by rw [sn a a2, n6 a (by omega)]) (fun g g1 g2 g3 => s49 g (by omega) g1) ?_ ?_ ?_ ?_ ?_ ?_ ?_ ?_ ?_ ?_ ?_ ?_)
    · rw [sn 6 (by decide), r4, s4]
    · rw [sn 6 (by decide), r0, w8', s49 37 (by omega) (by omega)]
    · rw [sn 6 (by decide), r1, t38, p1']
    · rw [sn 6 (by decide), r2, t39, p2']
    · rw [sn 6 (by decide), r3, t40, p3']
    · intro k hk
      rw [sn 7 (by decide), sn 8 (by decide), sn 9 (by decide), n6 7 (by decide), n6 8 (by decide), n6 9 (by decide), s49 _ (by omega) (by omega), s49 _ (by omega) (by omega), s49 _ (by omega) (by omega)]
      exact w12 k (by omega)
    · rw [t5]; omega
    · rw [s49 37 (by omega) (by omega)]; exact v6
    · rw [t38]; exact y1
    · rw [t38, t39]; exact y2
    · rw [t40, t41]; exact y3
    · intro k hk
      rw [s49 (66 + 4 * k) (by omega) (by omega), s49 (67 + 4 * k) (by omega) (by omega), s49 (68 + 4 * k) (by omega) (by omega), s49 (69 + 4 * k) (by omega) (by omega)]
      exact v10 k (by omega)
