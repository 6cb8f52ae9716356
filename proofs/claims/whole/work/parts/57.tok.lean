/-! ===== tokens ===== -/
def srt (c : Int32) : Nat := if 97 ≤ c.toInt ∧ c.toInt ≤ 122 then 1 else if 48 ≤ c.toInt ∧ c.toInt ≤ 57 then 2 else if c.toInt = 59 then 3 else 4
theorem srt_rg (c : Int32) : 1 ≤ srt c ∧ srt c ≤ 4 := by
  unfold srt
  split
  · omega
  · split
    · omega
    · split <;> omega
def skf (T : Nat → Int32) : Nat → Nat → Nat
  | 0, p => p
  | f + 1, p => if T p = 32 then skf T f (p + 1) else p
def enf (T : Nat → Int32) (s : Nat) : Nat → Nat → Nat
  | 0, e => e
  | f + 1, e => if srt (T e) = s then enf T s f (e + 1) else e
theorem skf_rg (T : Nat → Int32) : ∀ f p, p ≤ skf T f p ∧ skf T f p ≤ p + f := by
  intro f
  induction f with
  | zero => intro p; exact ⟨Nat.le_refl _, Nat.le_refl _⟩
  | succ f ih =>
    intro p
    by_cases h : T p = 32
    · have e : skf T (f + 1) p = skf T f (p + 1) := if_pos h
      have := ih (p + 1); rw [e]; omega
    · have e : skf T (f + 1) p = p := if_neg h
      rw [e]; omega
theorem enf_rg (T : Nat → Int32) (s : Nat) : ∀ f p, p ≤ enf T s f p ∧ enf T s f p ≤ p + f := by
  intro f
  induction f with
  | zero => intro p; exact ⟨Nat.le_refl _, Nat.le_refl _⟩
  | succ f ih =>
    intro p
    by_cases h : srt (T p) = s
    · have e : enf T s (f + 1) p = enf T s f (p + 1) := if_pos h
      have := ih (p + 1); rw [e]; omega
    · have e : enf T s (f + 1) p = p := if_neg h
      rw [e]; omega
/-- the token behind place p: where it starts, its sort, where it ends -/
def tA (n : Nat) (T : Nat → Int32) (p : Nat) : Nat := skf T (n - p) p
def tS (n : Nat) (T : Nat → Int32) (p : Nat) : Nat := if tA n T p < n then srt (T (tA n T p)) else 0
def tE (n : Nat) (T : Nat → Int32) (p : Nat) : Nat := if tA n T p < n then (if srt (T (tA n T p)) = 1 ∨ srt (T (tA n T p)) = 2 then enf T (srt (T (tA n T p))) (n - (tA n T p + 1)) (tA n T p + 1) else tA n T p + 1) else n
theorem tA_rg {n p : Nat} (T : Nat → Int32) (h : p ≤ n) : p ≤ tA n T p ∧ tA n T p ≤ n := by
  have := skf_rg T (n - p) p; unfold tA; omega
theorem tE_rg {n p : Nat} (T : Nat → Int32) (h : p ≤ n) : tA n T p ≤ tE n T p ∧ tE n T p ≤ n ∧ (tA n T p < n → tA n T p < tE n T p) ∧ (¬ tA n T p < n → tE n T p = n ∧ tA n T p = n) := by
  have ha := tA_rg T h
  unfold tE
  by_cases h1 : tA n T p < n
  · rw [if_pos h1]
    by_cases h2 : srt (T (tA n T p)) = 1 ∨ srt (T (tA n T p)) = 2
    · rw [if_pos h2]
      have := enf_rg T (srt (T (tA n T p))) (n - (tA n T p + 1)) (tA n T p + 1)
      exact ⟨by omega, by omega, fun _ => by omega, fun z => absurd h1 z⟩
    · rw [if_neg h2]
      exact ⟨by omega, by omega, fun _ => by omega, fun z => absurd h1 z⟩
  · rw [if_neg h1]
    exact ⟨by omega, by omega, fun z => absurd z h1, fun _ => ⟨rfl, by omega⟩⟩
theorem tS_0 {n p : Nat} (T : Nat → Int32) : tS n T p = 0 ↔ ¬ tA n T p < n := by
  unfold tS
  by_cases h1 : tA n T p < n
  · rw [if_pos h1]; have := srt_rg (T (tA n T p)); exact ⟨fun z => by omega, fun z => absurd h1 z⟩
  · rw [if_neg h1]; exact ⟨fun _ => h1, fun _ => rfl⟩
theorem tS_rg (n : Nat) (T : Nat → Int32) (p : Nat) : tS n T p ≤ 4 := by
  unfold tS
  by_cases h1 : tA n T p < n
  · rw [if_pos h1]; exact (srt_rg _).2
  · rw [if_neg h1]; omega
/-- the number of the first k figures at a -/
def nvf (T : Nat → Int32) (a : Nat) : Nat → Int32
  | 0 => 0
  | k + 1 => nvf T a k * 10 + T (a + k) - 48
variable {u : Nat} {I : ZI} {J : ZJ}
def Tp (I : ZI) (n : Nat) (T : Nat → Int32) : Prop := I 31 1 = nI n ∧ n ≤ 150 ∧ ∀ i, i < 150 → I 32 i = T i
def F31 (I I' : ZI) : Prop := (∀ a, a ≠ 31 → I' a = I a) ∧ ∀ k, k ≠ 2 → k ≠ 3 → k ≠ 4 → I' 31 k = I 31 k
theorem F31_rf (I : ZI) : F31 I I := ⟨fun _ _ => rfl, fun _ _ _ _ => rfl⟩
theorem F31_tr {I I1 I2 : ZI} (h : F31 I I1) (h2 : F31 I1 I2) : F31 I I2 := ⟨fun a ha => by rw [h2.1 a ha, h.1 a ha], fun k a b c => by rw [h2.2 k a b c, h.2 k a b c]⟩
theorem F31_u (I : ZI) {k : Nat} (h : k = 2 ∨ k = 3 ∨ k = 4) (v : Int32) : F31 I (zu I 31 k v) := ⟨fun a ha => zu_ne _ _ _ ha, fun j a b c => by rw [zu_rd, if_pos rfl, if_neg (by omega)]⟩
theorem Tp_f {I I' : ZI} {n : Nat} {T : Nat → Int32} (h : Tp I n T) (hF : F31 I I') : Tp I' n T := ⟨by rw [hF.2 1 (by omega) (by omega) (by omega)]; exact h.1, h.2.1, fun i hi => by rw [hF.1 32 (by decide)]; exact h.2.2 i hi⟩
theorem p_byte {n : Nat} {T : Nat → Int32} (h : Tp I n T) {k : Nat} (hk : k < 150) (q : YQi) (hq : q I J (T k)) : u_X4_byteAt [.ref 31, .int (nI k)] (shp u) I J q := by
  have h0 : ¬ nI k < 0 := by rw [i_lt, i_nI _ (by omega)]; show ¬ (k : Int) < 0; omega
  rw [e_X4_byteAt]
  refine ⟨fun z => absurd z h0, fun _ => ⟨fun z => absurd (show nI 150 ≤ nI k from z) (mI_ge hk (by omega)), fun _ => ⟨mI_in hk (by omega), ?_⟩⟩⟩
  rw [g_X4_byteAt_21, mI_nat (by omega), h.2.2 k hk]
  exact ⟨rfl, hq⟩
theorem p_sort (c : Int32) (q : YQi) (hq : q I J (nI (srt c))) : u_X4_sortOf [.int c] (shp u) I J q := by
  have e97 : (97 : Int32).toInt = 97 := rfl
  have e122 : (122 : Int32).toInt = 122 := rfl
  have e48 : (48 : Int32).toInt = 48 := rfl
  have e57 : (57 : Int32).toInt = 57 := rfl
  have e59 : (59 : Int32).toInt = 59 := rfl
  have s28 : ¬ (97 ≤ c.toInt ∧ c.toInt ≤ 122) → ¬ (48 ≤ c.toInt ∧ c.toInt ≤ 57) → b_X4_sortOf_28 (qi (shp u) q) [some (.int c)] [] (shp u) I J := by
    intro h1 h2
    rw [g_X4_sortOf_28]
    unfold srt at hq
    rw [if_neg h1, if_neg h2] at hq
    refine ⟨fun h => ?_, fun h => ?_⟩
    · rw [if_neg (fun z => h (i_ext (by rw [e59]; exact z)))] at hq
      rw [g_X4_sortOf_39]; exact ⟨rfl, hq⟩
    · rw [if_pos (by rw [h, e59])] at hq
      rw [g_X4_sortOf_39]; exact ⟨rfl, hq⟩
  have s14 : ¬ (97 ≤ c.toInt ∧ c.toInt ≤ 122) → b_X4_sortOf_14 (qi (shp u) q) [some (.int c)] [] (shp u) I J := by
    intro h1
    rw [g_X4_sortOf_14]
    refine ⟨fun h => s28 h1 (by rw [i_lt, e48] at h; omega), fun h => ⟨fun h' => s28 h1 (by rw [i_lt, e57] at h'; omega), fun h' => ⟨rfl, ?_⟩⟩⟩
    unfold srt at hq
    rw [if_neg h1, if_pos (by rw [i_lt, e48] at h; rw [i_lt, e57] at h'; omega)] at hq
    exact hq
  rw [e_X4_sortOf]
  refine ⟨fun h => s14 (by rw [i_lt, e97] at h; omega), fun h => ⟨fun h' => s14 (by rw [i_lt, e122] at h'; omega), fun h' => ⟨rfl, ?_⟩⟩⟩
  unfold srt at hq
  rw [if_pos (by rw [i_lt, e97] at h; rw [i_lt, e122] at h'; omega)] at hq
  exact hq
/-- the class's token -/
def Tk (I : ZI) (n : Nat) (T : Nat → Int32) (p : Nat) : Prop := I 31 2 = nI (tS n T p) ∧ I 31 3 = nI (tA n T p) ∧ I 31 4 = nI (tE n T p)
theorem p_next {n p : Nat} {T : Nat → Int32} (h : Tp I n T) (hp : p ≤ n) (h4 : I 31 4 = nI p) (q : YQv) (hq : ∀ I', F31 I I' → Tk I' n T p → q I' J) : u_X4_nextToken [.ref 31] (shp u) I J q := by
  have hn := h.2.1
  have ha := tA_rg T hp
  have he := tE_rg T hp
  rw [e_X4_nextToken, h4]
  have fin : ∀ I', F31 I I' → I' 31 2 = nI (tS n T p) → I' 31 3 = nI (tA n T p) → I' 31 4 = nI (tE n T p) → b_X4_nextToken_150 u_X4_byteAt u_X4_sortOf (qv (shp u) q) [some (.ref 31)] [] (shp u) I' J := by
    intro I' hF a b c
    rw [g_X4_nextToken_150]; exact ⟨rfl, hq I' hF ⟨a, b, c⟩⟩
  have s45 : ∀ I', F31 I I' → I' 31 3 = nI (tA n T p) → b_X4_nextToken_45 u_X4_byteAt u_X4_sortOf (qv (shp u) q) [some (.ref 31)] [] (shp u) I' J := by
    intro I' hF h3
    have hT := Tp_f h hF
    rw [g_X4_nextToken_45, hT.1, h3, mI_le (by omega) (by omega)]
    have em : ∀ y : Int32, zu (zu I' 31 2 y) 31 4 (if nI n < nI (tA n T p) + 1 then nI n else nI (tA n T p) + 1) = zu (zu I' 31 2 y) 31 4 (nI (min n (tA n T p + 1))) := by
      intro y
      congr 1
      rw [mI_one]
      by_cases hc : nI n < nI (tA n T p + 1)
      · rw [if_pos hc]; rw [mI_lt (by omega) (by omega)] at hc; congr 1; omega
      · rw [if_neg hc]; rw [mI_lt (by omega) (by omega)] at hc; congr 1; omega
    refine ⟨fun hle => ?_, fun hlt => ?_⟩
    · rw [g_X4_nextToken_72, hT.1, h3, em]
      have hs : tS n T p = 0 := (tS_0 T).2 (by omega)
      refine ⟨fun z => absurd z (by decide), fun _ => ⟨fun _ => fin _ (F31_tr hF (F31_tr (F31_u _ (by omega) _) (F31_u _ (by omega) _))) ?_ ?_ ?_, fun z => absurd z (by decide)⟩⟩
      · rw [hs]; simp only [zu_rd, Nat.reduceEqDiff, reduceIte]; rfl
      · simp only [zu_rd, Nat.reduceEqDiff, reduceIte]; exact h3
      · simp only [zu_rd, Nat.reduceEqDiff, reduceIte]
        have := he.2.2.2 (by omega)
        congr 1; omega
    · have hlt' : tA n T p < n := by omega
      refine p_byte hT (by omega) _ ?_
      refine p_sort _ _ ?_
      have hs : tS n T p = srt (T (tA n T p)) := if_pos hlt'
      have hmin : min n (tA n T p + 1) = tA n T p + 1 := by omega
      have s108 : (tS n T p = 1 ∨ tS n T p = 2) → ∀ I2, F31 I I2 → I2 31 2 = nI (tS n T p) → I2 31 3 = nI (tA n T p) → I2 31 4 = nI (tA n T p + 1) → b_X4_nextToken_108 u_X4_byteAt u_X4_sortOf (qv (shp u) q) [some (.ref 31)] [] (shp u) I2 J := by
        intro hsv I2 hF2 a1 a2 a3
        have eE : tE n T p = enf T (tS n T p) (n - (tA n T p + 1)) (tA n T p + 1) := by
          rw [hs] at hsv ⊢
          unfold tE; rw [if_pos hlt', if_pos hsv]
        have hsr := tS_rg n T p
        refine zlp (n - (tA n T p + 1)) (fun k L I3 J3 => L = [some (.ref 31)] ∧ (F31 I I3 ∧ I3 31 2 = nI (tS n T p) ∧ I3 31 3 = nI (tA n T p) ∧ I3 31 4 = nI (tA n T p + 1 + k) ∧ tE n T p = enf T (tS n T p) (n - (tA n T p + 1) - k) (tA n T p + 1 + k)) ∧ J3 = J) ?_ ?_ _ _ _ ⟨rfl, ⟨hF2, a1, a2, a3, eE⟩, rfl⟩
        · rintro k hk r L I3 J3 ⟨rfl, ⟨hF3, b1, b2, b3, b4⟩, rfl⟩ hr
          have hT3 := Tp_f h hF3
          rw [g_X4_nextToken_108, hT3.1, b3, mI_le (by omega) (by omega)]
          refine ⟨fun z => by omega, fun _ => ?_⟩
          refine p_byte hT3 (by omega) _ ?_
          refine p_sort _ _ ?_
          rw [b1, b3, mI_one]
          have hs2 := srt_rg (T (tA n T p + 1 + k))
          rw [mI_eq (by omega) (by omega)]
          have hk1 : n - (tA n T p + 1) - k = (n - (tA n T p + 1) - (k + 1)) + 1 := by omega
          rw [hk1] at b4
          refine ⟨fun z => ?_, fun z => ?_⟩
          · have b5 : enf T (tS n T p) (n - (tA n T p + 1) - (k + 1) + 1) (tA n T p + 1 + k) = tA n T p + 1 + k := if_neg z
            exact fin _ hF3 b1 b2 (by rw [b3, b4, b5])
          · have b5 : enf T (tS n T p) (n - (tA n T p + 1) - (k + 1) + 1) (tA n T p + 1 + k) = enf T (tS n T p) (n - (tA n T p + 1) - (k + 1)) (tA n T p + 1 + k + 1) := if_pos z
            refine hr _ _ _ ⟨rfl, ⟨F31_tr hF3 (F31_u _ (by omega) _), ?_, ?_, ?_, by rw [b4, b5]; rfl⟩, rfl⟩
            · rw [zu_rd, if_pos rfl, if_neg (by decide)]; exact b1
            · rw [zu_rd, if_pos rfl, if_neg (by decide)]; exact b2
            · rw [zu_rd, if_pos rfl, if_pos rfl]; rfl
        · rintro r L I3 J3 ⟨rfl, ⟨hF3, b1, b2, b3, b4⟩, rfl⟩
          have hT3 := Tp_f h hF3
          rw [g_X4_nextToken_108, hT3.1, b3, mI_le (by omega) (by omega)]
          rw [Nat.sub_self] at b4
          exact ⟨fun _ => fin _ hF3 b1 b2 (by rw [b3, b4]; rfl), fun z => absurd (by omega) z⟩
      rw [g_X4_nextToken_72, hT.1, h3, em, hmin, ← hs]
      have hsr := tS_rg n T p
      have hF2 := F31_tr hF (F31_tr (F31_u I' (k := 2) (by omega) (nI (tS n T p))) (F31_u _ (k := 4) (by omega) (nI (tA n T p + 1))))
      have c1 : zu (zu I' 31 2 (nI (tS n T p))) 31 4 (nI (tA n T p + 1)) 31 2 = nI (tS n T p) := by simp only [zu_rd, Nat.reduceEqDiff, reduceIte]
      have c2 : zu (zu I' 31 2 (nI (tS n T p))) 31 4 (nI (tA n T p + 1)) 31 3 = nI (tA n T p) := by simp only [zu_rd, Nat.reduceEqDiff, reduceIte]; exact h3
      have c3 : zu (zu I' 31 2 (nI (tS n T p))) 31 4 (nI (tA n T p + 1)) 31 4 = nI (tA n T p + 1) := by simp only [zu_rd, Nat.reduceEqDiff, reduceIte]
      have q1 : (nI (tS n T p) = 1) = (tS n T p = 1) := mI_eq (b := 1) (by omega) (by omega)
      have q2 : (nI (tS n T p) = 2) = (tS n T p = 2) := mI_eq (b := 2) (by omega) (by omega)
      rw [q1, q2]
      refine ⟨fun z => s108 (Or.inl z) _ hF2 c1 c2 c3, fun z => ⟨fun z2 => fin _ hF2 c1 c2 ?_, fun z2 => s108 (Or.inr z2) _ hF2 c1 c2 c3⟩⟩
      rw [c3]
      unfold tE; rw [if_pos hlt', if_neg (by rw [← hs]; omega)]
  refine zlp (n - p) (fun k L I1 J1 => L = [some (.ref 31)] ∧ (F31 I I1 ∧ I1 31 3 = nI (p + k) ∧ tA n T p = skf T (n - p - k) (p + k)) ∧ J1 = J) ?_ ?_ _ _ _ ⟨rfl, ⟨F31_u _ (by omega) _, by rw [zu_rd, if_pos rfl, if_pos rfl]; rfl, rfl⟩, rfl⟩
  · rintro k hk r L I1 J1 ⟨rfl, ⟨hF, h3, hsk⟩, rfl⟩ hr
    have hT := Tp_f h hF
    rw [g_X4_nextToken_8, hT.1, h3, mI_le (by omega) (by omega)]
    refine ⟨fun z => by omega, fun _ => ?_⟩
    refine p_byte hT (by omega) _ ?_
    have hk1 : n - p - k = (n - p - (k + 1)) + 1 := by omega
    rw [hk1] at hsk
    refine ⟨fun z => ?_, fun z => ?_⟩
    · have b5 : skf T (n - p - (k + 1) + 1) (p + k) = p + k := if_neg z
      exact s45 _ hF (by rw [h3, hsk, b5])
    · have b5 : skf T (n - p - (k + 1) + 1) (p + k) = skf T (n - p - (k + 1)) (p + k + 1) := if_pos z
      rw [h3, mI_one]
      exact hr _ _ _ ⟨rfl, ⟨F31_tr hF (F31_u _ (by omega) _), by rw [zu_rd, if_pos rfl, if_pos rfl]; rfl, by rw [hsk, b5]; rfl⟩, rfl⟩
  · rintro r L I1 J1 ⟨rfl, ⟨hF, h3, hsk⟩, rfl⟩
    have hT := Tp_f h hF
    rw [g_X4_nextToken_8, hT.1, h3, mI_le (by omega) (by omega)]
    rw [Nat.sub_self] at hsk
    exact ⟨fun _ => s45 _ hF (by rw [h3, hsk]; rfl), fun z => absurd (by omega) z⟩
def numk (n : Nat) (T : Nat → Int32) (p : Nat) (lo hi : Int32) : Prop := tS n T p = 2 ∧ tE n T p - tA n T p ≤ 2 ∧ lo.toInt ≤ (nvf T (tA n T p) (tE n T p - tA n T p)).toInt ∧ (nvf T (tA n T p) (tE n T p - tA n T p)).toInt ≤ hi.toInt
theorem p_num {n p : Nat} {T : Nat → Int32} (h : Tp I n T) (hp : p ≤ n) (h4 : I 31 4 = nI p) (lo hi : Int32) (q : YQi) (hy : numk n T p lo hi → ∀ I', F31 I I' → Tk I' n T p → q I' J (nvf T (tA n T p) (tE n T p - tA n T p))) (hn : ¬ numk n T p lo hi → ∀ I', F31 I I' → Tk I' n T p → q I' J (-1)) : u_X4_nextNumber [.ref 31, .int lo, .int hi] (shp u) I J q := by
  have hn150 := h.2.1
  rw [e_X4_nextNumber]
  refine p_next h hp h4 _ (fun I1 hF hT => ?_)
  obtain ⟨k1, k2, k3⟩ := hT
  have ha := tA_rg T hp
  have he := tE_rg T hp
  have hsr := tS_rg n T p
  have q2 : (nI (tS n T p) = 2) = (tS n T p = 2) := mI_eq (b := 2) (by omega) (by omega)
  have hsub : nI (tE n T p) - nI (tA n T p) = nI (tE n T p - tA n T p) := mI_sub he.1
  have q3 : (nI (tE n T p - tA n T p) ≤ 2) = (tE n T p - tA n T p ≤ 2) := mI_le (b := 2) (by omega) (by omega)
  rw [k1, k2, k3, q2, hsub, q3, g_X4_nextNumber_25]
  refine ⟨fun z => ⟨rfl, hn (fun y => z y.1) I1 hF ⟨k1, k2, k3⟩⟩, fun z => ⟨fun z2 => ?_, fun z2 => ⟨rfl, hn (fun y => z2 y.2.1) I1 hF ⟨k1, k2, k3⟩⟩⟩⟩
  have hT1 := Tp_f h hF
  refine zlp (tE n T p - tA n T p) (fun k L I2 J2 => L = [some (.ref 31), some (.int lo), some (.int hi), some (.int (nvf T (tA n T p) k)), some (.int (nI (tA n T p + k)))] ∧ I2 = I1 ∧ J2 = J) ?_ ?_ _ _ _ ⟨rfl, rfl, rfl⟩
  · rintro k hk r L I2 J2 ⟨rfl, rfl, rfl⟩ hr
    rw [g_X4_nextNumber_35, k3, mI_le (by omega) (by omega)]
    refine ⟨fun z => by omega, fun _ => ?_⟩
    refine p_byte hT1 (by omega) _ ?_
    rw [mI_one]
    exact hr _ _ _ ⟨rfl, rfl, rfl⟩
  · rintro r L I2 J2 ⟨rfl, rfl, rfl⟩
    rw [g_X4_nextNumber_35, k3, mI_le (by omega) (by omega)]
    refine ⟨fun _ => ?_, fun z => absurd (by omega) z⟩
    rw [p_X11_within]
    refine ⟨fun y => ?_, fun y => ?_⟩
    · rw [g_X4_nextNumber_79]; exact ⟨rfl, hn (fun w => b0n y ⟨w.2.2.1, w.2.2.2⟩) I2 hF ⟨k1, k2, k3⟩⟩
    · have := b0p y
      rw [g_X4_nextNumber_79]; exact ⟨rfl, hy ⟨z, z2, this.1, this.2⟩ I2 hF ⟨k1, k2, k3⟩⟩
theorem p_end {n p : Nat} {T : Nat → Int32} (h : Tp I n T) (hp : p ≤ n) (h4 : I 31 4 = nI p) (q : YQi) (hq : ∀ I', F31 I I' → Tk I' n T p → q I' J (bI (tS n T p = 3))) : u_X4_nextIsEnd [.ref 31] (shp u) I J q := by
  rw [e_X4_nextIsEnd]
  refine p_next h hp h4 _ (fun I1 hF hT => ?_)
  have fin := hq I1 hF hT
  obtain ⟨k1, k2, k3⟩ := hT
  have hsr := tS_rg n T p
  have q3 : (nI (tS n T p) = 3) = (tS n T p = 3) := mI_eq (b := 3) (by omega) (by omega)
  rw [k1, q3, g_X4_nextIsEnd_17, g_X4_nextIsEnd_17]
  refine ⟨fun z => ⟨Or.inl rfl, rfl, ?_⟩, fun z => ⟨Or.inr rfl, rfl, ?_⟩⟩
  · rw [bI_f z] at fin; exact fin
  · rw [bI_t z] at fin; exact fin
