/-! ===== what the small methods say ===== -/
variable (u : Nat) (I : ZI) (J : ZJ)
def fel (h l : Int32) : Prop := ¬ ((-h).toInt ≤ l.toInt ∧ l.toInt ≤ h.toInt)
def cel (n c p : Int32) : Int32 := if n < c + p then n else c + p
def stf (s : Int32) : Int32 := if 0 < s then s - 1 else if s < 0 then s + 1 else 0
def lb (kd l k w p : Int32) : Int32 :=
  if kd = 0 then l + k + w else if kd = 1 then stf (l + k + w) else if kd = 2 then l + (if p = 3 then 2 * k else k) + w
  else if kd = 3 then stf (l + k + w) + 1 else if kd = 4 then (if p = 2 then - stf (l + k + w) else stf (l + k + w)) else l + (if p = 3 then 2 * k else k) + 0
theorem p_X11_within (a b c : Int32) (q : YQi) : u_X11_within [.int a, .int b, .int c] (shp u) I J q = q I J (bI (b.toInt ≤ a.toInt ∧ a.toInt ≤ c.toInt)) := by
  simp only [e_X11_within, g_X11_within_14, g_X11_within_15, eq_self, true_and, true_or, or_true, i_lt]
  by_cases h1 : a.toInt < b.toInt
  · rw [bI_f (by omega)]; simp only [h1, not_true, not_false_iff, Classical.not_not, true_implies, false_implies, and_true, true_and, and_self, if_true, if_false]
  · by_cases h2 : c.toInt < a.toInt
    · rw [bI_f (by omega)]; simp only [h1, h2, not_true, not_false_iff, Classical.not_not, true_implies, false_implies, and_true, true_and, and_self, if_true, if_false]
    · rw [bI_t (by omega)]; simp only [h1, h2, not_true, not_false_iff, Classical.not_not, true_implies, false_implies, and_true, true_and, and_self, if_true, if_false]
theorem p_X12_in (a b c : Int64) (q : YQi) : u_X12_in [.long a, .long b, .long c] (shp u) I J q = q I J (bI (b.toInt ≤ a.toInt ∧ a.toInt ≤ c.toInt)) := by
  simp only [e_X12_in, g_X12_in_17, g_X12_in_18, eq_self, true_and, true_or, or_true, lg_cmp_lt, lg_cmp_gt, j_lt]
  by_cases h1 : a.toInt < b.toInt
  · rw [bI_f (by omega)]; simp only [h1, not_true, not_false_iff, Classical.not_not, true_implies, false_implies, and_true, true_and, and_self, if_true, if_false]
  · by_cases h2 : c.toInt < a.toInt
    · rw [bI_f (by omega)]; simp only [h1, h2, not_true, not_false_iff, Classical.not_not, true_implies, false_implies, and_true, true_and, and_self, if_true, if_false]
    · rw [bI_t (by omega)]; simp only [h1, h2, not_true, not_false_iff, Classical.not_not, true_implies, false_implies, and_true, true_and, and_self, if_true, if_false]
theorem p_X11_bad (x : Int32) (q : YQi) : u_X11_bad [.ref 0, .int x] (shp u) I J q = q (zu I 0 10 (I 0 10 + 1)) J x := by
  simp only [e_X11_bad, eq_self, true_and]
theorem p_X11_no (x : Int32) (q : YQi) : u_X11_no [.ref 0, .int x] (shp u) I J q = q (zu I 0 11 (I 0 11 + 1)) J x := by
  simp only [e_X11_no, eq_self, true_and]
theorem p_X11_full (q : YQi) : u_X11_full [.ref 0] (shp u) I J q = q (zu I 0 12 (I 0 12 + 1)) J (-4) := by
  simp only [e_X11_full, eq_self, true_and]
theorem p_X12_bad (x : Int32) (q : YQi) : u_X12_bad [.ref 48, .int x] (shp u) I J q = q (zu I 52 0 (I 52 0 + 1)) J x := by
  simp only [e_X12_bad, eq_self, true_and]
theorem p_X12_no (x : Int32) (q : YQi) : u_X12_no [.ref 48, .int x] (shp u) I J q = q (zu I 52 1 (I 52 1 + 1)) J x := by
  simp only [e_X12_no, eq_self, true_and]
theorem p_X12_full (q : YQi) : u_X12_full [.ref 48] (shp u) I J q = q (zu I 52 2 (I 52 2 + 1)) J (-4) := by
  simp only [e_X12_full, eq_self, true_and]
theorem p_X11_bit (p : Prop) (q : YQi) : u_X11_bit [.int (bI p)] (shp u) I J q = q I J (bI p) := by
  simp only [e_X11_bit, g_X11_bit_9, eq_self, true_and, bI_0]
  by_cases h : p
  · rw [bI_t h]; simp [h]
  · rw [bI_f h]; simp [h]
theorem p_X11_isHead (x : Int32) (q : YQi) : u_X11_isHead [.ref 0, .int x] (shp u) I J q = q I J (bI (0 ≤ x.toInt ∧ x.toInt ≤ (I 2 2 - 1).toInt)) := by
  simp only [e_X11_isHead, p_X11_within, eq_self, true_and, bI_01, Int32.reduceToInt]
theorem p_X11_isCell (x : Int32) (q : YQi) : u_X11_isCell [.ref 0, .int x] (shp u) I J q = q I J (bI (0 ≤ x.toInt ∧ x.toInt ≤ (I 3 0).toInt)) := by
  simp only [e_X11_isCell, p_X11_within, eq_self, true_and, bI_01, Int32.reduceToInt]
theorem p_X11_isStep (x : Int32) (q : YQi) : u_X11_isStep [.int x] (shp u) I J q = q I J (bI (0 ≤ x.toInt ∧ x.toInt ≤ 5)) := by
  simp only [e_X11_isStep, p_X11_within, eq_self, true_and, bI_01, Int32.reduceToInt]
theorem p_X12_fountain (q : YQi) : u_X12_fountain [.ref 48] (shp u) I J q = q I J (I 49 0) := by
  simp only [e_X12_fountain, eq_self, true_and]
theorem p_X12_isHead (x : Int32) (q : YQi) : u_X12_isHead [.ref 48, .int x] (shp u) I J q = q I J (bI (0 ≤ x.toInt ∧ x.toInt ≤ (I 49 2 - 1).toInt)) := by
  simp only [e_X12_isHead, p_X12_in, eq_self, true_and, bI_01, ij_to, Int64.reduceToInt]
theorem p_X12_isCell (x : Int32) (q : YQi) : u_X12_isCell [.ref 48, .int x] (shp u) I J q = q I J (bI (0 ≤ x.toInt ∧ x.toInt ≤ (I 49 0).toInt)) := by
  simp only [e_X12_isCell, p_X12_in, p_X12_fountain, eq_self, true_and, bI_01, ij_to, Int64.reduceToInt]
theorem p_X12_isStep (x : Int32) (q : YQi) : u_X12_isStep [.int x] (shp u) I J q = q I J (bI (0 ≤ x.toInt ∧ x.toInt ≤ 5)) := by
  simp only [e_X12_isStep, p_X12_in, eq_self, true_and, bI_01, ij_to, Int64.reduceToInt]
theorem p_X12_isPace (x : Int32) (q : YQi) : u_X12_isPace [.int x] (shp u) I J q = q I J (bI (1 ≤ x.toInt ∧ x.toInt ≤ 3)) := by
  simp only [e_X12_isPace, p_X12_in, eq_self, true_and, bI_01, ij_to, Int64.reduceToInt]
theorem p_X12_isRoad (x y : Int32) (q : YQi) : u_X12_isRoad [.int x, .int y] (shp u) I J q = q I J (bI ((1 ≤ x.toInt ∧ x.toInt ≤ 15) ∧ 1 ≤ y.toInt ∧ y.toInt ≤ 12)) := by
  simp only [e_X12_isRoad, g_X12_isRoad_28, g_X12_isRoad_29, p_X12_in, eq_self, true_and, bI_0, ij_to, Int64.reduceToInt, true_or, or_true]
  by_cases h1 : 1 ≤ x.toInt ∧ x.toInt ≤ 15
  · by_cases h2 : 1 ≤ y.toInt ∧ y.toInt ≤ 12
    · rw [bI_t ⟨h1, h2⟩]; simp only [h1, h2, not_true, not_false_iff, Classical.not_not, true_implies, false_implies, and_true, true_and, and_self, if_true, if_false]
    · rw [bI_f (fun h => h2 h.2)]; simp only [h1, h2, not_true, not_false_iff, true_implies, false_implies, and_true, true_and, and_self]
  · rw [bI_f (fun h => h1 h.1)]; simp only [h1, not_true, not_false_iff, true_implies, false_implies, and_true, true_and]
theorem p_X5_fells (l : Int32) (q : YQi) : u_X5_fells [.ref 3, .int l] (shp u) I J q = q I J (bI (fel (I 3 1) l)) := by
  simp only [e_X5_fells, g_X5_fells_17, g_X5_fells_22, eq_self, true_and, true_or, or_true, i_lt, i_le]
  by_cases h1 : (I 3 1).toInt < l.toInt
  · rw [bI_t (by unfold fel; omega)]; simp only [h1, not_true, not_false_iff, Classical.not_not, true_implies, false_implies, and_true, true_and, and_self, if_true, if_false]
  · by_cases h2 : (-(I 3 1)).toInt ≤ l.toInt
    · rw [bI_f (by unfold fel; omega)]; simp only [h1, h2, not_true, not_false_iff, Classical.not_not, true_implies, false_implies, and_true, true_and, and_self, if_true, if_false]
    · rw [bI_t (by unfold fel; omega)]; simp only [h1, h2, not_true, not_false_iff, Classical.not_not, true_implies, false_implies, and_true, true_and, and_self, if_true, if_false]
theorem p_X12_falls (l : Int32) (q : YQi) : u_X12_falls [.ref 48, .int l] (shp u) I J q = q I J (bI (fel (I 49 1) l)) := by
  simp only [e_X12_falls, g_X12_falls_28, p_X12_in, eq_self, true_and, true_or, or_true, bI_0, ij_to]
  by_cases h1 : (-(I 49 1)).toInt ≤ l.toInt ∧ l.toInt ≤ (I 49 1).toInt
  · rw [bI_f (by unfold fel; omega)]; simp only [h1, not_true, not_false_iff, Classical.not_not, true_implies, false_implies, and_true, true_and, and_self, if_true, if_false]
  · rw [bI_t (by unfold fel; omega)]; simp only [h1, not_true, not_false_iff, true_implies, false_implies, and_true, true_and]
theorem p_X5_cellBehind (c p : Int32) (q : YQi) : u_X5_cellBehind [.ref 3, .int c, .int p] (shp u) I J q = q I J (cel (I 3 0) c p) := by
  simp only [e_X5_cellBehind, eq_self, true_and]; rfl
theorem p_X12_cellBy (c p : Int32) (q : YQi) : u_X12_cellBy [.ref 48, .int c, .int p] (shp u) I J q = q I J (cel (I 49 0) c p) := by
  simp only [e_X12_cellBy, g_X12_cellBy_20, p_X12_fountain, eq_self, true_and]
  unfold cel
  by_cases h : c + p ≤ I 49 0
  · have h2 : ¬ (I 49 0 < c + p) := by rw [i_le] at h; rw [i_lt]; omega
    simp only [h, h2, not_true, true_implies, false_implies, and_true, if_false]
  · have h2 : I 49 0 < c + p := by rw [i_le] at h; rw [i_lt]; omega
    simp only [h, h2, not_false_iff, true_implies, false_implies, true_and, if_true]
