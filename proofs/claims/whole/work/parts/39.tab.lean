/-! ===== tables of steps ===== -/
noncomputable def wv (M : Nat) (H kd : Int32) (cb wd : Nat → Int32) (b : Int32) (d t : Nat) (l : Int32) : Nat :=
  if h : d = 0 then 0 else
    let mx : (p : Nat) → 1 ≤ p → Nat := fun p hp =>
      max (max (cIf (fel H (lb kd l (cb (M - (d - p))) (wd t) (nI p))) 100 (wv M H kd cb wd b (d - p) ((t + 1) % 6) (lb kd l (cb (M - (d - p))) (wd t) (nI p))))
        (cIf (fel H (lb kd l (cb (M - (d - p))) (wd t) (nI p) - b)) 100 (wv M H kd cb wd b (d - p) ((t + 1) % 6) (lb kd l (cb (M - (d - p))) (wd t) (nI p) - b))))
        (cIf (fel H (lb kd l (cb (M - (d - p))) (wd t) (nI p) + b)) 100 (wv M H kd cb wd b (d - p) ((t + 1) % 6) (lb kd l (cb (M - (d - p))) (wd t) (nI p) + b)))
    min 100 (1 + min (mx 1 (by omega)) (min (mx 2 (by omega)) (mx 3 (by omega))))
termination_by d
decreasing_by all_goals omega
noncomputable def cw (M : Nat) (H kd : Int32) (cb wd : Nat → Int32) (b : Int32) (d t : Nat) (x : Int32) : Nat := cIf (fel H x) 100 (wv M H kd cb wd b d t x)
noncomputable def pv (M : Nat) (H kd : Int32) (cb wd : Nat → Int32) (b : Int32) (d p t : Nat) (l : Int32) : Nat :=
  max (max (cw M H kd cb wd b (d - p) ((t + 1) % 6) (lb kd l (cb (M - (d - p))) (wd t) (nI p))) (cw M H kd cb wd b (d - p) ((t + 1) % 6) (lb kd l (cb (M - (d - p))) (wd t) (nI p) - b))) (cw M H kd cb wd b (d - p) ((t + 1) % 6) (lb kd l (cb (M - (d - p))) (wd t) (nI p) + b))
theorem wv_0 (M : Nat) (H kd : Int32) (cb wd : Nat → Int32) (b : Int32) (t : Nat) (l : Int32) : wv M H kd cb wd b 0 t l = 0 := by
  rw [wv, dif_pos rfl]
theorem wv_s {M : Nat} {H kd : Int32} {cb wd : Nat → Int32} {b : Int32} {d t : Nat} {l : Int32} (h : d ≠ 0) : wv M H kd cb wd b d t l = min 100 (1 + min (pv M H kd cb wd b d 1 t l) (min (pv M H kd cb wd b d 2 t l) (pv M H kd cb wd b d 3 t l))) := by
  rw [wv, dif_neg h]; rfl
theorem wv_le (M : Nat) (H kd : Int32) (cb wd : Nat → Int32) (b : Int32) : ∀ d, d ≤ 15 → ∀ t l, wv M H kd cb wd b d t l ≤ d ∨ wv M H kd cb wd b d t l = 100 := by
  intro d
  induction d using Nat.strongRecOn with
  | _ d ih =>
    intro h15 t l
    by_cases h : d = 0
    · subst h; rw [wv_0]; exact Or.inl (Nat.le_refl _)
    · have hc : ∀ p t x, 1 ≤ p → (cw M H kd cb wd b (d - p) t x ≤ d - p ∨ cw M H kd cb wd b (d - p) t x = 100) := by
        intro p t x hp
        unfold cw
        by_cases hf : fel H x
        · rw [cIf_t hf]; exact Or.inr rfl
        · rw [cIf_f hf]; exact ih (d - p) (by omega) (by omega) t x
      have hp : ∀ p, 1 ≤ p → (pv M H kd cb wd b d p t l ≤ d - p ∨ pv M H kd cb wd b d p t l = 100) := by
        intro p hp
        unfold pv
        have h1 := hc p ((t + 1) % 6) (lb kd l (cb (M - (d - p))) (wd t) (nI p)) hp
        have h2 := hc p ((t + 1) % 6) (lb kd l (cb (M - (d - p))) (wd t) (nI p) - b) hp
        have h3 := hc p ((t + 1) % 6) (lb kd l (cb (M - (d - p))) (wd t) (nI p) + b) hp
        omega
      rw [wv_s h]
      have h1 := hp 1 (by omega)
      have h2 := hp 2 (by omega)
      have h3 := hp 3 (by omega)
      omega
theorem cw_le (M : Nat) (H kd : Int32) (cb wd : Nat → Int32) (b : Int32) {d : Nat} (hd : d ≤ 15) (t : Nat) (x : Int32) : cw M H kd cb wd b d t x ≤ d ∨ cw M H kd cb wd b d t x = 100 := by
  unfold cw
  by_cases hf : fel H x
  · rw [cIf_t hf]; exact Or.inr rfl
  · rw [cIf_f hf]; exact wv_le M H kd cb wd b d hd t x
theorem pv_le (M : Nat) (H kd : Int32) (cb wd : Nat → Int32) (b : Int32) {d : Nat} (hd : d ≤ 15) (p t : Nat) (l : Int32) : pv M H kd cb wd b d p t l ≤ 15 ∨ pv M H kd cb wd b d p t l = 100 := by
  unfold pv
  have h1 := cw_le M H kd cb wd b (show d - p ≤ 15 by omega) ((t + 1) % 6) (lb kd l (cb (M - (d - p))) (wd t) (nI p))
  have h2 := cw_le M H kd cb wd b (show d - p ≤ 15 by omega) ((t + 1) % 6) (lb kd l (cb (M - (d - p))) (wd t) (nI p) - b)
  have h3 := cw_le M H kd cb wd b (show d - p ≤ 15 by omega) ((t + 1) % 6) (lb kd l (cb (M - (d - p))) (wd t) (nI p) + b)
  omega
/-- what the class writes for a number of steps; what the reference writes -/
def vc (w : Nat) : Int32 := if w < 100 then nI w else 16777216
def vm (w : Nat) : Int32 := if w < 100 then nI w else 1000000
theorem vc_i (w : Nat) : (vc w).toInt = if w < 100 then (w : Int) else 16777216 := by
  unfold vc
  by_cases h : w < 100
  · rw [if_pos h, if_pos h, i_nI _ (by omega)]
  · rw [if_neg h, if_neg h]; rfl
theorem vm_i (w : Nat) : (vm w).toInt = if w < 100 then (w : Int) else 1000000 := by
  unfold vm
  by_cases h : w < 100
  · rw [if_pos h, if_pos h, i_nI _ (by omega)]
  · rw [if_neg h, if_neg h]; rfl
theorem vc_max {a c : Nat} (ha : a ≤ 100) (hc : c ≤ 100) : (if vc a < vc c then vc c else vc a) = vc (max a c) := by
  have h1 := vc_i a
  have h2 := vc_i c
  by_cases h : vc a < vc c
  · rw [if_pos h]
    rw [i_lt, h1, h2] at h
    have : max a c = c := by split at h <;> split at h <;> omega
    rw [this]
  · rw [if_neg h]
    rw [i_lt, h1, h2] at h
    have : max a c = a := by split at h <;> split at h <;> omega
    rw [this]
theorem vc_min {a m : Nat} (ha : a ≤ 15 ∨ a = 100) (hm : m ≤ 100) : (if vc a + 1 < vc m then vc a + 1 else vc m) = vc (min m (min 100 (1 + a))) := by
  have h1 := vc_i a
  have h2 := vc_i m
  have e1 : (1 : Int32).toInt = 1 := rfl
  have h3 : (vc a + 1).toInt = (vc a).toInt + 1 := by
    rw [i_add, e1, h1]; split <;> omega
  by_cases h : vc a + 1 < vc m
  · rw [if_pos h]
    rw [i_lt, h3, h1, h2] at h
    apply i_ext
    rw [h3, h1, vc_i]
    rcases ha with ha | ha
    · rw [if_pos (by omega)]
      split at h
      · have : min m (min 100 (1 + a)) = 1 + a := by split at h <;> omega
        rw [this, if_pos (by omega)]; omega
      · omega
    · subst ha
      rw [if_neg (by omega)] at h
      split at h <;> omega
  · rw [if_neg h]
    rw [i_lt, h3, h1, h2] at h
    have : min m (min 100 (1 + a)) = m := by
      rcases ha with ha | ha
      · rw [if_pos (by omega)] at h; split at h <;> omega
      · subst ha; rw [if_neg (by omega)] at h; split at h <;> omega
    rw [this]
/-- the place of a cell, a wind and a lean -/
def pl (c t : Nat) (l : Int32) : Nat := (c * 6 + t) * 25 + (l.toInt + 12).toNat
theorem pl_ne {H : Int32} (hH : H.toInt ≤ 12) {c t c' t' : Nat} {l l' : Int32} (ht : t < 6) (ht' : t' < 6) (hl : ¬ fel H l) (hl' : ¬ fel H l') (h : ¬ (c = c' ∧ t = t' ∧ l.toInt = l'.toInt)) : pl c t l ≠ pl c' t' l' := by
  unfold fel at hl hl'
  rw [i_neg] at hl hl'
  have := i_rg H
  unfold pl
  omega
def Tb (row : Nat → Int32) (e : Nat → Int32) (G : Nat → Nat → Int32 → Nat) (M : Nat) (H : Int32) (P : Nat → Nat → Int → Prop) : Prop :=
  ∀ c t l, c < M → t < 6 → ¬ fel H l → P c t l.toInt → row (pl c t l) = e (G (M - c) t l)
theorem Tb_put {row row' : Nat → Int32} {e : Nat → Int32} {G : Nat → Nat → Int32 → Nat} {M : Nat} {H : Int32} {P P' : Nat → Nat → Int → Prop} (hH : H.toInt ≤ 12) (hT : Tb row e G M H P) {c t : Nat} {l : Int32} (ht : t < 6) (hl : ¬ fel H l)
    (h1 : row' (pl c t l) = e (G (M - c) t l)) (h2 : ∀ k, k ≠ pl c t l → row' k = row k) (hP : ∀ c' t' l', P' c' t' l' → P c' t' l' ∨ (c' = c ∧ t' = t ∧ l' = l.toInt)) : Tb row' e G M H P' := by
  intro c' t' l' hc' ht' hl' hp
  by_cases h : c' = c ∧ t' = t ∧ l'.toInt = l.toInt
  · obtain ⟨rfl, rfl, h3⟩ := h
    rw [i_ext h3]; exact h1
  · rw [h2 _ (pl_ne hH ht' ht hl' hl h)]
    exact hT c' t' l' hc' ht' hl' ((hP c' t' l'.toInt hp).resolve_right h)
theorem Tb_mono {row : Nat → Int32} {e : Nat → Int32} {G : Nat → Nat → Int32 → Nat} {M : Nat} {H : Int32} {P P' : Nat → Nat → Int → Prop} (hT : Tb row e G M H P) (hP : ∀ c t l, c < M → t < 6 → ((-H).toInt ≤ l ∧ l ≤ H.toInt) → P' c t l → P c t l) : Tb row e G M H P' := by
  intro c t l h1 h2 h3 h4
  exact hT c t l h1 h2 h3 (hP c t l.toInt h1 h2 (Classical.not_not.mp h3) h4)
theorem cel_nat {M c p : Nat} (hM : 1 ≤ M ∧ M ≤ 15) (hc : c ≤ M) (hp : p ≤ 3) : cel (nI M) (nI c) (nI p) = nI (min M (c + p)) := by
  unfold cel
  rw [mI_add]
  by_cases h : nI M < nI (c + p)
  · rw [if_pos h]; rw [mI_lt (by omega) (by omega)] at h; congr 1; omega
  · rw [if_neg h]; rw [mI_lt (by omega) (by omega)] at h; congr 1; omega
