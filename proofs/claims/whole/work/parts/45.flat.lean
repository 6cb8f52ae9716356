/-! ===== flat: the pure part ===== -/
noncomputable def fw (M : Nat) (H kd : Int32) (cb wd : Nat → Int32) (d t : Nat) (l : Int32) : Nat :=
  if h : d = 0 then 0 else
    let mx : (p : Nat) → 1 ≤ p → Nat := fun p hp =>
      min (cIf (fel H (lb kd l (cb (M - (d - p))) (wd t) (nI p))) 16777216 (fw M H kd cb wd (d - p) ((t + 1) % 6) (lb kd l (cb (M - (d - p))) (wd t) (nI p))))
        (65536 + 2 ^ (M - (d - p)) + cIf (fel H (lb kd l 0 (wd t) (nI p))) 16777216 (fw M H kd cb wd (d - p) ((t + 1) % 6) (lb kd l 0 (wd t) (nI p))))
    min 16777216 (min (mx 1 (by omega)) (min (mx 2 (by omega)) (mx 3 (by omega))))
termination_by d
decreasing_by all_goals omega
noncomputable def cf (M : Nat) (H kd : Int32) (cb wd : Nat → Int32) (d t : Nat) (x : Int32) : Nat := cIf (fel H x) 16777216 (fw M H kd cb wd d t x)
noncomputable def fv (M : Nat) (H kd : Int32) (cb wd : Nat → Int32) (d p t : Nat) (l : Int32) : Nat :=
  min (cf M H kd cb wd (d - p) ((t + 1) % 6) (lb kd l (cb (M - (d - p))) (wd t) (nI p))) (65536 + 2 ^ (M - (d - p)) + cf M H kd cb wd (d - p) ((t + 1) % 6) (lb kd l 0 (wd t) (nI p)))
theorem fw_0 (M : Nat) (H kd : Int32) (cb wd : Nat → Int32) (t : Nat) (l : Int32) : fw M H kd cb wd 0 t l = 0 := by
  rw [fw, dif_pos rfl]
theorem fw_s {M : Nat} {H kd : Int32} {cb wd : Nat → Int32} {d t : Nat} {l : Int32} (h : d ≠ 0) : fw M H kd cb wd d t l = min 16777216 (min (fv M H kd cb wd d 1 t l) (min (fv M H kd cb wd d 2 t l) (fv M H kd cb wd d 3 t l))) := by
  rw [fw, dif_neg h]; rfl
theorem fw_le (M : Nat) (H kd : Int32) (cb wd : Nat → Int32) (d t : Nat) (l : Int32) : fw M H kd cb wd d t l ≤ 16777216 := by
  by_cases h : d = 0
  · subst h; rw [fw_0]; omega
  · rw [fw_s h]; omega
theorem cf_le (M : Nat) (H kd : Int32) (cb wd : Nat → Int32) (d t : Nat) (x : Int32) : cf M H kd cb wd d t x ≤ 16777216 := by
  unfold cf
  by_cases hf : fel H x
  · rw [cIf_t hf]; omega
  · rw [cIf_f hf]; exact fw_le _ _ _ _ _ _ _ _
/-- the cobbles with those of m flat -/
def cbm (cb : Nat → Int32) (m c : Nat) : Int32 := if m.testBit c = true then 0 else cb c
/-- what the flats of m among the last d cells cost -/
def csm (M m : Nat) : Nat → Nat
  | 0 => 0
  | d + 1 => csm M m d + (if m.testBit (M - d) = true then 65536 + 2 ^ (M - d) else 0)
theorem csm_mono (M m : Nat) {d e : Nat} (h : d ≤ e) : csm M m d ≤ csm M m e := by
  induction e with
  | zero => have : d = 0 := by omega
            subst this; exact Nat.le_refl _
  | succ e ih =>
    by_cases hd : d = e + 1
    · subst hd; exact Nat.le_refl _
    · have := ih (by omega)
      show csm M m d ≤ csm M m e + _
      omega
/-- a way through with the flats of m costs at least what the table says -/
theorem fw_low (M : Nat) (H kd : Int32) (cb wd : Nat → Int32) (m : Nat) : ∀ d, d ≤ M → M ≤ 15 → ∀ t l, wv M H kd (cbm cb m) wd 0 d t l < 100 → fw M H kd cb wd d t l ≤ csm M m d := by
  intro d
  induction d using Nat.strongRecOn with
  | _ d ih =>
    intro hdM hM t l hw
    by_cases h : d = 0
    · subst h; rw [fw_0]; exact Nat.zero_le _
    · rw [wv_s h] at hw
      have hp : ∃ p, 1 ≤ p ∧ p ≤ 3 ∧ pv M H kd (cbm cb m) wd 0 d p t l < 99 := by
        rcases Nat.lt_or_ge (pv M H kd (cbm cb m) wd 0 d 1 t l) 99 with z | z
        · exact ⟨1, by omega, by omega, z⟩
        · rcases Nat.lt_or_ge (pv M H kd (cbm cb m) wd 0 d 2 t l) 99 with z | z
          · exact ⟨2, by omega, by omega, z⟩
          · rcases Nat.lt_or_ge (pv M H kd (cbm cb m) wd 0 d 3 t l) 99 with z | z
            · exact ⟨3, by omega, by omega, z⟩
            · omega
      obtain ⟨p, p1, p3, hpv⟩ := hp
      rw [pv_0] at hpv
      obtain ⟨hnf, hcw⟩ := cw_lt (Nat.lt_trans hpv (by omega))
      rw [hcw] at hpv
      have hlow := ih (d - p) (by omega) (by omega) hM ((t + 1) % 6) (lb kd l (cbm cb m (M - (d - p))) (wd t) (nI p)) (by omega)
      have hfv : fw M H kd cb wd d t l ≤ fv M H kd cb wd d p t l := by
        rw [fw_s h]
        have : p = 1 ∨ p = 2 ∨ p = 3 := by omega
        rcases this with rfl | rfl | rfl <;> omega
      have hstep : csm M m (d - p + 1) ≤ csm M m d := csm_mono M m (by omega)
      have hone : csm M m (d - p + 1) = csm M m (d - p) + (if m.testBit (M - (d - p)) = true then 65536 + 2 ^ (M - (d - p)) else 0) := rfl
      by_cases hb : m.testBit (M - (d - p)) = true
      · rw [if_pos hb] at hone
        have e : cbm cb m (M - (d - p)) = 0 := if_pos hb
        rw [e] at hlow hnf
        have : fv M H kd cb wd d p t l ≤ 65536 + 2 ^ (M - (d - p)) + fw M H kd cb wd (d - p) ((t + 1) % 6) (lb kd l 0 (wd t) (nI p)) := by
          unfold fv cf
          rw [cIf_f hnf]; omega
        omega
      · rw [if_neg hb] at hone
        have e : cbm cb m (M - (d - p)) = cb (M - (d - p)) := if_neg hb
        rw [e] at hlow hnf
        have : fv M H kd cb wd d p t l ≤ fw M H kd cb wd (d - p) ((t + 1) % 6) (lb kd l (cb (M - (d - p))) (wd t) (nI p)) := by
          unfold fv cf
          rw [cIf_f hnf]; omega
        omega
theorem wv_cong (M : Nat) (H kd : Int32) (cb cb' wd : Nat → Int32) : ∀ d, (∀ c, M - d < c → c ≤ M → cb c = cb' c) → d ≤ M → ∀ t l, wv M H kd cb wd 0 d t l = wv M H kd cb' wd 0 d t l := by
  intro d
  induction d using Nat.strongRecOn with
  | _ d ih =>
    intro hc hdM t l
    by_cases h : d = 0
    · subst h; rw [wv_0, wv_0]
    · have hpv : ∀ p, 1 ≤ p → pv M H kd cb wd 0 d p t l = pv M H kd cb' wd 0 d p t l := by
        intro p hp
        rw [pv_0, pv_0, hc (M - (d - p)) (by omega) (by omega)]
        unfold cw
        rw [ih (d - p) (by omega) (fun c h1 h2 => hc c (by omega) h2) (by omega)]
      rw [wv_s h, wv_s h, hpv 1 (by omega), hpv 2 (by omega), hpv 3 (by omega)]
theorem csm_cong (M m m' : Nat) : ∀ d, d ≤ M → (∀ c, M - d < c → c ≤ M → m.testBit c = m'.testBit c) → csm M m d = csm M m' d := by
  intro d
  induction d with
  | zero => intro _ _; rfl
  | succ d ih =>
    intro hd hc
    show csm M m d + _ = csm M m' d + _
    rw [ih (by omega) (fun c h1 h2 => hc c (by omega) h2), hc (M - d) (by omega) (by omega)]
theorem csm_zero (M m : Nat) {d e : Nat} (h : d ≤ e) (he : e ≤ M) (hz : ∀ c, c ≤ M - d → m.testBit c = false) : csm M m e = csm M m d := by
  induction e with
  | zero => have : d = 0 := by omega
            subst this; rfl
  | succ e ih =>
    by_cases hd : d = e + 1
    · subst hd; rfl
    · show csm M m e + (if m.testBit (M - e) = true then _ else _) = _
      rw [ih (by omega) (by omega), hz (M - e) (by omega)]
      simp
/-- what the table says is the cost of a set that lets a way through -/
theorem fw_up (M : Nat) (H kd : Int32) (cb wd : Nat → Int32) (hM : M ≤ 15) : ∀ d, d ≤ M → ∀ t l, fw M H kd cb wd d t l < 16777216 → ∃ m, m < 2 ^ (M + 1) ∧ (∀ c, c ≤ M - d → m.testBit c = false) ∧ csm M m d = fw M H kd cb wd d t l ∧ wv M H kd (cbm cb m) wd 0 d t l < 100 := by
  intro d
  induction d using Nat.strongRecOn with
  | _ d ih =>
    intro hdM t l hf
    by_cases h : d = 0
    · subst h
      refine ⟨0, Nat.pos_of_ne_zero (by simp), fun c _ => Nat.zero_testBit c, ?_, by rw [wv_0]; omega⟩
      rw [fw_0]; rfl
    · have hp : ∃ p, 1 ≤ p ∧ p ≤ 3 ∧ fw M H kd cb wd d t l = fv M H kd cb wd d p t l := by
        rw [fw_s h] at hf ⊢
        rcases Nat.lt_or_ge (fv M H kd cb wd d 1 t l) (min (fv M H kd cb wd d 2 t l) (fv M H kd cb wd d 3 t l)) with z | z
        · exact ⟨1, by omega, by omega, by omega⟩
        · rcases Nat.lt_or_ge (fv M H kd cb wd d 2 t l) (fv M H kd cb wd d 3 t l) with z2 | z2
          · exact ⟨2, by omega, by omega, by omega⟩
          · exact ⟨3, by omega, by omega, by omega⟩
      obtain ⟨p, p1, p3, hpe⟩ := hp
      have hwle : ∀ m, pv M H kd (cbm cb m) wd 0 d p t l < 99 → wv M H kd (cbm cb m) wd 0 d t l < 100 := by
        intro m hm
        rw [wv_s h]
        have : p = 1 ∨ p = 2 ∨ p = 3 := by omega
        rcases this with rfl | rfl | rfl <;> omega
      have hto : M - (d - p) ≤ M := by omega
      rcases Nat.lt_or_ge (cf M H kd cb wd (d - p) ((t + 1) % 6) (lb kd l (cb (M - (d - p))) (wd t) (nI p))) (65536 + 2 ^ (M - (d - p)) + cf M H kd cb wd (d - p) ((t + 1) % 6) (lb kd l 0 (wd t) (nI p))) with z | z
      · have e : fw M H kd cb wd d t l = cf M H kd cb wd (d - p) ((t + 1) % 6) (lb kd l (cb (M - (d - p))) (wd t) (nI p)) := by
          rw [hpe]; unfold fv; omega
        have hnf : ¬ fel H (lb kd l (cb (M - (d - p))) (wd t) (nI p)) := fun hx => by
          unfold cf at e; rw [cIf_t hx] at e; omega
        have e2 : fw M H kd cb wd d t l = fw M H kd cb wd (d - p) ((t + 1) % 6) (lb kd l (cb (M - (d - p))) (wd t) (nI p)) := by
          rw [e]; unfold cf; exact cIf_f hnf
        obtain ⟨m, m1, m2, m3, m4⟩ := ih (d - p) (by omega) (by omega) _ _ (by rw [← e2]; exact hf)
        refine ⟨m, m1, fun c hc => m2 c (by omega), ?_, hwle m ?_⟩
        · rw [e2, ← m3]; exact csm_zero M m (by omega) hdM m2
        · have hc0 : cbm cb m (M - (d - p)) = cb (M - (d - p)) := if_neg (by rw [m2 _ (Nat.le_refl _)]; decide)
          rw [pv_0, hc0]
          unfold cw; rw [cIf_f hnf]
          have := wv_le M H kd (cbm cb m) wd 0 (d - p) (by omega) ((t + 1) % 6) (lb kd l (cb (M - (d - p))) (wd t) (nI p))
          omega
      · have e : fw M H kd cb wd d t l = 65536 + 2 ^ (M - (d - p)) + cf M H kd cb wd (d - p) ((t + 1) % 6) (lb kd l 0 (wd t) (nI p)) := by
          rw [hpe]; unfold fv; omega
        have h2 : 0 < 2 ^ (M - (d - p)) := Nat.two_pow_pos _
        have hnf : ¬ fel H (lb kd l 0 (wd t) (nI p)) := fun hx => by
          have e9 : cf M H kd cb wd (d - p) ((t + 1) % 6) (lb kd l 0 (wd t) (nI p)) = 16777216 := cIf_t hx
          omega
        have e1 : cf M H kd cb wd (d - p) ((t + 1) % 6) (lb kd l 0 (wd t) (nI p)) = fw M H kd cb wd (d - p) ((t + 1) % 6) (lb kd l 0 (wd t) (nI p)) := by
          unfold cf; exact cIf_f hnf
        rw [e1] at e
        obtain ⟨m, m1, m2, m3, m4⟩ := ih (d - p) (by omega) (by omega) ((t + 1) % 6) (lb kd l 0 (wd t) (nI p)) (by omega)
        have hbit : ∀ c, (m ||| 2 ^ (M - (d - p))).testBit c = (m.testBit c || decide (M - (d - p) = c)) := fun c => by
          rw [Nat.testBit_or, Nat.testBit_two_pow]
        have hhi : ∀ c, M - (d - p) < c → c ≤ M → (m ||| 2 ^ (M - (d - p))).testBit c = m.testBit c := fun c h1 _ => by
          rw [hbit, decide_eq_false (by omega), Bool.or_false]
        have hat : (m ||| 2 ^ (M - (d - p))).testBit (M - (d - p)) = true := by
          rw [hbit, decide_eq_true rfl, Bool.or_true]
        have hlo : ∀ c, c ≤ M - (d - p + 1) → d - p + 1 ≤ M → (m ||| 2 ^ (M - (d - p))).testBit c = false := fun c hc hd => by
          rw [hbit, m2 c (by omega), decide_eq_false (by omega)]; rfl
        refine ⟨m ||| 2 ^ (M - (d - p)), Nat.or_lt_two_pow m1 (Nat.pow_lt_pow_right (by omega) (by omega)), fun c hc => hlo c (by omega) (by omega), ?_, hwle _ ?_⟩
        · rw [csm_zero M _ (d := d - p + 1) (e := d) (by omega) hdM (fun c hc => hlo c hc (by omega))]
          show csm M _ (d - p) + (if _ then _ else _) = _
          rw [if_pos hat, csm_cong M _ m (d - p) (by omega) hhi, m3, e]
          omega
        · have hc0 : cbm cb (m ||| 2 ^ (M - (d - p))) (M - (d - p)) = 0 := if_pos hat
          rw [pv_0, hc0]
          unfold cw; rw [cIf_f hnf]
          have := wv_le M H kd (cbm cb (m ||| 2 ^ (M - (d - p)))) wd 0 (d - p) (by omega) ((t + 1) % 6) (lb kd l 0 (wd t) (nI p))
          have hcong := wv_cong M H kd (cbm cb (m ||| 2 ^ (M - (d - p)))) (cbm cb m) wd (d - p) (fun c h1 h2 => by unfold cbm; rw [hhi c (by omega) h2]) (by omega) ((t + 1) % 6) (lb kd l 0 (wd t) (nI p))
          omega
/-- how many flats a set has -/
def pcn2 : Nat → Nat → Nat
  | 0, _ => 0
  | k + 1, m => m % 2 + pcn2 k (m / 2)
def lsm (A B m : Nat) : Nat → Nat
  | 0 => 0
  | k + 1 => lsm A B m k + (if m.testBit k = true then A + B * 2 ^ k else 0)
theorem lsm_sh (A B m : Nat) : ∀ k, lsm A B m (k + 1) = (if m.testBit 0 = true then A + B else 0) + lsm A (2 * B) (m / 2) k := by
  intro k
  induction k with
  | zero => show 0 + (if _ then A + B * 2 ^ 0 else 0) = _ + 0; rw [Nat.pow_zero, Nat.mul_one, Nat.zero_add, Nat.add_zero]
  | succ k ih =>
    show lsm A B m (k + 1) + (if m.testBit (k + 1) = true then A + B * 2 ^ (k + 1) else 0) = _ + (lsm A (2 * B) (m / 2) k + (if (m / 2).testBit k = true then A + 2 * B * 2 ^ k else 0))
    rw [ih, Nat.testBit_succ, Nat.pow_succ]
    have : B * (2 ^ k * 2) = 2 * B * 2 ^ k := by rw [Nat.mul_comm (2 ^ k) 2, ← Nat.mul_assoc, Nat.mul_comm B 2]
    rw [this]; omega
theorem lsm_eq : ∀ (k A B m : Nat), m < 2 ^ k → lsm A B m k = A * pcn2 k m + B * m := by
  intro k
  induction k with
  | zero => intro A B m h; have : m = 0 := by simpa using h
            subst this; show 0 = A * 0 + B * 0; omega
  | succ k ih =>
    intro A B m h
    rw [lsm_sh, ih A (2 * B) (m / 2) (by rw [Nat.pow_succ] at h; omega)]
    show _ = A * (m % 2 + pcn2 k (m / 2)) + B * m
    have hb : (m.testBit 0 = true) = (m % 2 = 1) := by rw [Nat.testBit_zero]; simp
    have hm : B * m = 2 * B * (m / 2) + B * (m % 2) := by
      have := Nat.div_add_mod m 2
      calc B * m = B * (2 * (m / 2) + m % 2) := by rw [this]
        _ = 2 * B * (m / 2) + B * (m % 2) := by rw [Nat.mul_add, ← Nat.mul_assoc, Nat.mul_comm B 2]
    rw [Nat.mul_add, hm]
    rcases Nat.mod_two_eq_zero_or_one m with h0 | h1
    · rw [if_neg (by rw [hb]; omega), h0]; omega
    · rw [if_pos (by rw [hb]; exact h1), h1, Nat.mul_one, Nat.mul_one]; omega
theorem csm_lsm (M m : Nat) : ∀ d, d ≤ M → csm M m d + lsm 65536 1 m (M - d + 1) = lsm 65536 1 m (M + 1) := by
  intro d
  induction d with
  | zero => intro _; show 0 + _ = _; rw [Nat.zero_add, Nat.sub_zero]
  | succ d ih =>
    intro h
    have := ih (by omega)
    have e : M - d + 1 = (M - (d + 1) + 1) + 1 := by omega
    rw [e] at this
    have e2 : lsm 65536 1 m (M - (d + 1) + 1 + 1) = lsm 65536 1 m (M - (d + 1) + 1) + (if m.testBit (M - (d + 1) + 1) = true then 65536 + 1 * 2 ^ (M - (d + 1) + 1) else 0) := rfl
    rw [e2, show M - (d + 1) + 1 = M - d by omega, Nat.one_mul] at this
    show csm M m d + (if _ then _ else _) + _ = _
    rw [show M - (d + 1) + 1 = M - d by omega]
    omega
theorem csm_cost {M m : Nat} (h : m < 2 ^ (M + 1)) (he : m % 2 = 0) : csm M m M = 65536 * pcn2 (M + 1) m + m := by
  have h1 := csm_lsm M m M (Nat.le_refl _)
  have h2 := lsm_eq (M + 1) 65536 1 m h
  rw [Nat.sub_self] at h1
  have h3 : lsm 65536 1 m (0 + 1) = 0 := by
    show 0 + (if m.testBit 0 = true then _ else _) = 0
    rw [if_neg (by rw [Nat.testBit_zero]; simp; omega)]
  omega
