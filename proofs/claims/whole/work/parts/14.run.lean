/-! ===== a trial: steps one after another ===== -/
noncomputable def cIf {α : Type} (p : Prop) (a b : α) : α := @ite α p (Classical.propDecidable p) a b
theorem cIf_t {α : Type} {p : Prop} {a b : α} (h : p) : cIf p a b = a := by unfold cIf; exact if_pos h
theorem cIf_f {α : Type} {p : Prop} {a b : α} (h : ¬ p) : cIf p a b = b := by unfold cIf; exact if_neg h
def stp (N kd : Int32) (cb wd : Nat → Int32) (t : Nat) (p b : Int32) (s : Int32 × Int32) : Int32 × Int32 :=
  (cel N s.1 p, lb kd s.2 (cb (cel N s.1 p).toInt.toNat) (wd (t % 6)) p + b)
def ovr (N H : Int32) (s : Int32 × Int32) : Prop := N ≤ s.1 ∨ fel H s.2
noncomputable def rn (N H kd : Int32) (cb wd : Nat → Int32) (t : Nat) (pc bw : Nat → Int32) : Nat → Nat → Int32 × Int32 → (Int32 × Int32) × Nat
  | 0, k, s => (s, k)
  | f + 1, k, s => cIf (ovr N H s) (s, k) (rn N H kd cb wd t pc bw f (k + 1) (stp N kd cb wd (t + k) (pc k) (bw k) s))
theorem rn_over {N H kd : Int32} {cb wd : Nat → Int32} {t : Nat} {pc bw : Nat → Int32} {f k : Nat} {s : Int32 × Int32} (h : ovr N H s) : rn N H kd cb wd t pc bw f k s = (s, k) := by
  cases f with
  | zero => rfl
  | succ f => show cIf _ _ _ = _; exact cIf_t h
theorem rn_step {N H kd : Int32} {cb wd : Nat → Int32} {t : Nat} {pc bw : Nat → Int32} {f k : Nat} {s : Int32 × Int32} (h : ¬ ovr N H s) : rn N H kd cb wd t pc bw (f + 1) k s = rn N H kd cb wd t pc bw f (k + 1) (stp N kd cb wd (t + k) (pc k) (bw k) s) := by
  show cIf _ _ _ = _; exact cIf_f h
theorem cel_rg {N c p : Int32} (hN : 1 ≤ N.toInt ∧ N.toInt ≤ 15) (hc : 0 ≤ c.toInt ∧ c.toInt ≤ N.toInt) (hp : 0 ≤ p.toInt ∧ p.toInt ≤ 10) : 0 ≤ (cel N c p).toInt ∧ (cel N c p).toInt ≤ N.toInt ∧ (N.toInt ≤ c.toInt + p.toInt → cel N c p = N) ∧ (c.toInt + p.toInt ≤ N.toInt → (cel N c p).toInt = c.toInt + p.toInt) := by
  have e : (c + p).toInt = c.toInt + p.toInt := by rw [i_add]; omega
  unfold cel
  by_cases h : N < c + p
  · rw [if_pos h]; rw [i_lt, e] at h
    exact ⟨by omega, by omega, fun _ => rfl, fun h2 => by omega⟩
  · rw [if_neg h]; rw [i_lt, e] at h
    refine ⟨by omega, by omega, fun h2 => ?_, fun _ => e⟩
    apply i_ext; omega
def Rd (I : ZI) (N H : Int32) (cb wd : Nat → Int32) : Prop := I 3 0 = N ∧ I 3 1 = H ∧ (∀ c, c < 16 → I 4 c = cb c) ∧ (∀ i, i < 6 → I 5 i = wd i) ∧ 1 ≤ N.toInt ∧ N.toInt ≤ 15
def Md (I : ZI) (N H : Int32) (cb wd : Nat → Int32) : Prop := I 49 0 = N ∧ I 49 1 = H ∧ (∀ c, c < 16 → I 53 c = cb c) ∧ (∀ i, i < 6 → I 49 (21 + i) = wd i) ∧ 1 ≤ N.toInt ∧ N.toInt ≤ 15
theorem Rd_fr {I I' : ZI} {N H : Int32} {cb wd : Nat → Int32} (h : Rd I N H cb wd) (h3 : I' 3 = I 3) (h4 : I' 4 = I 4) (h5 : I' 5 = I 5) : Rd I' N H cb wd := by
  unfold Rd; rw [h3, h4, h5]; exact h
theorem Md_fr {I I' : ZI} {N H : Int32} {cb wd : Nat → Int32} (h : Md I N H cb wd) (h3 : I' 49 = I 49) (h4 : I' 53 = I 53) : Md I' N H cb wd := by
  unfold Md; rw [h3, h4]; exact h
/-- the trial of the class: where it is -/
def Tc (I : ZI) (N : Int32) (s : Int32 × Int32) (t : Nat) : Prop := I 33 1 = s.1 ∧ I 33 3 = s.2 ∧ I 33 2 = nI t ∧ 0 ≤ s.1.toInt ∧ s.1.toInt ≤ N.toInt
/-- the trial of the reference: where it is -/
def Tm (I : ZI) (N : Int32) (s : Int32 × Int32) (k : Nat) : Prop := I 48 7 = s.1 ∧ I 48 8 = s.2 ∧ I 48 9 = nI k ∧ 0 ≤ s.1.toInt ∧ s.1.toInt ≤ N.toInt
def F33 (I I' : ZI) : Prop := ∀ a, a ≠ 33 → I' a = I a
def F48 (I I' : ZI) : Prop := (∀ a, a ≠ 48 → I' a = I a) ∧ ∀ i, i ≠ 7 → i ≠ 8 → i ≠ 9 → I' 48 i = I 48 i
theorem wn_nI {t : Nat} (h : t < 1000) : wn (nI t) = t % 6 := by unfold wn; rw [i_nI t (by omega)]; rfl
variable (u : Nat) (I : ZI) (J : ZJ)
theorem go_c {N H kd p : Int32} {cb wd : Nat → Int32} {s : Int32 × Int32} {t : Nat} (hR : Rd I N H cb wd) (hT : Tc I N s t) (hk : 0 ≤ kd.toInt ∧ kd.toInt ≤ 5) (hp : 0 ≤ p.toInt ∧ p.toInt ≤ 10) (ht : t < 900) (b : Int32) (q : YQv)
    (hq : ∀ I', F33 I I' → Tc I' N (stp N kd cb wd t p b s) (t + 1) → q I' J) : u_X8_go [.ref 33, .ref 3, .ref (42 + kd.toInt.toNat), .int p, .int b] (shp u) I J q := by
  obtain ⟨r0, r1, r4, r5, n1, n2⟩ := hR
  obtain ⟨t1, t2, t3, c1, c2⟩ := hT
  have hc := cel_rg ⟨n1, n2⟩ ⟨c1, c2⟩ hp
  have hi : (I 33 2).toInt = t := by rw [t3, i_nI t (by omega)]
  rw [p_X8_go u I J hk (by rw [r0, t1]; exact ⟨hc.1, by omega⟩) (by omega)]
  apply hq
  · intro a ha; funext g; simp [zu, ha]
  · rw [r0, t1, t2, t3, r4 _ (by omega), wn_nI (by omega), r5 _ (by omega)]
    refine ⟨?_, ?_, ?_, ?_, ?_⟩
    · simp [zu, stp]
    · simp [zu, stp]
    · simp [zu, mI_one]
    · exact hc.1
    · exact hc.2.1
theorem go_m {N H kd p : Int32} {cb wd : Nat → Int32} {s : Int32 × Int32} {k t : Nat} (hR : Md I N H cb wd) (hT : Tm I N s k) (hk : 0 ≤ kd.toInt ∧ kd.toInt ≤ 5) (hp : 0 ≤ p.toInt ∧ p.toInt ≤ 10) (ht : t + k < 900) (b : Int32) (q : YQv)
    (hq : ∀ I', F48 I I' → Tm I' N (stp N kd cb wd (t + k) p b s) (k + 1) → q I' J) : u_X12_goStep [.ref 48, .int kd, .int (nI t), .int p, .int b] (shp u) I J q := by
  obtain ⟨r0, r1, r4, r5, n1, n2⟩ := hR
  obtain ⟨t1, t2, t3, c1, c2⟩ := hT
  have hc := cel_rg ⟨n1, n2⟩ ⟨c1, c2⟩ hp
  have hi : nI t + I 48 9 = nI (t + k) := by rw [t3, mI_add]
  rw [p_X12_goStep u I J hk (by rw [r0, t1]; exact ⟨hc.1, by omega⟩) (by rw [hi, i_nI _ (by omega)]; omega)]
  apply hq
  · refine ⟨fun a ha => ?_, fun i h7 h8 h9 => ?_⟩
    · funext g; simp [zu, ha]
    · simp [zu, h7, h8, h9]
  · rw [hi, r0, t1, t2, t3, r4 _ (by omega), wn_nI (by omega), r5 _ (by omega)]
    refine ⟨?_, ?_, ?_, ?_, ?_⟩
    · simp [zu, stp]
    · simp [zu, stp]
    · simp [zu, mI_one]
    · exact hc.1
    · exact hc.2.1
theorem ov_c {N H : Int32} {cb wd : Nat → Int32} {s : Int32 × Int32} {t : Nat} (hR : Rd I N H cb wd) (hT : Tc I N s t) (q : YQi) : u_X8_isOver [.ref 33, .ref 3] (shp u) I J q = q I J (bI (ovr N H s)) := by
  rw [p_X8_isOver, hR.1, hR.2.1, hT.1, hT.2.1]; rfl
theorem ov_m {N H : Int32} {cb wd : Nat → Int32} {s : Int32 × Int32} {t : Nat} (hR : Md I N H cb wd) (hT : Tm I N s t) (q : YQi) : u_X12_isOver [.ref 48] (shp u) I J q = q I J (bI (ovr N H s)) := by
  rw [p_X12_isOver, hR.1, hR.2.1, hT.1, hT.2.1]
  have : (fel H s.2 ∨ s.1 = N) ↔ ovr N H s := by
    unfold ovr
    have := hT.2.2.2
    rw [i_le, i_eq]
    constructor
    · rintro (h | h)
      · exact Or.inr h
      · exact Or.inl (by omega)
    · rintro (h | h)
      · exact Or.inr (by omega)
      · exact Or.inl h
  rw [bI_c this]
