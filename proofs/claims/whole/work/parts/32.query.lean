/-! ===== calls that only ask ===== -/
theorem qj {u : Nat} {I : ZI} {J : ZJ} (hR : Rl u I J) {f g : YTi} {la lb : List Value} {gd : (Nat → Int32) → Prop} {an : (Nat → Int32) → Int32} {bd : Int32}
    (hc : ∀ (I : ZI) (q : YQi), Wd 2 I (I 49) → Vd (I 49) → (¬ gd (I 49) → q (zu I 0 10 (I 0 10 + 1)) J bd) → (gd (I 49) → ∀ I', Fr I I' → q I' J (an (I 49))) → f la (shp u) I J q)
    (hm : ∀ (I : ZI) (q : YQi), Vd (I 49) → (¬ gd (I 49) → q (zu I 52 0 (I 52 0 + 1)) J bd) → (gd (I 49) → ∀ I', Fr I I' → q I' J (an (I 49))) → g lb (shp u) I J q)
    (Q : ZI → ZJ → Int32 → Int32 → Prop) (hQ : ∀ I' J' v, Rl u I' J' → Q I' J' v v) :
    f la (shp u) I J (fun I1 J1 v1 => g lb (shp u) I1 J1 (fun I2 J2 v2 => Q I2 J2 v1 v2)) := by
  refine hc I _ hR.1 hR.2.1 (fun hn => ?_) (fun hy I1 hF => ?_)
  · have e49 : zu I 0 10 (I 0 10 + 1) 49 = I 49 := zu_ne _ _ _ (by decide)
    refine hm _ _ (by rw [e49]; exact hR.2.1) (fun _ => ?_) (fun h => ?_)
    · exact hQ _ _ _ (Rl_bad hR)
    · rw [e49] at h; exact absurd h hn
  · have e49 : I1 49 = I 49 := hF.1 49 (by decide) (by decide) (by decide) (by decide) (by decide) (by decide) (by decide)
    refine hm _ _ (by rw [e49]; exact hR.2.1) (fun h => ?_) (fun _ I2 hF2 => ?_)
    · rw [e49] at h; exact absurd hy h
    · rw [e49]; exact hQ _ _ _ (Rl_fr hR (Fr_tr hF hF2) rfl rfl)
theorem Rd_of {I : ZI} {n : Nat → Int32} (h : Wd 2 I n) (hV : Vd n) : Rd I (n 0) (n 1) (fun c => n (5 + c)) (fun i => n (21 + i)) :=
  ⟨h.1, h.2.1, h.2.2.2.2.2.1, h.2.2.2.2.2.2.1, hV.1.1, hV.1.2⟩
theorem Mw_of {I : ZI} (hV : Vd (I 49)) : Mw I (I 49 0) (I 49 1) (fun c => I 49 (5 + c)) (fun i => I 49 (21 + i)) :=
  ⟨rfl, rfl, fun _ _ => rfl, fun _ _ => rfl, hV.1.1, hV.1.2⟩
/-- a told head -/
theorem hd_of {n : Nat → Int32} (hV : Vd n) {x : Int32} (h : 0 ≤ x.toInt ∧ x.toInt ≤ (n 2 - 1).toInt) : (0 ≤ x.toInt ∧ x.toInt ≤ 4) ∧ ((x.toInt.toNat : Int) < (n 2).toInt) ∧ (0 ≤ (n (27 + 2 * x.toInt.toNat)).toInt ∧ (n (27 + 2 * x.toInt.toNat)).toInt ≤ 5) := by
  obtain ⟨v0, v1, v2, v3, v4, v5, v6⟩ := hV
  have e : (1 : Int32).toInt = 1 := rfl
  have hs : (n 2 - 1).toInt = (n 2).toInt - 1 := by rw [i_sub, e]; omega
  rw [hs] at h
  exact ⟨by omega, by omega, v5 _ (by omega)⟩
theorem hdW {I : ZI} {n : Nat → Int32} (h : Wd 2 I n) {k : Nat} (hk : (k : Int) < (n 2).toInt) : I 10 k = n (27 + 2 * k) ∧ I 11 k = n (28 + 2 * k) := h.2.2.2.2.2.2.2.1 k hk
theorem ntW {I : ZI} {n : Nat → Int32} (h : Wd 2 I n) {k : Nat} (hk : (k : Int) < (n 3).toInt) : I 12 k = n (42 + 4 * k) ∧ I 13 k = n (43 + 4 * k) ∧ I 14 k = n (44 + 4 * k) ∧ I 15 k = n (45 + 4 * k) := h.2.2.2.2.2.2.2.2.2.2.2.2.2 k hk
theorem Fr_e {I I' : ZI} (h : Fr I I') {a : Nat} (ha : (2 ≤ a ∧ a ≤ 15) ∨ (49 ≤ a ∧ a ≤ 52)) : I' a = I a := h.1 a (by omega) (by omega) (by omega) (by omega) (by omega) (by omega) (by omega)
theorem Wd_q {I I' : ZI} {n : Nat → Int32} (h : Wd 2 I n) (hF : Fr I I') : Wd 2 I' n := Wd_fr h (fun a a1 a2 => Fr_e hF (Or.inl (by omega)))
theorem b0t {p : Prop} {h : Prop} (hp : p) (z : bI p = 0) : h := by rw [bI_0] at z; exact absurd hp z
theorem b0f {p : Prop} {h : Prop} (hp : ¬ p) (z : ¬ bI p = 0) : h := by rw [bI_0] at z; exact absurd hp z
theorem b0p {p : Prop} (z : ¬ bI p = 0) : p := by rw [bI_0] at z; exact Classical.not_not.mp z
theorem b0n {p : Prop} (z : bI p = 0) : ¬ p := by rw [bI_0] at z; exact z
/-- a row of paces of the world n: where its trial ends -/
noncomputable def rw0 (n : Nat → Int32) (kd set : Int32) (t r : Nat) (ba b : Int32) : (Int32 × Int32) × Nat := rrow (n 0) (n 1) kd (fun c => n (5 + c)) (fun i => n (21 + i)) t r ba b set
theorem vr_lt {x : Int32} (h : vr x) : x.toInt.toNat < 1000000000 := by
  have := rok_le 9 _ h.2
  omega
theorem vr_nI {x : Int32} (h : vr x) : x = nI x.toInt.toNat := mI_of h.1
variable {u : Nat} {I : ZI} {J : ZJ}
theorem c_row {n : Nat → Int32} (hW : Wd 2 I n) (hV : Vd n) {kd hd t r : Int32} (hk : 0 ≤ kd.toInt ∧ kd.toInt ≤ 5) (hh : 0 ≤ hd.toInt ∧ hd.toInt ≤ (n 2 - 1).toInt) (ht : 0 ≤ t.toInt ∧ t.toInt ≤ 5) (hr : vr r) (ba b : Int32) (q : YQv)
    (hq : ∀ I' s k, F33 I I' → rw0 n kd (n (28 + 2 * hd.toInt.toNat)) t.toInt.toNat r.toInt.toNat ba b = (s, k) → Tc I' (n 0) s (t.toInt.toNat + k) → q I' J) : u_X11_tryRow [.ref 0, .int kd, .int hd, .int t, .int r, .int ba, .int b] (shp u) I J q := by
  obtain ⟨h1, h2, h3⟩ := hd_of hV hh
  have e := (hdW hW h2).2
  have := p_X11_tryRow u I J (t := t.toInt.toNat) (r := r.toInt.toNat) (Rd_of hW hV) hk h1 (by omega) (vr_lt hr) ba b q (by rw [e]; exact hq)
  rw [← mI_of ht.1, ← vr_nI hr] at this
  exact this
theorem m_row (hV : Vd (I 49)) {kd set t r : Int32} (hk : 0 ≤ kd.toInt ∧ kd.toInt ≤ 5) (ht : 0 ≤ t.toInt ∧ t.toInt ≤ 5) (hr : vr r) (ba b : Int32) (q : YQv)
    (hq : ∀ I' s k, FM I I' → Md I' (I 49 0) (I 49 1) (fun c => I 49 (5 + c)) (fun i => I 49 (21 + i)) → rw0 (I 49) kd set t.toInt.toNat r.toInt.toNat ba b = (s, k) → Tm I' (I 49 0) s k → q I' J) : u_X12_goRow [.ref 48, .int kd, .int set, .int t, .int r, .int ba, .int b] (shp u) I J q := by
  have := p_X12_goRow u I J (t := t.toInt.toNat) (r := r.toInt.toNat) (set := set) (Mw_of hV) hk (by omega) (vr_lt hr) ba b q hq
  rw [← mI_of ht.1, ← vr_nI hr] at this
  exact this
