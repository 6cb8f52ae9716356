/-! ===== THE ENGINE: types, the abstract memory, its picture in the heap ===== -/
abbrev ZS : Type := List (Nat × Nat × List (Option Nat))
abbrev ZI : Type := Nat → Nat → Int32
abbrev ZJ : Type := Nat → Nat → Int64
abbrev ZL : Type := List (Option Value)
abbrev ZK : Type := ZL → List Value → ZS → ZI → ZJ → Prop
abbrev ZQ : Type := ZS → ZI → ZJ → Option Value → Prop
abbrev ZT : Type := List Value → ZS → ZI → ZJ → ZQ → Prop
abbrev ZQi : Type := ZS → ZI → ZJ → Int32 → Prop
abbrev ZTi : Type := List Value → ZS → ZI → ZJ → ZQi → Prop
abbrev ZQl : Type := ZS → ZI → ZJ → Int64 → Prop
abbrev ZTl : Type := List Value → ZS → ZI → ZJ → ZQl → Prop
abbrev ZQv : Type := ZS → ZI → ZJ → Prop
abbrev ZTv : Type := List Value → ZS → ZI → ZJ → ZQv → Prop
abbrev ZQr : Type := ZS → ZI → ZJ → Nat → Prop
abbrev ZTr : Type := List Value → ZS → ZI → ZJ → ZQr → Prop
def zti (T : ZTi) : ZT := fun As S I J q => T As S I J (fun S I J x => q S I J (some (.int x)))
def ztl (T : ZTl) : ZT := fun As S I J q => T As S I J (fun S I J x => q S I J (some (.long x)))
def ztv (T : ZTv) : ZT := fun As S I J q => T As S I J (fun S I J => q S I J none)
def ztr (T : ZTr) : ZT := fun As S I J q => T As S I J (fun S I J x => q S I J (some (.ref x)))
/-- the context: classes and slots; the array classes of int, long, boolean, Plain, World; the first address; addresses of what is outside -/
abbrev ZC : Type := va_G × (ClassId × ClassId × ClassId × ClassId × ClassId) × Nat × (Nat → Nat)
def zB (X : ZC) : Nat := X.2.2.1
def zA (X : ZC) : Nat → Prop := fun q => zB X ≤ q
def zc (X : ZC) : Value → Value
  | .ref i => .ref (zB X + i)
  | .retAddr i => .ref (X.2.2.2 i)
  | v => v
theorem zc_cat (X : ZC) (v : Value) : (zc X v).category = v.category := by cases v <;> rfl
def zty (X : ZC) : List (ClassId × FieldType) := [(X.2.1.1, .int), (X.2.1.2.1, .long), (X.2.1.2.2.1, .boolean), (X.2.1.2.2.2.1, .object "SmallCrown$Plain"), (X.2.1.2.2.2.2, .object "SmallCrown$World")]

/-- the kinds of a class's fields: 0 int, 1 long, 2 a reference -/
def zft : Nat → List Nat
  | 4 => [2, 0, 0, 0, 0]
  | 5 => [0, 0, 2, 2]
  | 8 => [0, 0, 0, 0, 0, 2, 2, 2]
  | 9 => [2, 2, 2]
  | 10 => [2, 2, 0, 2, 2, 0, 2, 2, 2, 2]
  | 11 => [2, 2, 2, 2, 2, 2, 2, 2, 1, 1, 0, 0, 0]
  | 12 => [2, 2, 2, 2, 1, 1, 2, 0, 0, 0, 2, 2, 2, 2, 2, 0, 0, 0, 0, 0, 2, 2]
  | _ => []
def zfv (X : ZC) (rs : List (Option Nat)) (I : Nat → Int32) (J : Nat → Int64) (k t : Nat) : Value := match t with
  | 0 => .int (I k)
  | 1 => .long (J k)
  | _ => va_rf ((rs.getD k none).map (zB X + ·))
def zfs (X : ZC) (rs : List (Option Nat)) (I : Nat → Int32) (J : Nat → Int64) (ts : List Nat) : List Value := ts.mapIdx (fun k t => zfv X rs I J k t)
def zel (X : ZC) (I : Nat → Int32) (J : Nat → Int64) (c : Nat × Nat × List (Option Nat)) : va_E :=
  if c.1 = 13 then .inl (X.2.1.1, c.2.1, .inl I)
  else if c.1 = 14 then .inl (X.2.1.2.1, c.2.1, .inr (.inl J))
  else if c.1 = 15 then .inl (X.2.1.2.2.1, c.2.1, .inl I)
  else if c.1 = 16 then .inl (X.2.1.2.2.2.1, c.2.1, .inr (.inr (.inr (.inr (fun k => (c.2.2.getD k none).map (zB X + ·))))))
  else if c.1 = 17 then .inl (X.2.1.2.2.2.2, c.2.1, .inr (.inr (.inr (.inr (fun k => (c.2.2.getD k none).map (zB X + ·))))))
  else .inr (c.1, zfs X c.2.2 I J (zft c.1))
def zws (X : ZC) (S : ZS) (I : ZI) (J : ZJ) : va_W := S.mapIdx (fun i c => (zB X + i, zel X (I i) (J i) c))
theorem zws_at (X : ZC) (S : ZS) (I : ZI) (J : ZJ) (i : Nat) : (zws X S I J)[i]? = (S[i]?).map (fun c => (zB X + i, zel X (I i) (J i) c)) := by
  simp [zws, List.getElem?_mapIdx]
theorem zws_get {X : ZC} {S : ZS} (I : ZI) (J : ZJ) {i : Nat} {c : Nat × Nat × List (Option Nat)} (h : S[i]? = some c) : (zws X S I J)[i]? = some (zB X + i, zel X (I i) (J i) c) := by
  rw [zws_at, h]; rfl
theorem zws_inv {X : ZC} {S : ZS} {I : ZI} {J : ZJ} {i : Nat} {q : Nat × va_E} (h : (zws X S I J)[i]? = some q) : q.1 = zB X + i := by
  rw [zws_at] at h
  cases hc : S[i]? with
  | none => rw [hc] at h; cases h
  | some c => rw [hc] at h; cases h; rfl
theorem zD (X : ZC) (S : ZS) (I : ZI) (J : ZJ) : va_D (zA X) (zws X S I J) := by
  refine ⟨fun i j p q hp hq e => ?_, fun k q hk => ?_⟩
  · rw [zws_inv hp, zws_inv hq] at e
    omega
  · show zB X ≤ q.1
    rw [zws_inv hk]
    omega
theorem zws_set {X : ZC} {S S' : ZS} {I I' : ZI} {J J' : ZJ} {a : Nat} {c' : Nat × Nat × List (Option Nat)} (hl : S'.length = S.length) (hS : ∀ i, i ≠ a → S'[i]? = S[i]?) (ha : S'[a]? = some c') (hI : ∀ i, i ≠ a → I' i = I i) (hJ : ∀ i, i ≠ a → J' i = J i) :
    (zws X S I J).set a (zB X + a, zel X (I' a) (J' a) c') = zws X S' I' J' := by
  apply List.ext_getElem?
  intro i
  rw [List.getElem?_set, zws_at, zws_at]
  by_cases h : a = i
  · subst h
    have hlt : a < (zws X S I J).length := by
      have h1 := (List.getElem?_eq_some_iff.mp ha).1
      simp [zws]; omega
    rw [if_pos rfl, if_pos hlt, ha]; rfl
  · rw [if_neg h, hS i (fun e => h e.symm), hI i (fun e => h e.symm), hJ i (fun e => h e.symm)]
theorem zws_push {X : ZC} {S : ZS} {I I' : ZI} {J J' : ZJ} {c : Nat × Nat × List (Option Nat)} (hI : ∀ i, i ≠ S.length → I' i = I i) (hJ : ∀ i, i ≠ S.length → J' i = J i) :
    zws X S I J ++ [(zB X + S.length, zel X (I' S.length) (J' S.length) c)] = zws X (S ++ [c]) I' J' := by
  apply List.ext_getElem?
  intro i
  rw [zws_at, List.getElem?_append, List.getElem?_append]
  have hlen : (zws X S I J).length = S.length := by simp [zws]
  rw [hlen]
  by_cases h : i < S.length
  · rw [if_pos h, if_pos h, zws_at, hI i (by omega), hJ i (by omega)]
  · rw [if_neg h, if_neg h]
    by_cases h2 : i = S.length
    · subst h2; simp
    · have h3 : 0 < i - S.length := by omega
      obtain ⟨d, hd⟩ : ∃ d, i - S.length = d + 1 := ⟨i - S.length - 1, by omega⟩
      rw [hd]; rfl
/-- kind, length, reference of an object or array -/
def zkd (S : ZS) (a : Nat) : Option Nat := match S[a]? with
  | some c => some c.1
  | none => none
def zln (S : ZS) (a : Nat) : Nat := match S[a]? with
  | some c => c.2.1
  | none => 0
def zrf (S : ZS) (a k : Nat) : Option Nat := match S[a]? with
  | some c => c.2.2.getD k none
  | none => none
def zsr (S : ZS) (a k : Nat) (r : Option Nat) : ZS := match S[a]? with
  | some c => S.set a (c.1, c.2.1, c.2.2.set k r)
  | none => S
def zu (I : ZI) (a f : Nat) (v : Int32) : ZI := fun b g => if b = a then (if g = f then v else I a g) else I b g
def zuJ (J : ZJ) (a f : Nat) (v : Int64) : ZJ := fun b g => if b = a then (if g = f then v else J a g) else J b g
def zcI (I : ZI) (a : Nat) : ZI := fun b g => if b = a then 0 else I b g
def zcJ (J : ZJ) (a : Nat) : ZJ := fun b g => if b = a then 0 else J b g
theorem zu_at (I : ZI) (a f : Nat) (v : Int32) : zu I a f v a = upd (I a) f v := by funext g; simp [zu, upd]
theorem zu_ne (I : ZI) {a b : Nat} (f : Nat) (v : Int32) (h : b ≠ a) : zu I a f v b = I b := by funext g; simp [zu, h]
theorem zuJ_at (J : ZJ) (a f : Nat) (v : Int64) : zuJ J a f v a = vp_updL (J a) f v := by funext g; simp [zuJ, vp_updL]
theorem zuJ_ne (J : ZJ) {a b : Nat} (f : Nat) (v : Int64) (h : b ≠ a) : zuJ J a f v b = J b := by funext g; simp [zuJ, h]
theorem zkd_of {S : ZS} {a k : Nat} (h : zkd S a = some k) : ∃ c, S[a]? = some c ∧ c.1 = k := by
  unfold zkd at h
  cases hc : S[a]? with
  | none => rw [hc] at h; cases h
  | some c => rw [hc] at h; cases h; exact ⟨c, rfl, rfl⟩
theorem zln_of {S : ZS} {a : Nat} {c : Nat × Nat × List (Option Nat)} (h : S[a]? = some c) : zln S a = c.2.1 := by unfold zln; rw [h]
theorem zrf_of {S : ZS} {a k : Nat} {c : Nat × Nat × List (Option Nat)} (h : S[a]? = some c) : zrf S a k = c.2.2.getD k none := by unfold zrf; rw [h]
theorem zsr_of {S : ZS} {a k : Nat} {r : Option Nat} {c : Nat × Nat × List (Option Nat)} (h : S[a]? = some c) : zsr S a k r = S.set a (c.1, c.2.1, c.2.2.set k r) := by unfold zsr; rw [h]
/-! ===== locals ===== -/
def zLS (X : ZC) (nL : Nat) (L : ZL) (ls : Array Slot) : Prop := ls.size = nL ∧ lv_wf ls ∧ ∀ (i : Nat) (v : Value), L[i]? = some (some v) → ls[i]? = some (.val (zc X v))
def zas (X : ZC) (L : ZL) : List (Nat × Value) := L.zipIdx.filterMap (fun q => q.1.map (fun v => (q.2, zc X v)))
theorem zas_mem {X : ZC} {L : ZL} {q : Nat × Value} : q ∈ zas X L ↔ ∃ v, L[q.1]? = some (some v) ∧ q.2 = zc X v := by
  unfold zas
  rw [List.mem_filterMap]
  constructor
  · rintro ⟨⟨o, i⟩, h1, h2⟩
    have h1 := List.mem_zipIdx_iff_getElem?.mp h1
    cases o with
    | none => cases h2
    | some v => cases h2; exact ⟨v, h1, rfl⟩
  · rintro ⟨v, h1, h2⟩
    refine ⟨(some v, q.1), List.mem_zipIdx_iff_getElem?.mpr h1, ?_⟩
    show some (q.1, zc X v) = some q
    rw [← h2]
theorem zLS_has {X : ZC} {nL : Nat} {L : ZL} {ls : Array Slot} (h : zLS X nL L ls) : lv_has ls nL (zas X L) := by
  refine ⟨h.1, h.2.1, fun q hq => ?_⟩
  obtain ⟨v, h1, h2⟩ := zas_mem.mp hq
  rw [h2]
  exact h.2.2 _ _ h1
def zcl (L : ZL) : Nat → ZL
  | 0 => L
  | i + 1 => match L[i]? with
    | some (some (.long _)) => L.set i none
    | some (some (.double _)) => L.set i none
    | _ => L
theorem zcl_of {L : ZL} {i j : Nat} {v : Value} (h : (zcl L i)[j]? = some (some v)) : L[j]? = some (some v) ∧ ¬ (j + 1 = i ∧ v.category = 2) := by
  cases i with
  | zero => exact ⟨h, fun e => by omega⟩
  | succ i =>
    simp only [zcl] at h
    by_cases hj : j = i
    · subst hj
      split at h
      · rw [List.getElem?_set] at h; simp at h
      · rw [List.getElem?_set] at h; simp at h
      · rename_i h1 h2
        refine ⟨h, fun e => ?_⟩
        cases v with
        | long x => exact h1 x h
        | double x => exact h2 x h
        | _ => exact absurd e.2 (by simp [Value.category])
    · have hne : ¬ (j + 1 = i + 1) := by omega
      split at h
      · rw [List.getElem?_set_ne (by omega)] at h; exact ⟨h, fun e => hne e.1⟩
      · rw [List.getElem?_set_ne (by omega)] at h; exact ⟨h, fun e => hne e.1⟩
      · exact ⟨h, fun e => hne e.1⟩
def zs1 (L : ZL) (i : Nat) (v : Value) : ZL := (zcl L i).set i (some v)
def zs2 (L : ZL) (i : Nat) (v : Value) : ZL := ((zcl L i).set (i + 1) none).set i (some v)
theorem zs1_of {X : ZC} {nL i : Nat} {L : ZL} {v : Value} {ls : Array Slot} (h : lv_has ls nL ((i, zc X v) :: (zas X L).filter (fun q => !(q.1 == i) && !(q.1 + 1 == i && q.2.category == 2)))) : zLS X nL (zs1 L i v) ls := by
  refine ⟨h.1, h.2.1, fun j w hj => ?_⟩
  by_cases e : j = i
  · subst e
    have hw : w = v := by
      unfold zs1 at hj
      rw [List.getElem?_set] at hj
      rw [if_pos rfl] at hj
      split at hj
      · cases hj; rfl
      · cases hj
    subst hw
    exact h.2.2 (j, zc X w) List.mem_cons_self
  · unfold zs1 at hj
    rw [List.getElem?_set_ne (fun q => e q.symm)] at hj
    obtain ⟨h1, h2⟩ := zcl_of hj
    refine h.2.2 (j, zc X w) (List.mem_cons_of_mem _ (List.mem_filter.mpr ⟨zas_mem.mpr ⟨w, h1, rfl⟩, ?_⟩))
    rw [show (zc X w).category = w.category from zc_cat X w]
    by_cases e2 : j + 1 = i
    · have h3 : ¬ w.category = 2 := fun q => h2 ⟨e2, q⟩
      simp [e, h3]
    · simp [e, e2]
theorem zs2_of {X : ZC} {nL i : Nat} {L : ZL} {v : Value} {ls : Array Slot} (h : lv_has ls nL ((i, zc X v) :: (zas X L).filter (fun q => !(q.1 == i) && (!(q.1 == i + 1) && !(q.1 + 1 == i && q.2.category == 2))))) : zLS X nL (zs2 L i v) ls := by
  refine ⟨h.1, h.2.1, fun j w hj => ?_⟩
  by_cases e : j = i
  · subst e
    have hw : w = v := by
      unfold zs2 at hj
      rw [List.getElem?_set] at hj
      rw [if_pos rfl] at hj
      split at hj
      · cases hj; rfl
      · cases hj
    subst hw
    exact h.2.2 (j, zc X w) List.mem_cons_self
  · unfold zs2 at hj
    rw [List.getElem?_set_ne (fun q => e q.symm)] at hj
    have e1 : j ≠ i + 1 := by
      intro q
      subst q
      rw [List.getElem?_set] at hj
      simp at hj
    rw [List.getElem?_set_ne (fun q => e1 q.symm)] at hj
    obtain ⟨h1, h2⟩ := zcl_of hj
    refine h.2.2 (j, zc X w) (List.mem_cons_of_mem _ (List.mem_filter.mpr ⟨zas_mem.mpr ⟨w, h1, rfl⟩, ?_⟩))
    rw [show (zc X w).category = w.category from zc_cat X w]
    by_cases e2 : j + 1 = i
    · have h3 : ¬ w.category = 2 := fun q => h2 ⟨e2, q⟩
      simp [e, e1, h3]
    · simp [e, e1, e2]
def zkp : List Bool → ZL → ZL
  | true :: b, o :: L => o :: zkp b L
  | false :: b, _ :: L => none :: zkp b L
  | _, _ => []
theorem zkp_of {v : Value} : ∀ {b : List Bool} {L : ZL} {i : Nat}, (zkp b L)[i]? = some (some v) → L[i]? = some (some v)
  | [], L, i, h => by simp [zkp] at h
  | true :: b, [], i, h => by simp [zkp] at h
  | false :: b, [], i, h => by simp [zkp] at h
  | true :: b, o :: L, 0, h => by simpa [zkp] using h
  | true :: b, o :: L, i + 1, h => by
    simp only [zkp, List.getElem?_cons_succ] at h ⊢
    exact zkp_of h
  | false :: b, o :: L, 0, h => by simp [zkp] at h
  | false :: b, o :: L, i + 1, h => by
    simp only [zkp, List.getElem?_cons_succ] at h ⊢
    exact zkp_of h
/-- the locals at entry -/
def zen : Nat → List Value → ZL
  | 0, _ => []
  | n + 1, [] => none :: zen n []
  | 1, v :: _ => [some v]
  | n + 2, .long x :: r => some (.long x) :: none :: zen n r
  | n + 2, .double x :: r => some (.double x) :: none :: zen n r
  | n + 2, v :: r => some v :: zen (n + 1) r
