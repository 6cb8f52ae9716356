section ZN
variable {X : ZC} {p : Program} {l : Launch} {e : Env} {R : Room} {s : State} {m : MethodId} {args : Array Value} {below : List Frame} {meth : Method} {c : Code} {nL : Nat} {Q : State → Prop} {cells slots pc : Nat} {cc : ByteArray} {own nm : String} {ret : Option FieldType}
theorem zarI {S : ZS} (I : ZI) (J : ZJ) {a : Nat} (h : zkd S a = some 13) : ∃ d, S[a]? = some d ∧ d.1 = 13 ∧ zln S a = d.2.1 ∧ (zws X S I J)[a]? = some (zB X + a, .inl (X.2.1.1, d.2.1, .inl (I a))) := by
  obtain ⟨d, h1, h2⟩ := zkd_of h
  refine ⟨d, h1, h2, zln_of h1, ?_⟩
  rw [zws_get I J h1]
  simp [zel, h2]
theorem zarJ {S : ZS} (I : ZI) (J : ZJ) {a : Nat} (h : zkd S a = some 14) : ∃ d, S[a]? = some d ∧ d.1 = 14 ∧ zln S a = d.2.1 ∧ (zws X S I J)[a]? = some (zB X + a, .inl (X.2.1.2.1, d.2.1, .inr (.inl (J a)))) := by
  obtain ⟨d, h1, h2⟩ := zkd_of h
  refine ⟨d, h1, h2, zln_of h1, ?_⟩
  rw [zws_get I J h1]
  simp [zel, h2]
theorem zarZ {S : ZS} (I : ZI) (J : ZJ) {a : Nat} (h : zkd S a = some 15) : ∃ d, S[a]? = some d ∧ d.1 = 15 ∧ zln S a = d.2.1 ∧ (zws X S I J)[a]? = some (zB X + a, .inl (X.2.1.2.2.1, d.2.1, .inl (I a))) := by
  obtain ⟨d, h1, h2⟩ := zkd_of h
  refine ⟨d, h1, h2, zln_of h1, ?_⟩
  rw [zws_get I J h1]
  simp [zel, h2]
theorem zarP {S : ZS} (I : ZI) (J : ZJ) {a : Nat} (h : zkd S a = some 16) : ∃ d, S[a]? = some d ∧ d.1 = 16 ∧ zln S a = d.2.1 ∧ (zws X S I J)[a]? = some (zB X + a, .inl (X.2.1.2.2.2.1, d.2.1, .inr (.inr (.inr (.inr (fun k => (d.2.2.getD k none).map (zB X + ·))))))) := by
  obtain ⟨d, h1, h2⟩ := zkd_of h
  refine ⟨d, h1, h2, zln_of h1, ?_⟩
  rw [zws_get I J h1]
  simp [zel, h2]
theorem zarW {S : ZS} (I : ZI) (J : ZJ) {a : Nat} (h : zkd S a = some 17) : ∃ d, S[a]? = some d ∧ d.1 = 17 ∧ zln S a = d.2.1 ∧ (zws X S I J)[a]? = some (zB X + a, .inl (X.2.1.2.2.2.2, d.2.1, .inr (.inr (.inr (.inr (fun k => (d.2.2.getD k none).map (zB X + ·))))))) := by
  obtain ⟨d, h1, h2⟩ := zkd_of h
  refine ⟨d, h1, h2, zln_of h1, ?_⟩
  rw [zws_get I J h1]
  simp [zel, h2]
def zcO (o : Option Nat) (f : Nat → Prop) (g : Prop) : Prop := match o with
  | some b => f b
  | none => g
/-- a condition: of a known one only what it is, of another that it holds -/
def zcd (b : Bool) (P : Prop) (K : Prop) : Prop := match b with
  | true => K
  | false => P ∧ K
/-- the index i lies in an array of length n; b: it is a constant that does -/
def zix (i : Int32) (n : Nat) : Bool := !(decide (i < 0)) && Nat.blt i.toNatClampNeg n
theorem zix_in {i : Int32} {n : Nat} (h : zix i n = true) : vp_in i n := by
  simp only [zix, Bool.and_eq_true, Bool.not_eq_true', decide_eq_false_iff_not] at h
  have h2 : i.toNatClampNeg < n := Nat.le_of_ble_eq_true h.2
  rintro (q | q)
  · exact h.1 q
  · omega
def i_iald (k : ZK) : ZK := fun L st S I J => match st with
  | .int i :: .ref a :: r => match zk S a 13 with
    | true => vp_in i (zln S a) ∧ k L (.int (I a i.toNatClampNeg) :: r) S I J
    | false => False
  | .int i :: .retAddr 0 :: r => vp_in i 9 ∧ k L (.int (zTens.getD i.toNatClampNeg 0) :: r) S I J
  | _ => False
def i_ialdc (k : ZK) : ZK := fun L st S I J => match st with
  | .int i :: .ref a :: r => match zk S a 13 && zix i (zln S a) with
    | true => k L (.int (I a i.toNatClampNeg) :: r) S I J
    | false => False
  | _ => False
def i_lald (k : ZK) : ZK := fun L st S I J => match st with
  | .int i :: .ref a :: r => match zk S a 14 with
    | true => vp_in i (zln S a) ∧ k L (.long (J a i.toNatClampNeg) :: r) S I J
    | false => False
  | _ => False
def i_zald (k : ZK) : ZK := fun L st S I J => match st with
  | .int i :: .ref a :: r => match zk S a 15 with
    | true => vp_in i (zln S a) ∧ k L (.int (I a i.toNatClampNeg) :: r) S I J
    | false => False
  | _ => False
def i_aald (kd : Nat) (k : ZK) : ZK := fun L st S I J => match st with
  | .int i :: .ref a :: r => match zk S a kd with
    | true => vp_in i (zln S a) ∧ zcO (zrf S a i.toNatClampNeg) (fun b => k L (.ref b :: r) S I J) (k L (.null :: r) S I J)
    | false => False
  | _ => False
def i_iast (k : ZK) : ZK := fun L st S I J => match st with
  | .int x :: .int i :: .ref a :: r => match zk S a 13 with
    | true => vp_in i (zln S a) ∧ k L r S (zu I a i.toNatClampNeg x) J
    | false => False
  | _ => False
def i_iastc (k : ZK) : ZK := fun L st S I J => match st with
  | .int x :: .int i :: .ref a :: r => match zk S a 13 && zix i (zln S a) with
    | true => k L r S (zu I a i.toNatClampNeg x) J
    | false => False
  | _ => False
def i_last (k : ZK) : ZK := fun L st S I J => match st with
  | .long x :: .int i :: .ref a :: r => match zk S a 14 with
    | true => vp_in i (zln S a) ∧ k L r S I (zuJ J a i.toNatClampNeg x)
    | false => False
  | _ => False
def i_zast (k : ZK) : ZK := fun L st S I J => match st with
  | .int x :: .int i :: .ref a :: r => match zk S a 15 with
    | true => (vp_in i (zln S a) ∧ vp_nar .boolean x = x) ∧ k L r S (zu I a i.toNatClampNeg x) J
    | false => False
  | _ => False
def i_aast (kd ek : Nat) (k : ZK) : ZK := fun L st S I J => match st with
  | .ref b :: .int i :: .ref a :: r => match zk S a kd && zk S b ek with
    | true => (vp_in i (zln S a) ∧ i.toNatClampNeg < (S.getD a (0, 0, [])).2.2.length) ∧ k L r (zsr S a i.toNatClampNeg (some b)) I J
    | false => False
  | _ => False
def i_alen (kd : Nat) (k : ZK) : ZK := fun L st S I J => match st with
  | .ref a :: r => match zk S a kd with
    | true => k L (.int (nI (zln S a)) :: r) S I J
    | false => False
  | .retAddr 0 :: r => k L (.int 9 :: r) S I J
  | _ => False
theorem z_ialdc_i {k : ZK} {L st S I J} (h : i_ialdc k L st S I J) : i_iald k L st S I J := by
  simp only [i_ialdc] at h
  split at h
  · split at h
    · rename_i hk
      simp only [Bool.and_eq_true] at hk
      simp only [i_iald, hk.1]
      exact ⟨zix_in hk.2, h⟩
    · exact h.elim
  · exact h.elim
theorem z_iastc_i {k : ZK} {L st S I J} (h : i_iastc k L st S I J) : i_iast k L st S I J := by
  simp only [i_iastc] at h
  split at h
  · split at h
    · rename_i hk
      simp only [Bool.and_eq_true] at hk
      simp only [i_iast, hk.1]
      exact ⟨zix_in hk.2, h⟩
    · exact h.elim
  · exact h.elim
theorem z_iald (F : zFx X p s m args meth c cc nL own ret nm) {k : ZK} (hd : decode cc pc = .ok (.iaload, 1)) (h : zOK X p l e R s m args below meth c nL Q cells slots (pc + 1) k) : zOK X p l e R s m args below meth c nL Q cells slots pc (i_iald k) := by
  intro L st S I J hP ls H locs hL hp hS hz
  simp only [i_iald] at hP
  split at hP
  · split at hP
    case h_2 => exact hP.elim
    rename_i hk
    have hk := zk_kd hk
    obtain ⟨hi, hP⟩ := hP
    obtain ⟨d, h1, h2, h3, h4⟩ := zarI (X := X) I J hk
    exact va_iald F.x F.b F.K hp _ 0 h4 rfl (by rw [← h3]; exact hi) hd (h _ _ _ _ _ hP ls H locs hL hp hS hz)
  · obtain ⟨hi, hP⟩ := hP
    exact va_ti F.x F.b F.E.2.1 hS hi rfl hd (h _ _ _ _ _ hP ls H locs hL hp hS hz)
  · exact hP.elim
theorem z_lald (F : zFx X p s m args meth c cc nL own ret nm) {k : ZK} (hd : decode cc pc = .ok (.laload, 1)) (h : zOK X p l e R s m args below meth c nL Q cells slots (pc + 1) k) : zOK X p l e R s m args below meth c nL Q cells slots pc (i_lald k) := by
  intro L st S I J hP ls H locs hL hp hS hz
  simp only [i_lald] at hP
  split at hP
  · split at hP
    case h_2 => exact hP.elim
    rename_i hk
    have hk := zk_kd hk
    obtain ⟨hi, hP⟩ := hP
    obtain ⟨d, h1, h2, h3, h4⟩ := zarJ (X := X) I J hk
    exact va_lald F.x F.b F.K hp _ 1 h4 rfl (by rw [← h3]; exact hi) hd (h _ _ _ _ _ hP ls H locs hL hp hS hz)
  · exact hP.elim
theorem z_zald (F : zFx X p s m args meth c cc nL own ret nm) {k : ZK} (hd : decode cc pc = .ok (.baload, 1)) (h : zOK X p l e R s m args below meth c nL Q cells slots (pc + 1) k) : zOK X p l e R s m args below meth c nL Q cells slots pc (i_zald k) := by
  intro L st S I J hP ls H locs hL hp hS hz
  simp only [i_zald] at hP
  split at hP
  · split at hP
    case h_2 => exact hP.elim
    rename_i hk
    have hk := zk_kd hk
    obtain ⟨hi, hP⟩ := hP
    obtain ⟨d, h1, h2, h3, h4⟩ := zarZ (X := X) I J hk
    exact va_zald F.x F.b F.K hp _ 2 h4 rfl (by rw [← h3]; exact hi) hd (h _ _ _ _ _ hP ls H locs hL hp hS hz)
  · exact hP.elim
theorem z_aald16 (F : zFx X p s m args meth c cc nL own ret nm) {k : ZK} (hd : decode cc pc = .ok (.aaload, 1)) (h : zOK X p l e R s m args below meth c nL Q cells slots (pc + 1) k) : zOK X p l e R s m args below meth c nL Q cells slots pc (i_aald 16 k) := by
  intro L st S I J hP ls H locs hL hp hS hz
  simp only [i_aald] at hP
  split at hP
  · split at hP
    case h_2 => exact hP.elim
    rename_i hk
    have hk := zk_kd hk
    obtain ⟨hi, hP⟩ := hP
    obtain ⟨d, h1, h2, h3, h4⟩ := zarP (X := X) I J hk
    rw [zrf_of h1] at hP
    unfold zcO at hP
    refine va_aldq F.x F.b F.K hp _ 3 h4 rfl (by rw [← h3]; exact hi) hd ?_
    split at hP
    · rename_i b hb
      simp only [hb]
      exact (h _ _ _ _ _ hP ls H locs hL hp hS hz)
    · rename_i hb
      simp only [hb]
      exact (h _ _ _ _ _ hP ls H locs hL hp hS hz)
  · exact hP.elim
theorem z_aald17 (F : zFx X p s m args meth c cc nL own ret nm) {k : ZK} (hd : decode cc pc = .ok (.aaload, 1)) (h : zOK X p l e R s m args below meth c nL Q cells slots (pc + 1) k) : zOK X p l e R s m args below meth c nL Q cells slots pc (i_aald 17 k) := by
  intro L st S I J hP ls H locs hL hp hS hz
  simp only [i_aald] at hP
  split at hP
  · split at hP
    case h_2 => exact hP.elim
    rename_i hk
    have hk := zk_kd hk
    obtain ⟨hi, hP⟩ := hP
    obtain ⟨d, h1, h2, h3, h4⟩ := zarW (X := X) I J hk
    rw [zrf_of h1] at hP
    unfold zcO at hP
    refine va_aldq F.x F.b F.K hp _ 4 h4 rfl (by rw [← h3]; exact hi) hd ?_
    split at hP
    · rename_i b hb
      simp only [hb]
      exact (h _ _ _ _ _ hP ls H locs hL hp hS hz)
    · rename_i hb
      simp only [hb]
      exact (h _ _ _ _ _ hP ls H locs hL hp hS hz)
  · exact hP.elim
theorem z_alen13 (F : zFx X p s m args meth c cc nL own ret nm) {k : ZK} (hd : decode cc pc = .ok (.arraylength, 1)) (h : zOK X p l e R s m args below meth c nL Q cells slots (pc + 1) k) : zOK X p l e R s m args below meth c nL Q cells slots pc (i_alen 13 k) := by
  intro L st S I J hP ls H locs hL hp hS hz
  simp only [i_alen] at hP
  split at hP
  · split at hP
    case h_2 => exact hP.elim
    rename_i hk
    have hk := zk_kd hk
    obtain ⟨d, h1, h2, h3, h4⟩ := zarI (X := X) I J hk
    exact va_alen F.x F.b F.K hp _ 0 h4 rfl (by rw [h3]; rfl) hd (h _ _ _ _ _ hP ls H locs hL hp hS hz)
  · exact va_tlen F.x F.b F.E.2.1 hS rfl hd (h _ _ _ _ _ hP ls H locs hL hp hS hz)
  · exact hP.elim
theorem z_alen14 (F : zFx X p s m args meth c cc nL own ret nm) {k : ZK} (hd : decode cc pc = .ok (.arraylength, 1)) (h : zOK X p l e R s m args below meth c nL Q cells slots (pc + 1) k) : zOK X p l e R s m args below meth c nL Q cells slots pc (i_alen 14 k) := by
  intro L st S I J hP ls H locs hL hp hS hz
  simp only [i_alen] at hP
  split at hP
  · split at hP
    case h_2 => exact hP.elim
    rename_i hk
    have hk := zk_kd hk
    obtain ⟨d, h1, h2, h3, h4⟩ := zarJ (X := X) I J hk
    exact va_alen F.x F.b F.K hp _ 1 h4 rfl (by rw [h3]; rfl) hd (h _ _ _ _ _ hP ls H locs hL hp hS hz)
  · exact va_tlen F.x F.b F.E.2.1 hS rfl hd (h _ _ _ _ _ hP ls H locs hL hp hS hz)
  · exact hP.elim
theorem z_iast (F : zFx X p s m args meth c cc nL own ret nm) {k : ZK} (hd : decode cc pc = .ok (.iastore, 1)) (h : zOK X p l e R s m args below meth c nL Q cells slots (pc + 1) k) : zOK X p l e R s m args below meth c nL Q cells slots pc (i_iast k) := by
  intro L st S I J hP ls H locs hL hp hS hz
  simp only [i_iast] at hP
  split at hP
  · rename_i x i a r
    split at hP
    case h_2 => exact hP.elim
    rename_i hk
    have hk := zk_kd hk
    obtain ⟨hi, hP⟩ := hP
    obtain ⟨d, h1, h2, h3, h4⟩ := zarI (X := X) I J hk
    have hin : vp_in i d.2.1 := by rw [← h3]; exact hi
    refine W.iast F.x F.b (hp _ _ h4) ((F.K.2 0 _ rfl).1 d.2.1 (fun j => .int (I a j))) (fun q => by cases q) (by show ¬ (i < 0 ∨ (arrV _ _ _).slots.size ≤ _); rw [arrV_size]; exact hin) rfl rfl hd fun H1 ee e2 e3 => ?_
    have hat : va_at X.1 vwCl (zB X + a, zel X ((zu I a i.toNatClampNeg x) a) ((J) a) d) H1 := by
      show va_at X.1 vwCl _ H1
      rw [show zel X ((zu I a i.toNatClampNeg x) a) ((J) a) d = .inl (X.2.1.1, d.2.1, .inl (upd (I a) i.toNatClampNeg x)) by simp [zel, h2, zu_at]]
      show H1[zB X + a]? = some (vp_cell _ _)
      rw [ee, vp_cell_i, vp_cell_i, arrV_store]
      congr 2
      funext q
      by_cases hq : q = i.toNatClampNeg
      · subst hq; simp [updV, upd]
      · simp [updV, upd, hq]
    obtain ⟨g1, g2, g3⟩ := zstored (k := i.toNatClampNeg) (I' := zu I a i.toNatClampNeg x) (J' := J) hz hp hS h1 e2 e3 hat rfl (fun _ _ => rfl) h1 (fun i hi => zu_ne I _ x hi) (fun i hi => rfl)
    exact h _ _ _ _ _ hP ls H1 _ hL g1 g2 g3
  · exact hP.elim
theorem z_last (F : zFx X p s m args meth c cc nL own ret nm) {k : ZK} (hd : decode cc pc = .ok (.lastore, 1)) (h : zOK X p l e R s m args below meth c nL Q cells slots (pc + 1) k) : zOK X p l e R s m args below meth c nL Q cells slots pc (i_last k) := by
  intro L st S I J hP ls H locs hL hp hS hz
  simp only [i_last] at hP
  split at hP
  · rename_i x i a r
    split at hP
    case h_2 => exact hP.elim
    rename_i hk
    have hk := zk_kd hk
    obtain ⟨hi, hP⟩ := hP
    obtain ⟨d, h1, h2, h3, h4⟩ := zarJ (X := X) I J hk
    have hin : vp_in i d.2.1 := by rw [← h3]; exact hi
    refine W.last F.x F.b (hp _ _ h4) ((F.K.2 1 _ rfl).1 d.2.1 (fun j => .long (J a j))) (fun q => by cases q) (by show ¬ (i < 0 ∨ (arrV _ _ _).slots.size ≤ _); rw [arrV_size]; exact hin) rfl rfl hd fun H1 ee e2 e3 => ?_
    have hat : va_at X.1 vwCl (zB X + a, zel X ((I) a) ((zuJ J a i.toNatClampNeg x) a) d) H1 := by
      show va_at X.1 vwCl _ H1
      rw [show zel X ((I) a) ((zuJ J a i.toNatClampNeg x) a) d = .inl (X.2.1.2.1, d.2.1, .inr (.inl (vp_updL (J a) i.toNatClampNeg x))) by simp [zel, h2, zuJ_at]]
      show H1[zB X + a]? = some (vp_cell _ _)
      rw [ee, vp_cell_l, vp_cell_l, arrV_store]
      congr 2
      funext q
      by_cases hq : q = i.toNatClampNeg
      · subst hq; simp [updV, vp_updL]
      · simp [updV, vp_updL, hq]
    obtain ⟨g1, g2, g3⟩ := zstored (k := i.toNatClampNeg) (I' := I) (J' := zuJ J a i.toNatClampNeg x) hz hp hS h1 e2 e3 hat rfl (fun _ _ => rfl) h1 (fun i hi => rfl) (fun i hi => zuJ_ne J _ x hi)
    exact h _ _ _ _ _ hP ls H1 _ hL g1 g2 g3
  · exact hP.elim
theorem z_zast (F : zFx X p s m args meth c cc nL own ret nm) {k : ZK} (hd : decode cc pc = .ok (.bastore, 1)) (h : zOK X p l e R s m args below meth c nL Q cells slots (pc + 1) k) : zOK X p l e R s m args below meth c nL Q cells slots pc (i_zast k) := by
  intro L st S I J hP ls H locs hL hp hS hz
  simp only [i_zast] at hP
  split at hP
  · rename_i x i a r
    split at hP
    case h_2 => exact hP.elim
    rename_i hk
    have hk := zk_kd hk
    obtain ⟨⟨hi, hb⟩, hP⟩ := hP
    obtain ⟨d, h1, h2, h3, h4⟩ := zarZ (X := X) I J hk
    have hin : vp_in i d.2.1 := by rw [← h3]; exact hi
    refine W.zast F.x F.b (hp _ _ h4) ((F.K.2 2 _ rfl).1 d.2.1 (fun j => .int (I a j))) (fun q => by cases q) (by show ¬ (i < 0 ∨ (arrV _ _ _).slots.size ≤ _); rw [arrV_size]; exact hin) rfl rfl hd fun H1 ee e2 e3 => ?_
    have hat : va_at X.1 vwCl (zB X + a, zel X ((zu I a i.toNatClampNeg x) a) (J a) d) H1 := by
      rw [show zel X ((zu I a i.toNatClampNeg x) a) (J a) d = .inl (X.2.1.2.2.1, d.2.1, .inl (upd (I a) i.toNatClampNeg x)) by simp [zel, h2, zu_at]]
      show H1[zB X + a]? = some (vp_cell _ _)
      rw [ee, vp_cell_i, vp_cell_i, arrV_store]
      congr 2
      funext q
      by_cases hq : q = i.toNatClampNeg
      · subst hq
        have hb2 : narrow .boolean (.int x) = .int x := by
          have h9 : narrow .boolean (.int x) = .int (vp_nar .boolean x) := by simp [vp_nar, narrow]
          rw [h9, hb]
        simp [updV, upd, hb2]
      · simp [updV, upd, hq]
    obtain ⟨g1, g2, g3⟩ := zstored (k := i.toNatClampNeg) (I' := zu I a i.toNatClampNeg x) (J' := J) hz hp hS h1 e2 e3 hat rfl (fun _ _ => rfl) h1 (fun i hi => zu_ne I _ x hi) (fun i hi => rfl)
    exact h _ _ _ _ _ hP ls H1 _ hL g1 g2 g3
  · exact hP.elim
theorem z_ialdc (F : zFx X p s m args meth c cc nL own ret nm) {k : ZK} (hd : decode cc pc = .ok (.iaload, 1)) (h : zOK X p l e R s m args below meth c nL Q cells slots (pc + 1) k) : zOK X p l e R s m args below meth c nL Q cells slots pc (i_ialdc k) := (z_iald F hd h).mono (fun _ _ _ _ _ h => z_ialdc_i h)
theorem z_iastc (F : zFx X p s m args meth c cc nL own ret nm) {k : ZK} (hd : decode cc pc = .ok (.iastore, 1)) (h : zOK X p l e R s m args below meth c nL Q cells slots (pc + 1) k) : zOK X p l e R s m args below meth c nL Q cells slots pc (i_iastc k) := (z_iast F hd h).mono (fun _ _ _ _ _ h => z_iastc_i h)
end ZN
