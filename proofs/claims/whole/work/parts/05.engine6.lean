section ZR
variable {X : ZC} {p : Program} {l : Launch} {e : Env} {R : Room} {s : State} {m : MethodId} {args : Array Value} {below : List Frame} {meth : Method} {c : Code} {nL : Nat} {Q : State → Prop} {cells slots pc : Nat} {cc : ByteArray} {own nm : String} {ret : Option FieldType}
theorem z_aast16c (F : zFx X p s m args meth c cc nL own ret nm) {k : ZK} {ek : Nat} {q : vw_C} (hd : decode cc pc = .ok (.aastore, 1)) (hc : vwCl[ek]? = some q) (hq : (q.1, "SmallCrown$Plain") ∈ znC) (h : zOK X p l e R s m args below meth c nL Q cells slots (pc + 1) k) : zOK X p l e R s m args below meth c nL Q cells slots pc (i_aast 16 ek k) := by
  intro L st S I J hP ls H locs hL hp hS hz
  simp only [i_aast] at hP
  split at hP
  · rename_i b i a r
    split at hP
    case h_2 => exact hP.elim
    rename_i hk0
    simp only [Bool.and_eq_true] at hk0
    have hk := zk_kd hk0.1
    have hb := zk_kd hk0.2
    obtain ⟨⟨hi, hlt⟩, hP⟩ := hP
    obtain ⟨d, h1, h2, h3, h4⟩ := zarP (X := X) I J hk
    obtain ⟨d', h1', h2', h3'⟩ := zobj (X := X) I J hc hb
    have hin : vp_in i d.2.1 := by rw [← h3]; exact hi
    have hlt' : i.toNatClampNeg < d.2.1 := Nat.not_le.mp fun q => hin (Or.inr q)
    have h0 : ¬ i < 0 := fun q => hin (Or.inl q)
    rw [List.getD_eq_getElem?_getD, h1] at hlt
    simp only [Option.getD_some] at hlt
    obtain ⟨r', hr', cellV, g1, g2, g3, -⟩ := hp _ _ h3'
    have hcls := (F.K.1 ek q hc).2
    obtain ⟨kA, comp, k1, k2, k3, -⟩ := (F.K.2 3 _ rfl).2
    obtain ⟨kE, hkE, -⟩ := Vm.findClass_spec k3
    obtain ⟨c0, t1, f1, f2, f3⟩ := Cond.castable_spec (va_Nw.use (A := args) rfl (F.E.2.2.2.2.1 _ hq))
    cases hcls.1.symm.trans f1
    cases k3.symm.trans f2
    obtain ⟨kC, hkC, -⟩ := hcls.2
    refine W.aast F.x F.b (hp _ _ h4) (fun q h => by cases h) (fun h => by cases h) k1 k2 rfl hkE ⟨h0, by show _ < (arrV _ _ _).slots.size; rw [arrV_size]; exact hlt'⟩ g1 (fun q h => by rw [g3] at h; cases h) (by rw [g2]; exact hkC) (by rw [g2]; exact f3) rfl rfl hd fun H1 ee e2 e3 => ?_
    have hal : a < S.length := (List.getElem?_eq_some_iff.mp h1).1
    obtain ⟨g1, g2, g3⟩ := zstored (k := i.toNatClampNeg) (S' := zsr S a i.toNatClampNeg (some b)) (I' := I) (J' := J) (d' := (d.1, d.2.1, d.2.2.set i.toNatClampNeg (some b))) hz hp hS h1 e2 e3 (by
      rw [show zel X (I a) (J a) (d.1, d.2.1, d.2.2.set i.toNatClampNeg (some b)) = .inl (X.2.1.2.2.2.1, d.2.1, .inr (.inr (.inr (.inr (fun k => ((d.2.2.set i.toNatClampNeg (some b)).getD k none).map (zB X + ·)))))) by simp [zel, h2]]
      show H1[zB X + a]? = some (vp_cell _ _)
      rw [ee, vp_cell_q, vp_cell_q, arrV_store]
      congr 2
      funext q
      by_cases hq : q = i.toNatClampNeg
      · subst hq; simp [updV, va_rf, List.getD, hlt]
      · simp [updV, hq, List.getD, List.getElem?_set, Ne.symm hq]) (by rw [zsr_of h1, List.length_set]) (fun i hi => by rw [zsr_of h1, List.getElem?_set_ne (fun q => hi q.symm)]) (by rw [zsr_of h1, List.getElem?_set_self hal]) (fun _ _ => rfl) (fun _ _ => rfl)
    exact h _ _ _ _ _ hP ls H1 _ hL g1 g2 g3
  · exact hP.elim
theorem z_aast16 (F : zFx X p s m args meth c cc nL own ret nm) {k : ZK} {ek : Nat} {q : vw_C} (hd : decode cc pc = .ok (.aastore, 1)) (hc : vwCl[ek]? = some q) (hq : q.1 = "SmallCrown$Plain") (h : zOK X p l e R s m args below meth c nL Q cells slots (pc + 1) k) : zOK X p l e R s m args below meth c nL Q cells slots pc (i_aast 16 ek k) := by
  intro L st S I J hP ls H locs hL hp hS hz
  simp only [i_aast] at hP
  split at hP
  · rename_i b i a r
    split at hP
    case h_2 => exact hP.elim
    rename_i hk0
    simp only [Bool.and_eq_true] at hk0
    have hk := zk_kd hk0.1
    have hb := zk_kd hk0.2
    obtain ⟨⟨hi, hlt⟩, hP⟩ := hP
    obtain ⟨d, h1, h2, h3, h4⟩ := zarP (X := X) I J hk
    obtain ⟨d', h1', h2', h3'⟩ := zobj (X := X) I J hc hb
    have hin : vp_in i d.2.1 := by rw [← h3]; exact hi
    have hlt' : i.toNatClampNeg < d.2.1 := Nat.not_le.mp fun q => hin (Or.inr q)
    have h0 : ¬ i < 0 := fun q => hin (Or.inl q)
    rw [List.getD_eq_getElem?_getD, h1] at hlt
    simp only [Option.getD_some] at hlt
    obtain ⟨r', hr', cellV, g1, g2, g3, -⟩ := hp _ _ h3'
    have hcls := (F.K.1 ek q hc).2
    obtain ⟨kA, comp, k1, k2, k3, -⟩ := (F.K.2 3 _ rfl).2
    rw [← hq] at k3
    have hcomp : comp = X.1.1 ek := Option.some.inj (k3.symm.trans hcls.1)
    subst hcomp
    obtain ⟨kC, hkC, -⟩ := hcls.2
    refine W.aast F.x F.b (hp _ _ h4) (fun q h => by cases h) (fun h => by cases h) k1 k2 rfl hkC ⟨h0, by show _ < (arrV _ _ _).slots.size; rw [arrV_size]; exact hlt'⟩ g1 (fun q h => by rw [g3] at h; cases h) (by rw [g2]; exact hkC) (by rw [g2]; exact va_assign hcls) rfl rfl hd fun H1 ee e2 e3 => ?_
    have hal : a < S.length := (List.getElem?_eq_some_iff.mp h1).1
    obtain ⟨g1, g2, g3⟩ := zstored (k := i.toNatClampNeg) (S' := zsr S a i.toNatClampNeg (some b)) (I' := I) (J' := J) (d' := (d.1, d.2.1, d.2.2.set i.toNatClampNeg (some b))) hz hp hS h1 e2 e3 (by
      rw [show zel X (I a) (J a) (d.1, d.2.1, d.2.2.set i.toNatClampNeg (some b)) = .inl (X.2.1.2.2.2.1, d.2.1, .inr (.inr (.inr (.inr (fun k => ((d.2.2.set i.toNatClampNeg (some b)).getD k none).map (zB X + ·)))))) by simp [zel, h2]]
      show H1[zB X + a]? = some (vp_cell _ _)
      rw [ee, vp_cell_q, vp_cell_q, arrV_store]
      congr 2
      funext q
      by_cases hq : q = i.toNatClampNeg
      · subst hq; simp [updV, va_rf, List.getD, hlt]
      · simp [updV, hq, List.getD, List.getElem?_set, Ne.symm hq]) (by rw [zsr_of h1, List.length_set]) (fun i hi => by rw [zsr_of h1, List.getElem?_set_ne (fun q => hi q.symm)]) (by rw [zsr_of h1, List.getElem?_set_self hal]) (fun _ _ => rfl) (fun _ _ => rfl)
    exact h _ _ _ _ _ hP ls H1 _ hL g1 g2 g3
  · exact hP.elim
theorem z_aast17 (F : zFx X p s m args meth c cc nL own ret nm) {k : ZK} {ek : Nat} {q : vw_C} (hd : decode cc pc = .ok (.aastore, 1)) (hc : vwCl[ek]? = some q) (hq : q.1 = "SmallCrown$World") (h : zOK X p l e R s m args below meth c nL Q cells slots (pc + 1) k) : zOK X p l e R s m args below meth c nL Q cells slots pc (i_aast 17 ek k) := by
  intro L st S I J hP ls H locs hL hp hS hz
  simp only [i_aast] at hP
  split at hP
  · rename_i b i a r
    split at hP
    case h_2 => exact hP.elim
    rename_i hk0
    simp only [Bool.and_eq_true] at hk0
    have hk := zk_kd hk0.1
    have hb := zk_kd hk0.2
    obtain ⟨⟨hi, hlt⟩, hP⟩ := hP
    obtain ⟨d, h1, h2, h3, h4⟩ := zarW (X := X) I J hk
    obtain ⟨d', h1', h2', h3'⟩ := zobj (X := X) I J hc hb
    have hin : vp_in i d.2.1 := by rw [← h3]; exact hi
    have hlt' : i.toNatClampNeg < d.2.1 := Nat.not_le.mp fun q => hin (Or.inr q)
    have h0 : ¬ i < 0 := fun q => hin (Or.inl q)
    rw [List.getD_eq_getElem?_getD, h1] at hlt
    simp only [Option.getD_some] at hlt
    obtain ⟨r', hr', cellV, g1, g2, g3, -⟩ := hp _ _ h3'
    have hcls := (F.K.1 ek q hc).2
    obtain ⟨kA, comp, k1, k2, k3, -⟩ := (F.K.2 4 _ rfl).2
    rw [← hq] at k3
    have hcomp : comp = X.1.1 ek := Option.some.inj (k3.symm.trans hcls.1)
    subst hcomp
    obtain ⟨kC, hkC, -⟩ := hcls.2
    refine W.aast F.x F.b (hp _ _ h4) (fun q h => by cases h) (fun h => by cases h) k1 k2 rfl hkC ⟨h0, by show _ < (arrV _ _ _).slots.size; rw [arrV_size]; exact hlt'⟩ g1 (fun q h => by rw [g3] at h; cases h) (by rw [g2]; exact hkC) (by rw [g2]; exact va_assign hcls) rfl rfl hd fun H1 ee e2 e3 => ?_
    have hal : a < S.length := (List.getElem?_eq_some_iff.mp h1).1
    obtain ⟨g1, g2, g3⟩ := zstored (k := i.toNatClampNeg) (S' := zsr S a i.toNatClampNeg (some b)) (I' := I) (J' := J) (d' := (d.1, d.2.1, d.2.2.set i.toNatClampNeg (some b))) hz hp hS h1 e2 e3 (by
      rw [show zel X (I a) (J a) (d.1, d.2.1, d.2.2.set i.toNatClampNeg (some b)) = .inl (X.2.1.2.2.2.2, d.2.1, .inr (.inr (.inr (.inr (fun k => ((d.2.2.set i.toNatClampNeg (some b)).getD k none).map (zB X + ·)))))) by simp [zel, h2]]
      show H1[zB X + a]? = some (vp_cell _ _)
      rw [ee, vp_cell_q, vp_cell_q, arrV_store]
      congr 2
      funext q
      by_cases hq : q = i.toNatClampNeg
      · subst hq; simp [updV, va_rf, List.getD, hlt]
      · simp [updV, hq, List.getD, List.getElem?_set, Ne.symm hq]) (by rw [zsr_of h1, List.length_set]) (fun i hi => by rw [zsr_of h1, List.getElem?_set_ne (fun q => hi q.symm)]) (by rw [zsr_of h1, List.getElem?_set_self hal]) (fun _ _ => rfl) (fun _ _ => rfl)
    exact h _ _ _ _ _ hP ls H1 _ hL g1 g2 g3
  · exact hP.elim
theorem zW_end (F : zFx X p s m args meth c cc nL own ret nm) {S : ZS} {I : ZI} {J : ZJ} {H : Heap} {locs : List Loc} (hp : va_P X.1 vwCl (zws X S I J) H) (hS : va_S (zA X) s.heap H locs) (hz : H.size = zB X + S.length) {t : State} (ht : t.heap = H) (hW : s.WarmedH t.vm) : zW X S I J t :=
  ⟨by rw [ht]; exact hp, va_K.moved hW.alike F.K, by rw [ht]; exact hz, zE_move F.E hS ht hW⟩
def i_iret (q : ZQi) : ZK := fun _ st S I J => match st with
  | [.int x] => q S I J x
  | _ => False
def i_zret (q : ZQi) : ZK := fun _ st S I J => match st with
  | [.int x] => (x = 0 ∨ x = 1) ∧ q S I J x
  | _ => False
def i_lret (q : ZQl) : ZK := fun _ st S I J => match st with
  | [.long x] => q S I J x
  | _ => False
def i_aret (q : ZQr) : ZK := fun _ st S I J => match st with
  | [.ref x] => q S I J x
  | _ => False
def i_vret (q : ZQv) : ZK := fun _ st S I J => match st with
  | [] => q S I J
  | _ => False

theorem z_iret (F : zFx X p s m args meth c cc nL own (some .int) nm) {q : ZQ} (hd : decode cc pc = .ok (.ireturn, 1)) : zOK X p l e R s m args below meth c nL (MQ below (zQc X q) args s cells slots (zA X)) cells slots pc (i_iret (fun S I J x => q S I J (some (.int x)))) := by
  intro L st S I J hP ls H locs hL hp hS hz
  simp only [i_iret] at hP
  split at hP
  · exact W.iret F.x F.b F.r (fun t ht hW => ⟨⟨_, S, I, J, rfl, hP, zW_end F hp hS hz ht hW⟩, hS.F ht⟩) hS.2.2 hd F.lk
  · exact hP.elim
theorem z_lret (F : zFx X p s m args meth c cc nL own (some .long) nm) {q : ZQ} (hd : decode cc pc = .ok (.lreturn, 1)) : zOK X p l e R s m args below meth c nL (MQ below (zQc X q) args s cells slots (zA X)) cells slots pc (i_lret (fun S I J x => q S I J (some (.long x)))) := by
  intro L st S I J hP ls H locs hL hp hS hz
  simp only [i_lret] at hP
  split at hP
  · exact W.lret F.x F.b F.r (fun t ht hW => ⟨⟨_, S, I, J, rfl, hP, zW_end F hp hS hz ht hW⟩, hS.F ht⟩) hS.2.2 hd F.lk
  · exact hP.elim
theorem z_vret (F : zFx X p s m args meth c cc nL own none nm) {q : ZQ} (hd : decode cc pc = .ok (.return_, 1)) : zOK X p l e R s m args below meth c nL (MQ below (zQc X q) args s cells slots (zA X)) cells slots pc (i_vret (fun S I J => q S I J none)) := by
  intro L st S I J hP ls H locs hL hp hS hz
  simp only [i_vret] at hP
  split at hP
  · exact W.vret F.x F.b F.r (fun t ht hW => ⟨⟨_, S, I, J, rfl, hP, zW_end F hp hS hz ht hW⟩, hS.F ht⟩) hS.2.2 hd F.lk
  · exact hP.elim
theorem z_zret (F : zFx X p s m args meth c cc nL own (some .boolean) nm) {q : ZQ} (hd : decode cc pc = .ok (.ireturn, 1)) : zOK X p l e R s m args below meth c nL (MQ below (zQc X q) args s cells slots (zA X)) cells slots pc (i_zret (fun S I J x => q S I J (some (.int x)))) := by
  intro L st S I J hP ls H locs hL hp hS hz
  simp only [i_zret] at hP
  split at hP
  · obtain ⟨hb, hP⟩ := hP
    exact W.zret F.x F.b F.r (by rcases hb with h | h <;> subst h <;> rfl) (fun t ht hW => ⟨⟨_, S, I, J, rfl, hP, zW_end F hp hS hz ht hW⟩, hS.F ht⟩) hS.2.2 hd F.lk
  · exact hP.elim
theorem z_aret {cn : String} (F : zFx X p s m args meth c cc nL own (some (.object cn)) nm) {q : ZQ} (hd : decode cc pc = .ok (.areturn, 1)) : zOK X p l e R s m args below meth c nL (MQ below (zQc X q) args s cells slots (zA X)) cells slots pc (i_aret (fun S I J x => q S I J (some (.ref x)))) := by
  intro L st S I J hP ls H locs hL hp hS hz
  simp only [i_aret] at hP
  split at hP
  · exact W.aret F.x F.b F.r (Or.inl ⟨_, rfl⟩) (Or.inr ⟨_, rfl⟩) (fun t ht hW => ⟨⟨some (.ref _), S, I, J, rfl, hP, zW_end F hp hS hz ht hW⟩, hS.F ht⟩) hS.2.2 hd F.lk
  · exact hP.elim
theorem zcallW {q : ZQ} {a : Array Value} {mc ms : Nat} {H : Heap} {locs : List Loc} {ls : Array Slot} {st0 rest : List Value} (hr : va_Run p l e R s m args below meth c H locs cells slots mc ms (F0 m pc ls st0) rest (zQc X q a) (zA X)) (hS : va_S (zA X) s.heap H locs)
    (kk : ∀ (v : Option Value) (S : ZS) (I : ZI) (J : ZJ) (H1 : Heap) (locs1 : List Loc), q S I J v → va_P X.1 vwCl (zws X S I J) H1 → va_S (zA X) s.heap H1 locs1 → H1.size = zB X + S.length → W p l e R s m args below meth c H1 locs1 (cells + mc) (slots + ms) Q (F0 m (pc + 3) ls ((v.map (zc X)).toList ++ rest))) : W p l e R s m args below meth c H locs cells slots Q (F0 m pc ls st0) := by
  intro T hT K
  obtain ⟨v, st₀, t, T', L, h0, X', hL, e1, e2, ⟨⟨v', S, I, J, hv, hq, hp, hK, hsz, hE⟩, hz, hk⟩, st⟩ := hr T hT K
  cases hv
  rw [h0] at hz hk
  obtain ⟨t2, a1, b1⟩ := kk v' S I J T'.heap (locs ++ L) hq (by rw [e1]; exact hp)
    ⟨Nat.le_trans hS.1 (by rw [e1]; exact hz), fun q h1 h2 => by rw [e1, hk q (Nat.lt_of_lt_of_le h1 hS.1) h2]; exact hS.2.1 q h1 h2, fun q hq => by
      rcases List.mem_append.mp hq with h | h
      · exact hS.2.2 q h
      · exact hL q h⟩ (by rw [e1]; exact hsz) T' rfl X'
  exact ⟨t2, st t2 a1, b1⟩
def zchk (n : Nat) (st : List Value) : Bool := Nat.ble n st.length && zcat (st.drop n)
/-- a static call of n arguments -/
def i_callS (n : Nat) (T : ZT) (k : ZK) : ZK := fun L st S I J => match zchk n st with
  | true => T (st.take n).reverse S I J (fun S' I' J' v => k L (v.toList ++ st.drop n) S' I' J')
  | false => False
/-- a call of n arguments on an object of kind ci -/
def i_callV (ci n : Nat) (T : ZT) (k : ZK) : ZK := fun L st S I J => match st.drop n with
  | .ref a :: r => match zcat r && zk S a ci with
    | true => T (.ref a :: (st.take n).reverse) S I J (fun S' I' J' v => k L (v.toList ++ r) S' I' J')
    | false => False
  | _ => False
/-- a constructor's call, or a superclass's method -/
def i_callI (n : Nat) (T : ZT) (k : ZK) : ZK := fun L st S I J => match st.drop n with
  | .ref a :: r => match zcat r with
    | true => T (.ref a :: (st.take n).reverse) S I J (fun S' I' J' v => k L (v.toList ++ r) S' I' J')
    | false => False
  | _ => False
theorem zpre (F : zFx X p s m args meth c cc nL own ret nm) {As : List Value} {S : ZS} {I : ZI} {J : ZJ} {H : Heap} {locs : List Loc} (hp : va_P X.1 vwCl (zws X S I J) H) (hS : va_S (zA X) s.heap H locs) (hz : H.size = zB X + S.length) : PreS s H (zPc X As S I J) (As.map (zc X)) :=
  ⟨zPc_blind X As S I J, fun U hU hW => ⟨rfl, zW_end F hp hS hz hU hW⟩⟩
theorem zroomW {r : List Value} {g : JFrame} (h : zcat r = true) (hg : g.monitorRoom = 0) : 2 * g.monitorRoom + ((r.map (zc X)).map fun v => v.category).sum ≤ 8 := by
  rw [hg]
  have := zcat_of (X := X) h
  omega
theorem ztk {n : Nat} {st : List Value} (h : Nat.ble n st.length = true) : st.map (zc X) = ((st.take n).reverse.map (zc X)).reverse ++ (st.drop n).map (zc X) := by
  rw [← List.map_reverse, List.reverse_reverse, ← List.map_append, List.take_append_drop]
theorem ztkl {n : Nat} {st : List Value} (h : n ≤ st.length) : ((st.take n).reverse.map (zc X)).length = n := by
  simp; omega
theorem zop (f : Value → Value) (v : Option Value) (r : List Value) : (v.map f).toList ++ r.map f = (v.toList ++ r).map f := by cases v <;> rfl

theorem z_callS (F : zFx X p s m args meth c cc nL own ret nm) {k : ZK} {y : MethodName} {bytes : ByteArray} {maxL n i mc ms : Nat} {rt : Option FieldType} {rm : Room} {T : ZT} (hd : decode cc pc = .ok (.invokestatic i, 3)) (hsp : zSp l y bytes maxL rt rm mc ms T) (hcode : Cond.code y bytes maxL rt ∈ zG) (hini : Cond.initialized y.cls ∈ zG) (hw : Cond.methodLink own i y ∈ zG) (hst : Cond.static y ∈ zG) (hy : y.cls ≠ "java/lang/invoke/MethodHandle" ∧ y.cls ≠ "java/lang/invoke/VarHandle" ∧ (parseMethodDescriptor y.desc).map (fun d => d.parameters.length) = some n) (hrm : rm.cells = mc ∧ rm.slots = ms) (hR : rm.frames + 1 ≤ R.frames ∧ 8 + (maxL + 11) + rm.locals ≤ R.locals) (hf : cells + mc ≤ R.cells ∧ slots + ms ≤ R.slots) (h : zOK X p l e R s m args below meth c nL Q (cells + mc) (slots + ms) (pc + 3) k) : zOK X p l e R s m args below meth c nL Q cells slots pc (i_callS n T k) := by
  intro L st S I J hP ls H locs hL hp hS hz
  simp only [i_callS] at hP
  split at hP
  · rename_i hch
    simp only [zchk, Bool.and_eq_true] at hch
    have hle := Nat.le_of_ble_eq_true hch.1
    refine zcallW (mc := mc) (ms := ms) (q := fun S' I' J' v => k L (v.toList ++ st.drop n) S' I' J') (a := ((st.take n).reverse.map (zc X)).toArray) (rest := (st.drop n).map (zc X)) ?_ hS (fun v S' I' J' H1 locs1 hq hp1 hS1 hz1 => ?_)
    · exact va_runS (n := n) ⟨F.x, F.b, F.ml, F.ow, F.ts⟩ (hsp X _ S I J _ hP) ⟨callB_of n F.ts (zgc hcode) rfl hrm.1 hrm.2 (F.ts _ hini) (F.ts _ hw) hy hR, F.ts _ hst⟩ (zpre F hp hS hz) rfl (ztkl hle) hL.1 (ztk hch.1) (zroomW hch.2 rfl) hd hf
    · rw [zop]
      exact h _ _ _ _ _ hq ls H1 locs1 hL hp1 hS1 hz1
  · exact hP.elim
theorem z_callSN (F : zFx X p s m args meth c cc nL own ret nm) {k : ZK} {y : MethodName} {bytes : ByteArray} {maxL n i mc ms : Nat} {rt : Option FieldType} {rm : Room} {T : ZT} (hd : decode cc pc = .ok (.invokestatic i, 3)) (hsp : zSp l y bytes maxL rt rm mc ms T) (hcode : Cond.code y bytes maxL rt ∈ zG) (hini : Cond.initialized y.cls ∈ zG) {host : String} (hw : (own, i, y, host) ∈ znM) (hst : Cond.static y ∈ zG) (hy : y.cls ≠ "java/lang/invoke/MethodHandle" ∧ y.cls ≠ "java/lang/invoke/VarHandle" ∧ (parseMethodDescriptor y.desc).map (fun d => d.parameters.length) = some n) (hrm : rm.cells = mc ∧ rm.slots = ms) (hR : rm.frames + 1 ≤ R.frames ∧ 8 + (maxL + 11) + rm.locals ≤ R.locals) (hf : cells + mc ≤ R.cells ∧ slots + ms ≤ R.slots) (h : zOK X p l e R s m args below meth c nL Q (cells + mc) (slots + ms) (pc + 3) k) : zOK X p l e R s m args below meth c nL Q cells slots pc (i_callS n T k) := by
  intro L st S I J hP ls H locs hL hp hS hz
  simp only [i_callS] at hP
  split at hP
  · rename_i hch
    simp only [zchk, Bool.and_eq_true] at hch
    have hle := Nat.le_of_ble_eq_true hch.1
    refine zcallW (mc := mc) (ms := ms) (q := fun S' I' J' v => k L (v.toList ++ st.drop n) S' I' J') (a := ((st.take n).reverse.map (zc X)).toArray) (rest := (st.drop n).map (zc X)) ?_ hS (fun v S' I' J' H1 locs1 hq hp1 hS1 hz1 => ?_)
    · exact va_runSN (n := n) ⟨F.x, F.b, F.ml, F.ow, F.ts⟩ (hsp X _ S I J _ hP) ⟨va_cnB n F.ts (zgc hcode) rfl hrm.1 hrm.2 (F.E.2.2.1 _ hw) (F.ts _ hini) hy hR, F.ts _ hst, trivial⟩ (zpre F hp hS hz) rfl (ztkl hle) hL.1 (ztk hch.1) (zroomW hch.2 rfl) hd hf
    · rw [zop]
      exact h _ _ _ _ _ hq ls H1 locs1 hL hp1 hS1 hz1
  · exact hP.elim
theorem z_callV (F : zFx X p s m args meth c cc nL own ret nm) {ci : Nat} {C : String} {TT : u_T} {N : Nat} {k : ZK} {y : MethodName} {bytes : ByteArray} {maxL n i mc ms : Nat} {rt : Option FieldType} {rm : Room} {T : ZT} (hc : vwCl[ci]? = some (C, TT, N)) (hd : decode cc pc = .ok (.invokevirtual i, 3)) (hsp : zSp l y bytes maxL rt rm mc ms T) (hcode : Cond.code y bytes maxL rt ∈ zG) (hini : Cond.initialized y.cls ∈ zG) (hw : Cond.methodLink own i y ∈ zG) (hin : Cond.instanceMethod y ∈ zG) (hsel : Cond.selects C y y ∈ zG) (hy : y.cls ≠ "java/lang/invoke/MethodHandle" ∧ y.cls ≠ "java/lang/invoke/VarHandle" ∧ (parseMethodDescriptor y.desc).map (fun d => d.parameters.length) = some n) (hrm : rm.cells = mc ∧ rm.slots = ms) (hR : rm.frames + 1 ≤ R.frames ∧ 8 + (maxL + 11) + rm.locals ≤ R.locals) (hf : cells + mc ≤ R.cells ∧ slots + ms ≤ R.slots) (h : zOK X p l e R s m args below meth c nL Q (cells + mc) (slots + ms) (pc + 3) k) : zOK X p l e R s m args below meth c nL Q cells slots pc (i_callV ci n T k) := by
  intro L st S I J hP ls H locs hL hp hS hz
  simp only [i_callV] at hP
  split at hP
  · rename_i a r hdr
    split at hP
    · rename_i hct
      simp only [Bool.and_eq_true] at hct
      obtain ⟨hct, hk⟩ := hct
      obtain ⟨d, h1, h2, h3⟩ := zobj (X := X) I J hc (zk_kd hk)
      have hrcv := va_recv F.K hp hc h3
      have hle : n ≤ st.length := by
        rcases Nat.lt_or_ge st.length n with q | q
        · rw [List.drop_eq_nil_of_le (Nat.le_of_lt q)] at hdr; cases hdr
        · exact q
      have hst : st.map (zc X) = ((st.take n).reverse.map (zc X)).reverse ++ .ref (zB X + a) :: r.map (zc X) := by
        rw [ztk (X := X) (Nat.ble_eq_true_of_le hle), hdr]; rfl
      have hPre := zpre F (As := .ref a :: (st.take n).reverse) hp hS hz
      refine zcallW (mc := mc) (ms := ms) (q := fun S' I' J' v => k L (v.toList ++ r) S' I' J') (a := (Value.ref (zB X + a) :: (st.take n).reverse.map (zc X)).toArray) (rest := r.map (zc X)) ?_ hS (fun v S' I' J' H1 locs1 hq hp1 hS1 hz1 => ?_)
      · exact va_runV (C := C) (n := n) ⟨F.x, F.b, F.ml, F.ow, F.ts⟩ (hsp X _ S I J _ hP) ⟨callB_of n F.ts (zgc hcode) rfl hrm.1 hrm.2 (F.ts _ hini) (F.ts _ hw) hy hR, F.ts _ hin, F.ts _ hsel⟩ ⟨hPre.1, hrcv, hPre.2⟩ rfl (ztkl hle) hL.1 hst (zroomW hct rfl) hd hf
      · rw [zop]
        exact h _ _ _ _ _ hq ls H1 locs1 hL hp1 hS1 hz1
    · exact hP.elim
  · exact hP.elim
theorem z_callVN (F : zFx X p s m args meth c cc nL own ret nm) {ci : Nat} {C : String} {TT : u_T} {N : Nat} {k : ZK} {y : MethodName} {bytes : ByteArray} {maxL n i mc ms : Nat} {rt : Option FieldType} {rm : Room} {T : ZT} (hc : vwCl[ci]? = some (C, TT, N)) (hd : decode cc pc = .ok (.invokevirtual i, 3)) (hsp : zSp l y bytes maxL rt rm mc ms T) (hcode : Cond.code y bytes maxL rt ∈ zG) (hini : Cond.initialized y.cls ∈ zG) {host : String} (hw : (own, i, y, host) ∈ znM) (hin : Cond.instanceMethod y ∈ zG) (hsel : Cond.selects C y y ∈ zG) (hy : y.cls ≠ "java/lang/invoke/MethodHandle" ∧ y.cls ≠ "java/lang/invoke/VarHandle" ∧ (parseMethodDescriptor y.desc).map (fun d => d.parameters.length) = some n) (hrm : rm.cells = mc ∧ rm.slots = ms) (hR : rm.frames + 1 ≤ R.frames ∧ 8 + (maxL + 11) + rm.locals ≤ R.locals) (hf : cells + mc ≤ R.cells ∧ slots + ms ≤ R.slots) (h : zOK X p l e R s m args below meth c nL Q (cells + mc) (slots + ms) (pc + 3) k) : zOK X p l e R s m args below meth c nL Q cells slots pc (i_callV ci n T k) := by
  intro L st S I J hP ls H locs hL hp hS hz
  simp only [i_callV] at hP
  split at hP
  · rename_i a r hdr
    split at hP
    · rename_i hct
      simp only [Bool.and_eq_true] at hct
      obtain ⟨hct, hk⟩ := hct
      obtain ⟨d, h1, h2, h3⟩ := zobj (X := X) I J hc (zk_kd hk)
      have hrcv := va_recv F.K hp hc h3
      have hle : n ≤ st.length := by
        rcases Nat.lt_or_ge st.length n with q | q
        · rw [List.drop_eq_nil_of_le (Nat.le_of_lt q)] at hdr; cases hdr
        · exact q
      have hst : st.map (zc X) = ((st.take n).reverse.map (zc X)).reverse ++ .ref (zB X + a) :: r.map (zc X) := by
        rw [ztk (X := X) (Nat.ble_eq_true_of_le hle), hdr]; rfl
      have hPre := zpre F (As := .ref a :: (st.take n).reverse) hp hS hz
      refine zcallW (mc := mc) (ms := ms) (q := fun S' I' J' v => k L (v.toList ++ r) S' I' J') (a := (Value.ref (zB X + a) :: (st.take n).reverse.map (zc X)).toArray) (rest := r.map (zc X)) ?_ hS (fun v S' I' J' H1 locs1 hq hp1 hS1 hz1 => ?_)
      · exact va_runVN (C := C) (n := n) ⟨F.x, F.b, F.ml, F.ow, F.ts⟩ (hsp X _ S I J _ hP) ⟨va_cnB n F.ts (zgc hcode) rfl hrm.1 hrm.2 (F.E.2.2.1 _ hw) (F.ts _ hini) hy hR, F.ts _ hin, F.ts _ hsel⟩ ⟨hPre.1, hrcv, hPre.2⟩ rfl (ztkl hle) hL.1 hst (zroomW hct rfl) hd hf
      · rw [zop]
        exact h _ _ _ _ _ hq ls H1 locs1 hL hp1 hS1 hz1
    · exact hP.elim
  · exact hP.elim
theorem z_callI (F : zFx X p s m args meth c cc nL own ret nm) {k : ZK} {y : MethodName} {bytes : ByteArray} {maxL n i mc ms : Nat} {rm : Room} {T : ZT} (hd : decode cc pc = .ok (.invokespecial i, 3)) (hsp : zSp l y bytes maxL none rm mc ms T) (hcode : Cond.code y bytes maxL none ∈ zG) (hini : Cond.initialized y.cls ∈ zG) (hw : Cond.methodLink own i y ∈ zG) (hin : Cond.instanceMethod y ∈ zG) (hyn : y.name = "<init>") (hy : y.cls ≠ "java/lang/invoke/MethodHandle" ∧ y.cls ≠ "java/lang/invoke/VarHandle" ∧ (parseMethodDescriptor y.desc).map (fun d => d.parameters.length) = some n) (hrm : rm.cells = mc ∧ rm.slots = ms) (hR : rm.frames + 1 ≤ R.frames ∧ 8 + (maxL + 11) + rm.locals ≤ R.locals) (hf : cells + mc ≤ R.cells ∧ slots + ms ≤ R.slots) (h : zOK X p l e R s m args below meth c nL Q (cells + mc) (slots + ms) (pc + 3) k) : zOK X p l e R s m args below meth c nL Q cells slots pc (i_callI n T k) := by
  intro L st S I J hP ls H locs hL hp hS hz
  simp only [i_callI] at hP
  split at hP
  · rename_i a r hdr
    split at hP
    · rename_i hct
      have hle : n ≤ st.length := by
        rcases Nat.lt_or_ge st.length n with q | q
        · rw [List.drop_eq_nil_of_le (Nat.le_of_lt q)] at hdr; cases hdr
        · exact q
      have hst : st.map (zc X) = ((st.take n).reverse.map (zc X)).reverse ++ .ref (zB X + a) :: r.map (zc X) := by
        rw [ztk (X := X) (Nat.ble_eq_true_of_le hle), hdr]; rfl
      have hPre := zpre F (As := .ref a :: (st.take n).reverse) hp hS hz
      refine zcallW (mc := mc) (ms := ms) (q := fun S' I' J' v => k L (v.toList ++ r) S' I' J') (a := (Value.ref (zB X + a) :: (st.take n).reverse.map (zc X)).toArray) (rest := r.map (zc X)) ?_ hS (fun v S' I' J' H1 locs1 hq hp1 hS1 hz1 => ?_)
      · exact va_runI (n := n) ⟨F.x, F.b, F.ml, F.ow, F.ts⟩ (hsp X _ S I J _ hP) ⟨callB_of n F.ts (zgc hcode) rfl hrm.1 hrm.2 (F.ts _ hini) (F.ts _ hw) hy hR, hyn, F.ts _ hin⟩ hPre rfl (ztkl hle) hL.1 hst (zroomW hct rfl) hd hf
      · rw [zop]
        exact h _ _ _ _ _ hq ls H1 locs1 hL hp1 hS1 hz1
    · exact hP.elim
  · exact hP.elim
theorem z_callIN (F : zFx X p s m args meth c cc nL own ret nm) {k : ZK} {y : MethodName} {bytes : ByteArray} {maxL n i mc ms : Nat} {rm : Room} {T : ZT} (hd : decode cc pc = .ok (.invokespecial i, 3)) (hsp : zSp l y bytes maxL none rm mc ms T) (hcode : Cond.code y bytes maxL none ∈ zG) (hini : Cond.initialized y.cls ∈ zG) {host : String} (hw : (own, i, y, host) ∈ znM) (hin : Cond.instanceMethod y ∈ zG) (hyn : y.name = "<init>") (hy : y.cls ≠ "java/lang/invoke/MethodHandle" ∧ y.cls ≠ "java/lang/invoke/VarHandle" ∧ (parseMethodDescriptor y.desc).map (fun d => d.parameters.length) = some n) (hrm : rm.cells = mc ∧ rm.slots = ms) (hR : rm.frames + 1 ≤ R.frames ∧ 8 + (maxL + 11) + rm.locals ≤ R.locals) (hf : cells + mc ≤ R.cells ∧ slots + ms ≤ R.slots) (h : zOK X p l e R s m args below meth c nL Q (cells + mc) (slots + ms) (pc + 3) k) : zOK X p l e R s m args below meth c nL Q cells slots pc (i_callI n T k) := by
  intro L st S I J hP ls H locs hL hp hS hz
  simp only [i_callI] at hP
  split at hP
  · rename_i a r hdr
    split at hP
    · rename_i hct
      have hle : n ≤ st.length := by
        rcases Nat.lt_or_ge st.length n with q | q
        · rw [List.drop_eq_nil_of_le (Nat.le_of_lt q)] at hdr; cases hdr
        · exact q
      have hst : st.map (zc X) = ((st.take n).reverse.map (zc X)).reverse ++ .ref (zB X + a) :: r.map (zc X) := by
        rw [ztk (X := X) (Nat.ble_eq_true_of_le hle), hdr]; rfl
      have hPre := zpre F (As := .ref a :: (st.take n).reverse) hp hS hz
      refine zcallW (mc := mc) (ms := ms) (q := fun S' I' J' v => k L (v.toList ++ r) S' I' J') (a := (Value.ref (zB X + a) :: (st.take n).reverse.map (zc X)).toArray) (rest := r.map (zc X)) ?_ hS (fun v S' I' J' H1 locs1 hq hp1 hS1 hz1 => ?_)
      · exact va_runIN (n := n) ⟨F.x, F.b, F.ml, F.ow, F.ts⟩ (hsp X _ S I J _ hP) ⟨va_cnB n F.ts (zgc hcode) rfl hrm.1 hrm.2 (F.E.2.2.1 _ hw) (F.ts _ hini) hy hR, hyn, F.ts _ hin⟩ hPre rfl (ztkl hle) hL.1 hst (zroomW hct rfl) hd hf
      · rw [zop]
        exact h _ _ _ _ _ hq ls H1 locs1 hL hp1 hS1 hz1
    · exact hP.elim
  · exact hP.elim
end ZR
