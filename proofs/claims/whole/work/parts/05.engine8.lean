section ZU
variable {X : ZC} {p : Program} {l : Launch} {e : Env} {R : Room} {s : State} {m : MethodId} {args : Array Value} {below : List Frame} {meth : Method} {c : Code} {nL : Nat} {Q : State → Prop} {cells slots pc : Nat} {cc : ByteArray} {own nm : String} {ret : Option FieldType}
/-! String constants: 1 + j, their bytes 101 + j -/
def zsj (x : Nat) : Bool := Nat.blt 0 x && Nat.blt x 8
def zbj (x : Nat) : Bool := Nat.blt 100 x && Nat.blt x 108
def i_sval (k : ZK) : ZK := fun L st S I J => match st with
  | .retAddr x :: r => match zsj x with
    | true => k L (.retAddr (100 + x) :: r) S I J
    | false => False
  | _ => False
def i_scod (k : ZK) : ZK := fun L st S I J => match st with
  | .retAddr x :: r => match zsj x with
    | true => k L (.int 0 :: r) S I J
    | false => False
  | _ => False
def i_slen (k : ZK) : ZK := fun L st S I J => match st with
  | .retAddr x :: r => match zbj x with
    | true => k L (.int (nI (zlenS.getD (x - 101) 0)) :: r) S I J
    | false => False
  | _ => False
def i_sbyt (k : ZK) : ZK := fun L st S I J => match st with
  | .int i :: .retAddr x :: r => match zbj x with
    | true => vp_in i (zlenS.getD (x - 101) 0) ∧ k L (.int ((zbytS.getD (x - 101) []).getD i.toNatClampNeg 0) :: r) S I J
    | false => False
  | _ => False
def i_cmpS (k : ZK) : ZK := fun L st S I J => k L (.int 1 :: st) S I J
def i_fmt (k : ZK) : ZK := fun L st S I J => k L (.retAddr 200 :: st) S I J ∧ k L (.null :: st) S I J
def i_pop (k : ZK) : ZK := fun L st S I J => match st with
  | .int _ :: r => k L r S I J
  | _ => False
def i_no : ZK := fun _ _ _ _ _ => False
theorem zsj_of {x : Nat} (h : zsj x = true) : ∃ j, j < 7 ∧ x = 1 + j := by
  simp only [zsj, Bool.and_eq_true] at h
  have h1 : 0 < x := Nat.le_of_ble_eq_true h.1
  have h2 : x < 8 := Nat.le_of_ble_eq_true h.2
  exact ⟨x - 1, by omega, by omega⟩
theorem zbj_of {x : Nat} (h : zbj x = true) : ∃ j, j < 7 ∧ x = 101 + j := by
  simp only [zbj, Bool.and_eq_true] at h
  have h1 : 100 < x := Nat.le_of_ble_eq_true h.1
  have h2 : x < 108 := Nat.le_of_ble_eq_true h.2
  exact ⟨x - 101, by omega, by omega⟩
theorem z_no : zOK X p l e R s m args below meth c nL Q cells slots pc i_no := fun _ _ _ _ _ h => h.elim
theorem z_pop (F : zFx X p s m args meth c cc nL own ret nm) {k : ZK} (hd : decode cc pc = .ok (.pop, 1)) (h : zOK X p l e R s m args below meth c nL Q cells slots (pc + 1) k) : zOK X p l e R s m args below meth c nL Q cells slots pc (i_pop k) := by
  intro L st S I J hP ls H locs hL hp hS hz
  simp only [i_pop] at hP
  split at hP
  · exact lv_pop F.x F.b hd rfl (h _ _ _ _ _ hP ls H locs hL hp hS hz)
  · exact hP.elim
theorem z_sval (F : zFx X p s m args meth c cc nL own ret nm) {k : ZK} {i : Nat} (hd : decode cc pc = .ok (.getfield i, 3)) (hw : Cond.fieldLink own i "java/lang/String" "value" "[B" ∈ zG) (h : zOK X p l e R s m args below meth c nL Q cells slots (pc + 3) k) : zOK X p l e R s m args below meth c nL Q cells slots pc (i_sval k) := by
  intro L st S I J hP ls H locs hL hp hS hz
  simp only [i_sval] at hP
  split at hP
  · split at hP
    · rename_i hx
      obtain ⟨j, hj, rfl⟩ := zsj_of hx
      have h9 := (F.E.2.2.2.2.2.2.2.2.1.1 j hj).2.2.1
      rw [show 100 + (1 + j) = 101 + j by omega] at hP
      exact vk_getf F.x F.b h9 hS F.ow (F.ts _ hw) (fun _ q => q) hd (h _ _ _ _ _ hP ls H locs hL hp hS hz)
    · exact hP.elim
  · exact hP.elim
theorem z_scod (F : zFx X p s m args meth c cc nL own ret nm) {k : ZK} {i : Nat} (hd : decode cc pc = .ok (.getfield i, 3)) (hw : Cond.fieldLink own i "java/lang/String" "coder" "B" ∈ zG) (h : zOK X p l e R s m args below meth c nL Q cells slots (pc + 3) k) : zOK X p l e R s m args below meth c nL Q cells slots pc (i_scod k) := by
  intro L st S I J hP ls H locs hL hp hS hz
  simp only [i_scod] at hP
  split at hP
  · split at hP
    · rename_i hx
      obtain ⟨j, hj, rfl⟩ := zsj_of hx
      have h9 := (F.E.2.2.2.2.2.2.2.2.1.1 j hj).2.1
      exact vk_getf F.x F.b h9 hS F.ow (F.ts _ hw) (fun _ q => q) hd (h _ _ _ _ _ hP ls H locs hL hp hS hz)
    · exact hP.elim
  · exact hP.elim
theorem z_slen (F : zFx X p s m args meth c cc nL own ret nm) {k : ZK} (hd : decode cc pc = .ok (.arraylength, 1)) (h : zOK X p l e R s m args below meth c nL Q cells slots (pc + 1) k) : zOK X p l e R s m args below meth c nL Q cells slots pc (i_slen k) := by
  intro L st S I J hP ls H locs hL hp hS hz
  simp only [i_slen] at hP
  split at hP
  · split at hP
    · rename_i hx
      obtain ⟨j, hj, rfl⟩ := zbj_of hx
      have h9 := (F.E.2.2.2.2.2.2.2.2.1.1 j hj).2.2.2
      rw [show 101 + j - 101 = j by omega] at hP
      exact va_tlen F.x F.b h9 hS rfl hd (h _ _ _ _ _ hP ls H locs hL hp hS hz)
    · exact hP.elim
  · exact hP.elim
theorem z_sbyt (F : zFx X p s m args meth c cc nL own ret nm) {k : ZK} (hd : decode cc pc = .ok (.baload, 1)) (h : zOK X p l e R s m args below meth c nL Q cells slots (pc + 1) k) : zOK X p l e R s m args below meth c nL Q cells slots pc (i_sbyt k) := by
  intro L st S I J hP ls H locs hL hp hS hz
  simp only [i_sbyt] at hP
  split at hP
  · split at hP
    · rename_i hx
      obtain ⟨j, hj, rfl⟩ := zbj_of hx
      have h9 := (F.E.2.2.2.2.2.2.2.2.1.1 j hj).2.2.2
      rw [show 101 + j - 101 = j by omega] at hP
      obtain ⟨hi, hP⟩ := hP
      exact va_tb F.x F.b h9 hS hi rfl hd (h _ _ _ _ _ hP ls H locs hL hp hS hz)
    · exact hP.elim
  · exact hP.elim
theorem z_cmpS (F : zFx X p s m args meth c cc nL own ret nm) {k : ZK} {i : Nat} (hd : decode cc pc = .ok (.getstatic i, 3)) (hw : Cond.fieldLink own i "java/lang/String" "COMPACT_STRINGS" "Z" ∈ zG) (h : zOK X p l e R s m args below meth c nL Q cells slots (pc + 3) k) : zOK X p l e R s m args below meth c nL Q cells slots pc (i_cmpS k) := by
  intro L st S I J hP ls H locs hL hp hS hz
  exact va_gets F.x F.b F.E.2.2.2.2.2.2.2.2.2.1 hS F.ow (F.ts _ hw) (fun _ q => q) hd (h _ _ _ _ _ hP ls H locs hL hp hS hz)
theorem z_fmt (F : zFx X p s m args meth c cc nL own ret nm) {k : ZK} {i : Nat} (hd : decode cc pc = .ok (.getstatic i, 3)) (hw : Cond.fieldLink own i "jdk/internal/util/Preconditions" "SIOOBE_FORMATTER" "Ljava/util/function/BiFunction;" ∈ zG) (h : zOK X p l e R s m args below meth c nL Q cells slots (pc + 3) k) : zOK X p l e R s m args below meth c nL Q cells slots pc (i_fmt k) := by
  intro L st S I J hP ls H locs hL hp hS hz
  rcases F.E.2.2.2.2.2.2.2.2.2.2 with q | q
  · exact va_gets F.x F.b q hS F.ow (F.ts _ hw) (fun _ q => q) hd (h _ _ _ _ _ hP.2 ls H locs hL hp hS hz)
  · exact va_gets F.x F.b q hS F.ow (F.ts _ hw) (fun _ q => q) hd (h _ _ _ _ _ hP.1 ls H locs hL hp hS hz)
/-- a char's or byte's return -/
def i_cret (t : FieldType) (q : ZQi) : ZK := fun _ st S I J => match st with
  | [.int x] => narrow t (.int x) = .int x ∧ q S I J x
  | _ => False
theorem z_cret {t : FieldType} (F : zFx X p s m args meth c cc nL own (some t) nm) {q : ZQ} (hd : decode cc pc = .ok (.ireturn, 1)) : zOK X p l e R s m args below meth c nL (MQ below (zQc X q) args s cells slots (zA X)) cells slots pc (i_cret t (fun S I J x => q S I J (some (.int x)))) := by
  intro L st S I J hP ls H locs hL hp hS hz
  simp only [i_cret] at hP
  split at hP
  · obtain ⟨hb, hP⟩ := hP
    exact W.zret F.x F.b F.r hb (fun t ht hW => ⟨⟨_, S, I, J, rfl, hP, zW_end F hp hS hz ht hW⟩, hS.F ht⟩) hS.2.2 hd F.lk
  · exact hP.elim
/-- a call on a String constant -/
def i_callE (n : Nat) (T : ZT) (k : ZK) : ZK := fun L st S I J => match st.drop n with
  | .retAddr a :: r => match zcat r && zsj a with
    | true => T (.retAddr a :: (st.take n).reverse) S I J (fun S' I' J' v => k L (v.toList ++ r) S' I' J')
    | false => False
  | _ => False
theorem z_callE (F : zFx X p s m args meth c cc nL own ret nm) {k : ZK} {y : MethodName} {bytes : ByteArray} {maxL n i mc ms : Nat} {rt : Option FieldType} {rm : Room} {T : ZT} (hd : decode cc pc = .ok (.invokevirtual i, 3)) (hsp : zSp l y bytes maxL rt rm mc ms T) (hcode : Cond.code y bytes maxL rt ∈ zG) (hini : Cond.initialized y.cls ∈ zG) (hw : Cond.methodLink own i y ∈ zG) (hin : Cond.instanceMethod y ∈ zG) (hsel : Cond.selects "java/lang/String" y y ∈ zG) (hy : y.cls ≠ "java/lang/invoke/MethodHandle" ∧ y.cls ≠ "java/lang/invoke/VarHandle" ∧ (parseMethodDescriptor y.desc).map (fun d => d.parameters.length) = some n) (hrm : rm.cells = mc ∧ rm.slots = ms) (hR : rm.frames + 1 ≤ R.frames ∧ 8 + (maxL + 11) + rm.locals ≤ R.locals) (hf : cells + mc ≤ R.cells ∧ slots + ms ≤ R.slots) (h : zOK X p l e R s m args below meth c nL Q (cells + mc) (slots + ms) (pc + 3) k) : zOK X p l e R s m args below meth c nL Q cells slots pc (i_callE n T k) := by
  intro L st S I J hP ls H locs hL hp hS hz
  simp only [i_callE] at hP
  split at hP
  · rename_i a r hdr
    split at hP
    · rename_i hct
      simp only [Bool.and_eq_true] at hct
      obtain ⟨hct, hk⟩ := hct
      obtain ⟨j, hj, hx⟩ := zsj_of hk
      have hrcv := vk_recv F.E.2.2.2.2.2.2.2.2.1 hj hS
      have hle : n ≤ st.length := by
        rcases Nat.lt_or_ge st.length n with q | q
        · rw [List.drop_eq_nil_of_le (Nat.le_of_lt q)] at hdr; cases hdr
        · exact q
      have hst : st.map (zc X) = ((st.take n).reverse.map (zc X)).reverse ++ .ref (X.2.2.2 (1 + j)) :: r.map (zc X) := by
        rw [ztk (X := X) (Nat.ble_eq_true_of_le hle), hdr, ← hx]; rfl
      have hPre := zpre F (As := .retAddr a :: (st.take n).reverse) hp hS hz
      rw [hx] at hP hPre
      refine zcallW (mc := mc) (ms := ms) (q := fun S' I' J' v => k L (v.toList ++ r) S' I' J') (a := (Value.ref (X.2.2.2 (1 + j)) :: (st.take n).reverse.map (zc X)).toArray) (rest := r.map (zc X)) ?_ hS (fun v S' I' J' H1 locs1 hq hp1 hS1 hz1 => ?_)
      · exact va_runV (C := "java/lang/String") (n := n) ⟨F.x, F.b, F.ml, F.ow, F.ts⟩ (hsp X _ S I J _ hP) ⟨callB_of n F.ts (zgc hcode) rfl hrm.1 hrm.2 (F.ts _ hini) (F.ts _ hw) hy hR, F.ts _ hin, F.ts _ hsel⟩ ⟨hPre.1, hrcv, hPre.2⟩ rfl (ztkl hle) hL.1 hst (zroomW hct rfl) hd hf
      · rw [zop]
        exact h _ _ _ _ _ hq ls H1 locs1 hL hp1 hS1 hz1
    · exact hP.elim
  · exact hP.elim

end ZU
theorem zdfA {X : ZC} {ts : List Nat} {k t N : Nat} {ty : FieldType} (h : ts[k]? = some t) (hv : defaultValue ty = match t with | 0 => Value.int 0 | 1 => Value.long 0 | _ => Value.null) : defaultValue ty = vp_V (zfs X (List.replicate N none) (fun _ => 0) (fun _ => 0) ts) k := by
  rw [hv, vp_V, List.getD_eq_getElem?_getD, zfs_at h, Option.getD_some]
  have e : (List.replicate N (none : Option Nat)).getD k none = none := by
    rw [List.getD_eq_getElem?_getD, List.getElem?_replicate]
    split <;> rfl
  unfold zfv
  rw [e]
  match t with
  | 0 => rfl
  | 1 => rfl
  | t + 2 => rfl
theorem zdf0 {X : ZC} : ∀ j, j < 0 → defaultValue (tyX0 j) = vp_V (zfs X (List.replicate 0 none) (fun _ => 0) (fun _ => 0) (zft 0)) j := fun j hj => absurd hj (Nat.not_lt_zero j)
theorem zdf1 {X : ZC} : ∀ j, j < 0 → defaultValue (tyX1 j) = vp_V (zfs X (List.replicate 0 none) (fun _ => 0) (fun _ => 0) (zft 1)) j := fun j hj => absurd hj (Nat.not_lt_zero j)
theorem zdf2 {X : ZC} : ∀ j, j < 0 → defaultValue (tyX2 j) = vp_V (zfs X (List.replicate 0 none) (fun _ => 0) (fun _ => 0) (zft 2)) j := fun j hj => absurd hj (Nat.not_lt_zero j)
theorem zdf3 {X : ZC} : ∀ j, j < 0 → defaultValue (tyX3 j) = vp_V (zfs X (List.replicate 0 none) (fun _ => 0) (fun _ => 0) (zft 3)) j := fun j hj => absurd hj (Nat.not_lt_zero j)
theorem zdf4 {X : ZC} : ∀ j, j < 5 → defaultValue (tyX4 j) = vp_V (zfs X (List.replicate 5 none) (fun _ => 0) (fun _ => 0) (zft 4)) j
  | 0, _ => zdfA (t := 2) rfl rfl
  | 1, _ => zdfA (t := 0) rfl rfl
  | 2, _ => zdfA (t := 0) rfl rfl
  | 3, _ => zdfA (t := 0) rfl rfl
  | 4, _ => zdfA (t := 0) rfl rfl
  | j + 5, h => absurd h (by omega)
theorem zdf5 {X : ZC} : ∀ j, j < 4 → defaultValue (tyX5 j) = vp_V (zfs X (List.replicate 4 none) (fun _ => 0) (fun _ => 0) (zft 5)) j
  | 0, _ => zdfA (t := 0) rfl rfl
  | 1, _ => zdfA (t := 0) rfl rfl
  | 2, _ => zdfA (t := 2) rfl rfl
  | 3, _ => zdfA (t := 2) rfl rfl
  | j + 4, h => absurd h (by omega)
theorem zdf6 {X : ZC} : ∀ j, j < 0 → defaultValue (tyX6 j) = vp_V (zfs X (List.replicate 0 none) (fun _ => 0) (fun _ => 0) (zft 6)) j := fun j hj => absurd hj (Nat.not_lt_zero j)
theorem zdf7 {X : ZC} : ∀ j, j < 0 → defaultValue (tyX7 j) = vp_V (zfs X (List.replicate 0 none) (fun _ => 0) (fun _ => 0) (zft 7)) j := fun j hj => absurd hj (Nat.not_lt_zero j)
theorem zdf8 {X : ZC} : ∀ j, j < 8 → defaultValue (tyX8 j) = vp_V (zfs X (List.replicate 8 none) (fun _ => 0) (fun _ => 0) (zft 8)) j
  | 0, _ => zdfA (t := 0) rfl rfl
  | 1, _ => zdfA (t := 0) rfl rfl
  | 2, _ => zdfA (t := 0) rfl rfl
  | 3, _ => zdfA (t := 0) rfl rfl
  | 4, _ => zdfA (t := 0) rfl rfl
  | 5, _ => zdfA (t := 2) rfl rfl
  | 6, _ => zdfA (t := 2) rfl rfl
  | 7, _ => zdfA (t := 2) rfl rfl
  | j + 8, h => absurd h (by omega)
theorem zdf9 {X : ZC} : ∀ j, j < 3 → defaultValue (tyX9 j) = vp_V (zfs X (List.replicate 3 none) (fun _ => 0) (fun _ => 0) (zft 9)) j
  | 0, _ => zdfA (t := 2) rfl rfl
  | 1, _ => zdfA (t := 2) rfl rfl
  | 2, _ => zdfA (t := 2) rfl rfl
  | j + 3, h => absurd h (by omega)
theorem zdf10 {X : ZC} : ∀ j, j < 10 → defaultValue (tyX10 j) = vp_V (zfs X (List.replicate 10 none) (fun _ => 0) (fun _ => 0) (zft 10)) j
  | 0, _ => zdfA (t := 2) rfl rfl
  | 1, _ => zdfA (t := 2) rfl rfl
  | 2, _ => zdfA (t := 0) rfl rfl
  | 3, _ => zdfA (t := 2) rfl rfl
  | 4, _ => zdfA (t := 2) rfl rfl
  | 5, _ => zdfA (t := 0) rfl rfl
  | 6, _ => zdfA (t := 2) rfl rfl
  | 7, _ => zdfA (t := 2) rfl rfl
  | 8, _ => zdfA (t := 2) rfl rfl
  | 9, _ => zdfA (t := 2) rfl rfl
  | j + 10, h => absurd h (by omega)
theorem zdf11 {X : ZC} : ∀ j, j < 13 → defaultValue (tyX11 j) = vp_V (zfs X (List.replicate 13 none) (fun _ => 0) (fun _ => 0) (zft 11)) j
  | 0, _ => zdfA (t := 2) rfl rfl
  | 1, _ => zdfA (t := 2) rfl rfl
  | 2, _ => zdfA (t := 2) rfl rfl
  | 3, _ => zdfA (t := 2) rfl rfl
  | 4, _ => zdfA (t := 2) rfl rfl
  | 5, _ => zdfA (t := 2) rfl rfl
  | 6, _ => zdfA (t := 2) rfl rfl
  | 7, _ => zdfA (t := 2) rfl rfl
  | 8, _ => zdfA (t := 1) rfl rfl
  | 9, _ => zdfA (t := 1) rfl rfl
  | 10, _ => zdfA (t := 0) rfl rfl
  | 11, _ => zdfA (t := 0) rfl rfl
  | 12, _ => zdfA (t := 0) rfl rfl
  | j + 13, h => absurd h (by omega)
theorem zdf12 {X : ZC} : ∀ j, j < 22 → defaultValue (tyX12 j) = vp_V (zfs X (List.replicate 22 none) (fun _ => 0) (fun _ => 0) (zft 12)) j
  | 0, _ => zdfA (t := 2) rfl rfl
  | 1, _ => zdfA (t := 2) rfl rfl
  | 2, _ => zdfA (t := 2) rfl rfl
  | 3, _ => zdfA (t := 2) rfl rfl
  | 4, _ => zdfA (t := 1) rfl rfl
  | 5, _ => zdfA (t := 1) rfl rfl
  | 6, _ => zdfA (t := 2) rfl rfl
  | 7, _ => zdfA (t := 0) rfl rfl
  | 8, _ => zdfA (t := 0) rfl rfl
  | 9, _ => zdfA (t := 0) rfl rfl
  | 10, _ => zdfA (t := 2) rfl rfl
  | 11, _ => zdfA (t := 2) rfl rfl
  | 12, _ => zdfA (t := 2) rfl rfl
  | 13, _ => zdfA (t := 2) rfl rfl
  | 14, _ => zdfA (t := 2) rfl rfl
  | 15, _ => zdfA (t := 0) rfl rfl
  | 16, _ => zdfA (t := 0) rfl rfl
  | 17, _ => zdfA (t := 0) rfl rfl
  | 18, _ => zdfA (t := 0) rfl rfl
  | 19, _ => zdfA (t := 0) rfl rfl
  | 20, _ => zdfA (t := 2) rfl rfl
  | 21, _ => zdfA (t := 2) rfl rfl
  | j + 22, h => absurd h (by omega)
