/-! ===== what is outside: static arrays, nest links, String constants ===== -/
def zTens : List Int32 := [1, 10, 100, 1000, 10000, 100000, 1000000, 10000000, 100000000]
def zlenS : List Nat := [4, 6, 4, 4, 4, 4, 4]
def zbytS : List (List Int32) := [[114, 111, 97, 100], [99, 111, 98, 98, 108, 101], [104, 111, 108, 101], [119, 105, 110, 100], [108, 117, 108, 108], [104, 101, 97, 100], [98, 101, 110, 116]]
def zsix : List Nat := [42, 62, 68, 70, 75, 77, 82]
def zstx : List String := ["road", "cobble", "hole", "wind", "lull", "head", "bent"]
def zE (X : ZC) (U : State) : Prop :=
  va_Z "SmallCrown" "TENS" "[I" (.ref (X.2.2.2 0)) (zA X) U U.heap ∧ va_T .int (X.2.2.2 0) 9 (fun j => .int (zTens.getD j 0)) (zA X) U U.heap ∧
  (∀ t ∈ znM, va_Nw (.methodLinkNest t.1 t.2.1 t.2.2.1 t.2.2.2) U) ∧ (∀ t ∈ znF, va_Nw (.fieldLinkNest t.1 t.2.1 t.2.2.1 t.2.2.2.1 t.2.2.2.2.1 t.2.2.2.2.2) U) ∧ (∀ t ∈ znC, va_Nw (.castable t.1 t.2) U) ∧
  va_AO "SmallCrown$Plain" U ∧ va_AO "SmallCrown$World" U ∧
  (∀ i : Nat, i < 7 → vk_R RX4 (zsix.getD i 0) (zstx.getD i "") (X.2.2.2 (1 + i)) U) ∧ vk_S 7 zlenS zbytS (fun i => X.2.2.2 (1 + i)) (fun i => X.2.2.2 (101 + i)) (zA X) U U.heap ∧
  va_Z "java/lang/String" "COMPACT_STRINGS" "Z" (.int 1) (zA X) U U.heap ∧
  (va_Z "jdk/internal/util/Preconditions" "SIOOBE_FORMATTER" "Ljava/util/function/BiFunction;" .null (zA X) U U.heap ∨ va_Z "jdk/internal/util/Preconditions" "SIOOBE_FORMATTER" "Ljava/util/function/BiFunction;" (.ref (X.2.2.2 200)) (zA X) U U.heap)
theorem zE_move {X : ZC} {s U : State} {H : Heap} {locs : List Loc} (h : zE X s) (hS : va_S (zA X) s.heap H locs) (hU : U.heap = H) (hW : s.WarmedH U.vm) : zE X U := by
  subst hU
  obtain ⟨h1, h2, h3, h4, h5, h6, h7, h8, h9, h10, h11⟩ := h
  exact ⟨(h1.kept hS.2.1).moved hW.alike, (h2.kept hS.2.1).moved hW.alike, fun t ht => (h3 t ht).warmM hW, fun t ht => (h4 t ht).warmF hW, fun t ht => (h5 t ht).warmC hW, h6.moved hW.alike, h7.moved hW.alike, fun i hi => (h8 i hi).warm hW, (h9.kept hS.2.1).moved hW.alike, (h10.kept hS.2.1).moved hW.alike, h11.imp (fun q => (q.kept hS.2.1).moved hW.alike) (fun q => (q.kept hS.2.1).moved hW.alike)⟩
theorem zE_same {X : ZC} {u U : State} (h : zE X u) (hh : U.heap = u.heap) (hv : u.vm = U.vm) : zE X U := by
  have ha : u.vm.Alike U.vm := by rw [← hv]; exact Vm.Alike.refl u.vm
  obtain ⟨h1, h2, h3, h4, h5, h6, h7, h8, h9, h10, h11⟩ := h
  rw [zE, hh]
  exact ⟨h1.moved ha, h2.moved ha, fun t ht => (h3 t ht).same rfl hv, fun t ht => (h4 t ht).same rfl hv, fun t ht => (h5 t ht).same rfl hv, h6.moved ha, h7.moved ha, fun i hi => (h8 i hi).same hv.symm, h9.moved ha, h10.moved ha, h11.imp (fun q => q.moved ha) (fun q => q.moved ha)⟩
/-- the world: the heap's picture -/
def zW (X : ZC) (S : ZS) (I : ZI) (J : ZJ) (U : State) : Prop := va_P X.1 vwCl (zws X S I J) U.heap ∧ va_K X.1 vwCl (zty X) U ∧ U.heap.size = zB X + S.length ∧ zE X U
def zQc (X : ZC) (q : ZQ) : Array Value → State → Outcome → State → Prop := fun _ st oc t => (∃ (v : Option Value) (S : ZS) (I : ZI) (J : ZJ), oc = .returned (v.map (zc X)) ∧ q S I J v ∧ zW X S I J t) ∧ va_F (zA X) st t
def zPc (X : ZC) (As : List Value) (S : ZS) (I : ZI) (J : ZJ) : Array Value → State → Prop := va_Pc (As.map (zc X)) (fun U => zW X S I J U)
theorem zPc_blind (X : ZC) (As : List Value) (S : ZS) (I : ZI) (J : ZJ) : FrameBlind (zPc X As S I J) := by
  intro a U g mk h
  obtain ⟨h0, h1, h2, h3, h4⟩ := h
  exact ⟨h0, h1, va_K.moved (u := U) (U := U.calling g mk a) (Vm.Alike.refl U.vm) h2, h3, zE_same h4 rfl rfl⟩
/-- a method keeps the predicate transformer T -/
def zSp (l : Launch) (y : MethodName) (bytes : ByteArray) (nL : Nat) (ret : Option FieldType) (rm : Room) (mc ms : Nat) (T : ZT) : Prop :=
  ∀ (X : ZC) (As : List Value) (S : ZS) (I : ZI) (J : ZJ) (q : ZQ), T As S I J q → Met l y (Cond.code y bytes nL ret :: zG) rm (zPc X As S I J) (zQc X q) mc ms (zA X)
def zFx (X : ZC) (p : Program) (s : State) (m : MethodId) (args : Array Value) (meth : Method) (c : Code) (cc : ByteArray) (nL : Nat) (own : String) (ret : Option FieldType) (nm : String) : Prop :=
  p.tables.exec = Jvm.exec ∧ c.code = cc ∧ c.maxLocals = nL ∧ meth.sig.returnType = ret ∧ s.vm.findClass own = some m.cls ∧ (∀ w ∈ zG, w.before args s = true) ∧ meth.locks = false ∧ meth.name = nm ∧ va_K X.1 vwCl (zty X) s ∧ zE X s ∧ zB X ≤ s.heap.size
section ZE
variable {X : ZC} {p : Program} {l : Launch} {e : Env} {R : Room} {s : State} {m : MethodId} {args : Array Value} {below : List Frame} {meth : Method} {c : Code} {nL : Nat} {Q : State → Prop} {cells slots pc : Nat} {cc : ByteArray} {own nm : String} {ret : Option FieldType}
theorem zFx.x (F : zFx X p s m args meth c cc nL own ret nm) : p.tables.exec = Jvm.exec := F.1
theorem zFx.b (F : zFx X p s m args meth c cc nL own ret nm) : c.code = cc := F.2.1
theorem zFx.ml (F : zFx X p s m args meth c cc nL own ret nm) : c.maxLocals = nL := F.2.2.1
theorem zFx.r (F : zFx X p s m args meth c cc nL own ret nm) : meth.sig.returnType = ret := F.2.2.2.1
theorem zFx.ow (F : zFx X p s m args meth c cc nL own ret nm) : s.vm.findClass own = some m.cls := F.2.2.2.2.1
theorem zFx.ts (F : zFx X p s m args meth c cc nL own ret nm) : ∀ w ∈ zG, w.before args s = true := F.2.2.2.2.2.1
theorem zFx.lk (F : zFx X p s m args meth c cc nL own ret nm) : meth.locks = false := F.2.2.2.2.2.2.1
theorem zFx.me (F : zFx X p s m args meth c cc nL own ret nm) : meth.name = nm := F.2.2.2.2.2.2.2.1
theorem zFx.K (F : zFx X p s m args meth c cc nL own ret nm) : va_K X.1 vwCl (zty X) s := F.2.2.2.2.2.2.2.2.1
theorem zFx.E (F : zFx X p s m args meth c cc nL own ret nm) : zE X s := F.2.2.2.2.2.2.2.2.2.1
theorem zFx.sz (F : zFx X p s m args meth c cc nL own ret nm) : zB X ≤ s.heap.size := F.2.2.2.2.2.2.2.2.2.2
/-- at pc, P is enough -/
def zOK (X : ZC) (p : Program) (l : Launch) (e : Env) (R : Room) (s : State) (m : MethodId) (args : Array Value) (below : List Frame) (meth : Method) (c : Code) (nL : Nat) (Q : State → Prop) (cells slots pc : Nat) (P : ZK) : Prop :=
  ∀ (L : ZL) (st : List Value) (S : ZS) (I : ZI) (J : ZJ), P L st S I J → ∀ (ls : Array Slot) (H : Heap) (locs : List Loc), zLS X nL L ls → va_P X.1 vwCl (zws X S I J) H → va_S (zA X) s.heap H locs → H.size = zB X + S.length → W p l e R s m args below meth c H locs cells slots Q (F0 m pc ls (st.map (zc X)))
theorem zOK.widen {k n : Nat} {P : ZK} (h1 : cells ≤ k) (h2 : slots ≤ n) (h : zOK X p l e R s m args below meth c nL Q k n pc P) : zOK X p l e R s m args below meth c nL Q cells slots pc P :=
  fun L st S I J hP ls H locs hL hp hS hz => W.widen h1 h2 (h L st S I J hP ls H locs hL hp hS hz)
theorem zOK.mono {P P' : ZK} (h : zOK X p l e R s m args below meth c nL Q cells slots pc P) (hi : ∀ L st S I J, P' L st S I J → P L st S I J) : zOK X p l e R s m args below meth c nL Q cells slots pc P' :=
  fun L st S I J hP => h L st S I J (hi L st S I J hP)
/-- a loop: n rounds at most -/
def zit (B : ZK → ZK) : Nat → ZK
  | 0 => fun _ _ _ _ _ => False
  | n + 1 => B (zit B n)
def zIt (B : ZK → ZK) : ZK := fun L st S I J => ∃ n, zit B n L st S I J
theorem z_it {B : ZK → ZK} (h : ∀ k : ZK, zOK X p l e R s m args below meth c nL Q cells slots pc k → zOK X p l e R s m args below meth c nL Q cells slots pc (B k)) : zOK X p l e R s m args below meth c nL Q cells slots pc (zIt B) := by
  have h1 : ∀ n, zOK X p l e R s m args below meth c nL Q cells slots pc (zit B n) := by
    intro n
    induction n with
    | zero => exact fun L st S I J hP => hP.elim
    | succ n ih => exact h _ ih
  intro L st S I J hP
  obtain ⟨n, hn⟩ := hP
  exact h1 n L st S I J hn
def i_keep (b : List Bool) (k : ZK) : ZK := fun L st S I J => k (zkp b L) st S I J
theorem z_keep {b : List Bool} {k : ZK} (h : zOK X p l e R s m args below meth c nL Q cells slots pc k) : zOK X p l e R s m args below meth c nL Q cells slots pc (i_keep b k) :=
  fun L st S I J hP ls H locs hL hp hS hz => h (zkp b L) st S I J hP ls H locs ⟨hL.1, hL.2.1, fun i v hv => hL.2.2 i v (zkp_of hv)⟩ hp hS hz

def i_iadd (k : ZK) : ZK := fun L st S I J => match st with
  | .int y :: .int x :: r => k L (.int (x + y) :: r) S I J
  | _ => False
theorem z_iadd (F : zFx X p s m args meth c cc nL own ret nm) {k : ZK} (hd : decode cc pc = .ok (.iadd, 1)) (h : zOK X p l e R s m args below meth c nL Q cells slots (pc + 1) k) : zOK X p l e R s m args below meth c nL Q cells slots pc (i_iadd k) := by
  intro L st S I J hP ls H locs hL hp hS hz
  simp only [i_iadd] at hP
  split at hP
  · exact lv_iadd F.x F.b hd (h _ _ _ _ _ hP ls H locs hL hp hS hz)
  · exact hP.elim
def i_isub (k : ZK) : ZK := fun L st S I J => match st with
  | .int y :: .int x :: r => k L (.int (x - y) :: r) S I J
  | _ => False
theorem z_isub (F : zFx X p s m args meth c cc nL own ret nm) {k : ZK} (hd : decode cc pc = .ok (.isub, 1)) (h : zOK X p l e R s m args below meth c nL Q cells slots (pc + 1) k) : zOK X p l e R s m args below meth c nL Q cells slots pc (i_isub k) := by
  intro L st S I J hP ls H locs hL hp hS hz
  simp only [i_isub] at hP
  split at hP
  · exact lv_isub F.x F.b hd (h _ _ _ _ _ hP ls H locs hL hp hS hz)
  · exact hP.elim
def i_imul (k : ZK) : ZK := fun L st S I J => match st with
  | .int y :: .int x :: r => k L (.int (x * y) :: r) S I J
  | _ => False
theorem z_imul (F : zFx X p s m args meth c cc nL own ret nm) {k : ZK} (hd : decode cc pc = .ok (.imul, 1)) (h : zOK X p l e R s m args below meth c nL Q cells slots (pc + 1) k) : zOK X p l e R s m args below meth c nL Q cells slots pc (i_imul k) := by
  intro L st S I J hP ls H locs hL hp hS hz
  simp only [i_imul] at hP
  split at hP
  · exact lv_imul F.x F.b hd (h _ _ _ _ _ hP ls H locs hL hp hS hz)
  · exact hP.elim
def i_iand (k : ZK) : ZK := fun L st S I J => match st with
  | .int y :: .int x :: r => k L (.int (x &&& y) :: r) S I J
  | _ => False
theorem z_iand (F : zFx X p s m args meth c cc nL own ret nm) {k : ZK} (hd : decode cc pc = .ok (.iand, 1)) (h : zOK X p l e R s m args below meth c nL Q cells slots (pc + 1) k) : zOK X p l e R s m args below meth c nL Q cells slots pc (i_iand k) := by
  intro L st S I J hP ls H locs hL hp hS hz
  simp only [i_iand] at hP
  split at hP
  · exact lv_iand F.x F.b hd (h _ _ _ _ _ hP ls H locs hL hp hS hz)
  · exact hP.elim
def i_ior (k : ZK) : ZK := fun L st S I J => match st with
  | .int y :: .int x :: r => k L (.int (x ||| y) :: r) S I J
  | _ => False
theorem z_ior (F : zFx X p s m args meth c cc nL own ret nm) {k : ZK} (hd : decode cc pc = .ok (.ior, 1)) (h : zOK X p l e R s m args below meth c nL Q cells slots (pc + 1) k) : zOK X p l e R s m args below meth c nL Q cells slots pc (i_ior k) := by
  intro L st S I J hP ls H locs hL hp hS hz
  simp only [i_ior] at hP
  split at hP
  · exact lv_ior F.x F.b hd (h _ _ _ _ _ hP ls H locs hL hp hS hz)
  · exact hP.elim
def i_ixor (k : ZK) : ZK := fun L st S I J => match st with
  | .int y :: .int x :: r => k L (.int (x ^^^ y) :: r) S I J
  | _ => False
theorem z_ixor (F : zFx X p s m args meth c cc nL own ret nm) {k : ZK} (hd : decode cc pc = .ok (.ixor, 1)) (h : zOK X p l e R s m args below meth c nL Q cells slots (pc + 1) k) : zOK X p l e R s m args below meth c nL Q cells slots pc (i_ixor k) := by
  intro L st S I J hP ls H locs hL hp hS hz
  simp only [i_ixor] at hP
  split at hP
  · exact lv_ixor F.x F.b hd (h _ _ _ _ _ hP ls H locs hL hp hS hz)
  · exact hP.elim
def i_ishl (k : ZK) : ZK := fun L st S I J => match st with
  | .int y :: .int x :: r => k L (.int (x <<< (y &&& 31)) :: r) S I J
  | _ => False
theorem z_ishl (F : zFx X p s m args meth c cc nL own ret nm) {k : ZK} (hd : decode cc pc = .ok (.ishl, 1)) (h : zOK X p l e R s m args below meth c nL Q cells slots (pc + 1) k) : zOK X p l e R s m args below meth c nL Q cells slots pc (i_ishl k) := by
  intro L st S I J hP ls H locs hL hp hS hz
  simp only [i_ishl] at hP
  split at hP
  · exact lv_ishl F.x F.b hd (h _ _ _ _ _ hP ls H locs hL hp hS hz)
  · exact hP.elim
def i_ishr (k : ZK) : ZK := fun L st S I J => match st with
  | .int y :: .int x :: r => k L (.int (x >>> (y &&& 31)) :: r) S I J
  | _ => False
theorem z_ishr (F : zFx X p s m args meth c cc nL own ret nm) {k : ZK} (hd : decode cc pc = .ok (.ishr, 1)) (h : zOK X p l e R s m args below meth c nL Q cells slots (pc + 1) k) : zOK X p l e R s m args below meth c nL Q cells slots pc (i_ishr k) := by
  intro L st S I J hP ls H locs hL hp hS hz
  simp only [i_ishr] at hP
  split at hP
  · exact lv_ishr F.x F.b hd (h _ _ _ _ _ hP ls H locs hL hp hS hz)
  · exact hP.elim
def i_ladd (k : ZK) : ZK := fun L st S I J => match st with
  | .long y :: .long x :: r => k L (.long (x + y) :: r) S I J
  | _ => False
theorem z_ladd (F : zFx X p s m args meth c cc nL own ret nm) {k : ZK} (hd : decode cc pc = .ok (.ladd, 1)) (h : zOK X p l e R s m args below meth c nL Q cells slots (pc + 1) k) : zOK X p l e R s m args below meth c nL Q cells slots pc (i_ladd k) := by
  intro L st S I J hP ls H locs hL hp hS hz
  simp only [i_ladd] at hP
  split at hP
  · exact lv_ladd F.x F.b hd (h _ _ _ _ _ hP ls H locs hL hp hS hz)
  · exact hP.elim
def i_lsub (k : ZK) : ZK := fun L st S I J => match st with
  | .long y :: .long x :: r => k L (.long (x - y) :: r) S I J
  | _ => False
theorem z_lsub (F : zFx X p s m args meth c cc nL own ret nm) {k : ZK} (hd : decode cc pc = .ok (.lsub, 1)) (h : zOK X p l e R s m args below meth c nL Q cells slots (pc + 1) k) : zOK X p l e R s m args below meth c nL Q cells slots pc (i_lsub k) := by
  intro L st S I J hP ls H locs hL hp hS hz
  simp only [i_lsub] at hP
  split at hP
  · exact lv_lsub F.x F.b hd (h _ _ _ _ _ hP ls H locs hL hp hS hz)
  · exact hP.elim
def i_lmul (k : ZK) : ZK := fun L st S I J => match st with
  | .long y :: .long x :: r => k L (.long (x * y) :: r) S I J
  | _ => False
theorem z_lmul (F : zFx X p s m args meth c cc nL own ret nm) {k : ZK} (hd : decode cc pc = .ok (.lmul, 1)) (h : zOK X p l e R s m args below meth c nL Q cells slots (pc + 1) k) : zOK X p l e R s m args below meth c nL Q cells slots pc (i_lmul k) := by
  intro L st S I J hP ls H locs hL hp hS hz
  simp only [i_lmul] at hP
  split at hP
  · exact lv_lmul F.x F.b hd (h _ _ _ _ _ hP ls H locs hL hp hS hz)
  · exact hP.elim
def i_idiv (k : ZK) : ZK := fun L st S I J => match st with
  | .int y :: .int x :: r => (¬ y = 0) ∧ k L (.int (x / y) :: r) S I J
  | _ => False
theorem z_idiv (F : zFx X p s m args meth c cc nL own ret nm) {k : ZK} (hd : decode cc pc = .ok (.idiv, 1)) (h : zOK X p l e R s m args below meth c nL Q cells slots (pc + 1) k) : zOK X p l e R s m args below meth c nL Q cells slots pc (i_idiv k) := by
  intro L st S I J hP ls H locs hL hp hS hz
  simp only [i_idiv] at hP
  split at hP
  · obtain ⟨hne, hP⟩ := hP
    exact lv_idiv F.x F.b hd hne (h _ _ _ _ _ hP ls H locs hL hp hS hz)
  · exact hP.elim
def i_irem (k : ZK) : ZK := fun L st S I J => match st with
  | .int y :: .int x :: r => (¬ y = 0) ∧ k L (.int (x - x / y * y) :: r) S I J
  | _ => False
theorem z_irem (F : zFx X p s m args meth c cc nL own ret nm) {k : ZK} (hd : decode cc pc = .ok (.irem, 1)) (h : zOK X p l e R s m args below meth c nL Q cells slots (pc + 1) k) : zOK X p l e R s m args below meth c nL Q cells slots pc (i_irem k) := by
  intro L st S I J hP ls H locs hL hp hS hz
  simp only [i_irem] at hP
  split at hP
  · obtain ⟨hne, hP⟩ := hP
    exact lv_irem F.x F.b hd hne (h _ _ _ _ _ hP ls H locs hL hp hS hz)
  · exact hP.elim
def i_ldiv (k : ZK) : ZK := fun L st S I J => match st with
  | .long y :: .long x :: r => (¬ y = 0) ∧ k L (.long (x / y) :: r) S I J
  | _ => False
theorem z_ldiv (F : zFx X p s m args meth c cc nL own ret nm) {k : ZK} (hd : decode cc pc = .ok (.ldiv, 1)) (h : zOK X p l e R s m args below meth c nL Q cells slots (pc + 1) k) : zOK X p l e R s m args below meth c nL Q cells slots pc (i_ldiv k) := by
  intro L st S I J hP ls H locs hL hp hS hz
  simp only [i_ldiv] at hP
  split at hP
  · obtain ⟨hne, hP⟩ := hP
    exact lv_ldiv F.x F.b hd hne (h _ _ _ _ _ hP ls H locs hL hp hS hz)
  · exact hP.elim
def i_lrem (k : ZK) : ZK := fun L st S I J => match st with
  | .long y :: .long x :: r => (¬ y = 0) ∧ k L (.long (x - x / y * y) :: r) S I J
  | _ => False
theorem z_lrem (F : zFx X p s m args meth c cc nL own ret nm) {k : ZK} (hd : decode cc pc = .ok (.lrem, 1)) (h : zOK X p l e R s m args below meth c nL Q cells slots (pc + 1) k) : zOK X p l e R s m args below meth c nL Q cells slots pc (i_lrem k) := by
  intro L st S I J hP ls H locs hL hp hS hz
  simp only [i_lrem] at hP
  split at hP
  · obtain ⟨hne, hP⟩ := hP
    exact lv_lrem F.x F.b hd hne (h _ _ _ _ _ hP ls H locs hL hp hS hz)
  · exact hP.elim
def i_ineg (k : ZK) : ZK := fun L st S I J => match st with
  | .int x :: r => k L (.int (-x) :: r) S I J
  | _ => False
theorem z_ineg (F : zFx X p s m args meth c cc nL own ret nm) {k : ZK} (hd : decode cc pc = .ok (.ineg, 1)) (h : zOK X p l e R s m args below meth c nL Q cells slots (pc + 1) k) : zOK X p l e R s m args below meth c nL Q cells slots pc (i_ineg k) := by
  intro L st S I J hP ls H locs hL hp hS hz
  simp only [i_ineg] at hP
  split at hP
  · exact lv_ineg F.x F.b hd (h _ _ _ _ _ hP ls H locs hL hp hS hz)
  · exact hP.elim
def i_i2l (k : ZK) : ZK := fun L st S I J => match st with
  | .int x :: r => k L (.long x.toInt64 :: r) S I J
  | _ => False
theorem z_i2l (F : zFx X p s m args meth c cc nL own ret nm) {k : ZK} (hd : decode cc pc = .ok (.i2l, 1)) (h : zOK X p l e R s m args below meth c nL Q cells slots (pc + 1) k) : zOK X p l e R s m args below meth c nL Q cells slots pc (i_i2l k) := by
  intro L st S I J hP ls H locs hL hp hS hz
  simp only [i_i2l] at hP
  split at hP
  · exact lv_i2l F.x F.b hd rfl (h _ _ _ _ _ hP ls H locs hL hp hS hz)
  · exact hP.elim
def i_l2i (k : ZK) : ZK := fun L st S I J => match st with
  | .long x :: r => k L (.int x.toInt32 :: r) S I J
  | _ => False
theorem z_l2i (F : zFx X p s m args meth c cc nL own ret nm) {k : ZK} (hd : decode cc pc = .ok (.l2i, 1)) (h : zOK X p l e R s m args below meth c nL Q cells slots (pc + 1) k) : zOK X p l e R s m args below meth c nL Q cells slots pc (i_l2i k) := by
  intro L st S I J hP ls H locs hL hp hS hz
  simp only [i_l2i] at hP
  split at hP
  · exact lv_l2i F.x F.b hd rfl (h _ _ _ _ _ hP ls H locs hL hp hS hz)
  · exact hP.elim
def i_i2c (k : ZK) : ZK := fun L st S I J => match st with
  | .int x :: r => k L (.int (x.toUInt32 % 65536).toInt32 :: r) S I J
  | _ => False
theorem z_i2c (F : zFx X p s m args meth c cc nL own ret nm) {k : ZK} (hd : decode cc pc = .ok (.i2c, 1)) (h : zOK X p l e R s m args below meth c nL Q cells slots (pc + 1) k) : zOK X p l e R s m args below meth c nL Q cells slots pc (i_i2c k) := by
  intro L st S I J hP ls H locs hL hp hS hz
  simp only [i_i2c] at hP
  split at hP
  · exact lv_i2c F.x F.b hd rfl (h _ _ _ _ _ hP ls H locs hL hp hS hz)
  · exact hP.elim
def i_lcmp (k : ZK) : ZK := fun L st S I J => match st with
  | .long y :: .long x :: r => k L (.int (lg_cmp x y) :: r) S I J
  | _ => False
theorem z_lcmp (F : zFx X p s m args meth c cc nL own ret nm) {k : ZK} (hd : decode cc pc = .ok (.lcmp, 1)) (h : zOK X p l e R s m args below meth c nL Q cells slots (pc + 1) k) : zOK X p l e R s m args below meth c nL Q cells slots pc (i_lcmp k) := by
  intro L st S I J hP ls H locs hL hp hS hz
  simp only [i_lcmp] at hP
  split at hP
  · exact W.lcmp F.x F.b hd (h _ _ _ _ _ hP ls H locs hL hp hS hz)
  · exact hP.elim
def i_push (v : Value) (k : ZK) : ZK := fun L st S I J => k L (v :: st) S I J
theorem z_iconst (F : zFx X p s m args meth c cc nL own ret nm) {k : ZK} {n : Int} {v : Int32} (hd : decode cc pc = .ok (.iconst n, 1)) (hv : Int32.ofInt n = v) (h : zOK X p l e R s m args below meth c nL Q cells slots (pc + 1) k) : zOK X p l e R s m args below meth c nL Q cells slots pc (i_push (.int v) k) := by
  intro L st S I J hP ls H locs hL hp hS hz
  exact lv_iconst F.x F.b hd hv (h _ _ _ _ _ hP ls H locs hL hp hS hz)
theorem z_bipush (F : zFx X p s m args meth c cc nL own ret nm) {k : ZK} {n : Int} {v : Int32} (hd : decode cc pc = .ok (.bipush n, 2)) (hv : (Int8.ofInt n).toInt32 = v) (h : zOK X p l e R s m args below meth c nL Q cells slots (pc + 2) k) : zOK X p l e R s m args below meth c nL Q cells slots pc (i_push (.int v) k) := by
  intro L st S I J hP ls H locs hL hp hS hz
  exact lv_bipush F.x F.b hd hv (h _ _ _ _ _ hP ls H locs hL hp hS hz)
theorem z_sipush (F : zFx X p s m args meth c cc nL own ret nm) {k : ZK} {n : Int} {v : Int32} (hd : decode cc pc = .ok (.sipush n, 3)) (hv : (Int16.ofInt n).toInt32 = v) (h : zOK X p l e R s m args below meth c nL Q cells slots (pc + 3) k) : zOK X p l e R s m args below meth c nL Q cells slots pc (i_push (.int v) k) := by
  intro L st S I J hP ls H locs hL hp hS hz
  exact lv_sipush F.x F.b hd hv (h _ _ _ _ _ hP ls H locs hL hp hS hz)
theorem z_lconst (F : zFx X p s m args meth c cc nL own ret nm) {k : ZK} {n : Fin 2} {v : Int64} (hd : decode cc pc = .ok (.lconst n, 1)) (hv : Int64.ofNat (n : Nat) = v) (h : zOK X p l e R s m args below meth c nL Q cells slots (pc + 1) k) : zOK X p l e R s m args below meth c nL Q cells slots pc (i_push (.long v) k) := by
  intro L st S I J hP ls H locs hL hp hS hz
  exact lv_lconst F.x F.b hd hv (h _ _ _ _ _ hP ls H locs hL hp hS hz)
theorem z_ldc (F : zFx X p s m args meth c cc nL own ret nm) {k : ZK} {i : Nat} {v : Int32} (hd : decode cc pc = .ok (.ldc i, 2)) (hw : Cond.constant own i v ∈ zG) (h : zOK X p l e R s m args below meth c nL Q cells slots (pc + 2) k) : zOK X p l e R s m args below meth c nL Q cells slots pc (i_push (.int v) k) := by
  intro L st S I J hP ls H locs hL hp hS hz
  exact lv_ldc F.x F.b F.ow (F.ts _ hw) hd (h _ _ _ _ _ hP ls H locs hL hp hS hz)
theorem z_ldcw (F : zFx X p s m args meth c cc nL own ret nm) {k : ZK} {i : Nat} {v : Int32} (hd : decode cc pc = .ok (.ldc_w i, 3)) (hw : Cond.constant own i v ∈ zG) (h : zOK X p l e R s m args below meth c nL Q cells slots (pc + 3) k) : zOK X p l e R s m args below meth c nL Q cells slots pc (i_push (.int v) k) := by
  intro L st S I J hP ls H locs hL hp hS hz
  exact lv_ldcw F.x F.b F.ow (F.ts _ hw) hd (h _ _ _ _ _ hP ls H locs hL hp hS hz)
theorem z_ldc2 (F : zFx X p s m args meth c cc nL own ret nm) {k : ZK} {i : Nat} {v : Int64} (hd : decode cc pc = .ok (.ldc2_w i, 3)) (hw : Cond.constantLong own i v ∈ zG) (h : zOK X p l e R s m args below meth c nL Q cells slots (pc + 3) k) : zOK X p l e R s m args below meth c nL Q cells slots pc (i_push (.long v) k) := by
  intro L st S I J hP ls H locs hL hp hS hz
  exact lv_ldc2 F.x F.b F.ow (F.ts _ hw) hd (h _ _ _ _ _ hP ls H locs hL hp hS hz)
def i_ild (i : Nat) (k : ZK) : ZK := fun L st S I J => match L[i]? with
  | some (some (.int x)) => k L (.int x :: st) S I J
  | _ => False
theorem z_iload_n (F : zFx X p s m args meth c cc nL own ret nm) {k : ZK} {n : Fin 4} {i : Nat} (hd : decode cc pc = .ok (.iload_n n, 1)) (hi : (n : Nat) = i) (h : zOK X p l e R s m args below meth c nL Q cells slots (pc + 1) k) : zOK X p l e R s m args below meth c nL Q cells slots pc (i_ild i k) := by
  intro L st S I J hP ls H locs hL hp hS hz
  simp only [i_ild] at hP
  split at hP
  · rename_i hx
    exact lv_iload_n F.x F.b hd hi (hL.2.2 _ _ hx) (h _ _ _ _ _ hP ls H locs hL hp hS hz)
  · exact hP.elim
theorem z_iload (F : zFx X p s m args meth c cc nL own ret nm) {k : ZK} {i : Nat} (hd : decode cc pc = .ok (.iload i, 2)) (h : zOK X p l e R s m args below meth c nL Q cells slots (pc + 2) k) : zOK X p l e R s m args below meth c nL Q cells slots pc (i_ild i k) := by
  intro L st S I J hP ls H locs hL hp hS hz
  simp only [i_ild] at hP
  split at hP
  · rename_i hx
    exact lv_iload F.x F.b hd (hL.2.2 _ _ hx) (h _ _ _ _ _ hP ls H locs hL hp hS hz)
  · exact hP.elim
def i_lld (i : Nat) (k : ZK) : ZK := fun L st S I J => match L[i]? with
  | some (some (.long x)) => k L (.long x :: st) S I J
  | _ => False
theorem z_lload_n (F : zFx X p s m args meth c cc nL own ret nm) {k : ZK} {n : Fin 4} {i : Nat} (hd : decode cc pc = .ok (.lload_n n, 1)) (hi : (n : Nat) = i) (h : zOK X p l e R s m args below meth c nL Q cells slots (pc + 1) k) : zOK X p l e R s m args below meth c nL Q cells slots pc (i_lld i k) := by
  intro L st S I J hP ls H locs hL hp hS hz
  simp only [i_lld] at hP
  split at hP
  · rename_i hx
    exact lv_lload_n F.x F.b hd hi (hL.2.2 _ _ hx) (h _ _ _ _ _ hP ls H locs hL hp hS hz)
  · exact hP.elim
theorem z_lload (F : zFx X p s m args meth c cc nL own ret nm) {k : ZK} {i : Nat} (hd : decode cc pc = .ok (.lload i, 2)) (h : zOK X p l e R s m args below meth c nL Q cells slots (pc + 2) k) : zOK X p l e R s m args below meth c nL Q cells slots pc (i_lld i k) := by
  intro L st S I J hP ls H locs hL hp hS hz
  simp only [i_lld] at hP
  split at hP
  · rename_i hx
    exact lv_lload F.x F.b hd (hL.2.2 _ _ hx) (h _ _ _ _ _ hP ls H locs hL hp hS hz)
  · exact hP.elim
def i_ald (i : Nat) (k : ZK) : ZK := fun L st S I J => match L[i]? with
  | some (some (.ref x)) => k L (.ref x :: st) S I J
  | some (some (.retAddr x)) => k L (.retAddr x :: st) S I J
  | some (some .null) => k L (.null :: st) S I J
  | _ => False
theorem z_aload_n (F : zFx X p s m args meth c cc nL own ret nm) {k : ZK} {n : Fin 4} {i : Nat} (hd : decode cc pc = .ok (.aload_n n, 1)) (hi : (n : Nat) = i) (h : zOK X p l e R s m args below meth c nL Q cells slots (pc + 1) k) : zOK X p l e R s m args below meth c nL Q cells slots pc (i_ald i k) := by
  intro L st S I J hP ls H locs hL hp hS hz
  simp only [i_ald] at hP
  split at hP
  · rename_i hx
    exact lv_aload_n F.x F.b hd hi (hL.2.2 _ _ hx) (h _ _ _ _ _ hP ls H locs hL hp hS hz)
  · rename_i hx
    exact lv_aload_n F.x F.b hd hi (hL.2.2 _ _ hx) (h _ _ _ _ _ hP ls H locs hL hp hS hz)
  · rename_i hx
    exact lv_aload_nN F.x F.b hd hi (hL.2.2 _ _ hx) (h _ _ _ _ _ hP ls H locs hL hp hS hz)
  · exact hP.elim
theorem z_aload (F : zFx X p s m args meth c cc nL own ret nm) {k : ZK} {i : Nat} (hd : decode cc pc = .ok (.aload i, 2)) (h : zOK X p l e R s m args below meth c nL Q cells slots (pc + 2) k) : zOK X p l e R s m args below meth c nL Q cells slots pc (i_ald i k) := by
  intro L st S I J hP ls H locs hL hp hS hz
  simp only [i_ald] at hP
  split at hP
  · rename_i hx
    exact lv_aload F.x F.b hd (hL.2.2 _ _ hx) (h _ _ _ _ _ hP ls H locs hL hp hS hz)
  · rename_i hx
    exact lv_aload F.x F.b hd (hL.2.2 _ _ hx) (h _ _ _ _ _ hP ls H locs hL hp hS hz)
  · rename_i hx
    exact lv_aloadN F.x F.b hd (hL.2.2 _ _ hx) (h _ _ _ _ _ hP ls H locs hL hp hS hz)
  · exact hP.elim
def i_ist (i : Nat) (k : ZK) : ZK := fun L st S I J => match st with
  | .int x :: r => k (zs1 L i (.int x)) r S I J
  | _ => False
theorem z_istore_n (F : zFx X p s m args meth c cc nL own ret nm) {k : ZK} {n : Fin 4} {i : Nat} (hd : decode cc pc = .ok (.istore_n n, 1)) (hi : (n : Nat) = i) (hn : i < nL) (h : zOK X p l e R s m args below meth c nL Q cells slots (pc + 1) k) : zOK X p l e R s m args below meth c nL Q cells slots pc (i_ist i k) := by
  intro L st S I J hP ls H locs hL hp hS hz
  simp only [i_ist] at hP
  split at hP
  · exact lv_istore_n F.x F.b hd hi (zLS_has hL) hn rfl (fun ls' hl => (h _ _ _ _ _ hP ls' H locs (zs1_of hl) hp hS hz))
  · exact hP.elim
theorem z_istore (F : zFx X p s m args meth c cc nL own ret nm) {k : ZK} {i : Nat} (hd : decode cc pc = .ok (.istore i, 2)) (hn : i < nL) (h : zOK X p l e R s m args below meth c nL Q cells slots (pc + 2) k) : zOK X p l e R s m args below meth c nL Q cells slots pc (i_ist i k) := by
  intro L st S I J hP ls H locs hL hp hS hz
  simp only [i_ist] at hP
  split at hP
  · exact lv_istore F.x F.b hd (zLS_has hL) hn rfl (fun ls' hl => (h _ _ _ _ _ hP ls' H locs (zs1_of hl) hp hS hz))
  · exact hP.elim
def i_lst (i : Nat) (k : ZK) : ZK := fun L st S I J => match st with
  | .long x :: r => k (zs2 L i (.long x)) r S I J
  | _ => False
theorem z_lstore_n (F : zFx X p s m args meth c cc nL own ret nm) {k : ZK} {n : Fin 4} {i : Nat} (hd : decode cc pc = .ok (.lstore_n n, 1)) (hi : (n : Nat) = i) (hn : i + 1 < nL) (h : zOK X p l e R s m args below meth c nL Q cells slots (pc + 1) k) : zOK X p l e R s m args below meth c nL Q cells slots pc (i_lst i k) := by
  intro L st S I J hP ls H locs hL hp hS hz
  simp only [i_lst] at hP
  split at hP
  · exact lv_lstore_n F.x F.b hd hi (zLS_has hL) hn rfl (fun ls' hl => (h _ _ _ _ _ hP ls' H locs (zs2_of hl) hp hS hz))
  · exact hP.elim
theorem z_lstore (F : zFx X p s m args meth c cc nL own ret nm) {k : ZK} {i : Nat} (hd : decode cc pc = .ok (.lstore i, 2)) (hn : i + 1 < nL) (h : zOK X p l e R s m args below meth c nL Q cells slots (pc + 2) k) : zOK X p l e R s m args below meth c nL Q cells slots pc (i_lst i k) := by
  intro L st S I J hP ls H locs hL hp hS hz
  simp only [i_lst] at hP
  split at hP
  · exact lv_lstore F.x F.b hd (zLS_has hL) hn rfl (fun ls' hl => (h _ _ _ _ _ hP ls' H locs (zs2_of hl) hp hS hz))
  · exact hP.elim
def i_ast (i : Nat) (k : ZK) : ZK := fun L st S I J => match st with
  | .ref x :: r => k (zs1 L i (.ref x)) r S I J
  | .retAddr x :: r => k (zs1 L i (.retAddr x)) r S I J
  | .null :: r => k (zs1 L i .null) r S I J
  | _ => False
theorem z_astore_n (F : zFx X p s m args meth c cc nL own ret nm) {k : ZK} {n : Fin 4} {i : Nat} (hd : decode cc pc = .ok (.astore_n n, 1)) (hi : (n : Nat) = i) (hn : i < nL) (h : zOK X p l e R s m args below meth c nL Q cells slots (pc + 1) k) : zOK X p l e R s m args below meth c nL Q cells slots pc (i_ast i k) := by
  intro L st S I J hP ls H locs hL hp hS hz
  simp only [i_ast] at hP
  split at hP
  · exact lv_astore_n F.x F.b hd hi (zLS_has hL) hn rfl (fun ls' hl => h _ _ _ _ _ hP ls' H locs (zs1_of hl) hp hS hz)
  · exact lv_astore_n F.x F.b hd hi (zLS_has hL) hn rfl (fun ls' hl => h _ _ _ _ _ hP ls' H locs (zs1_of hl) hp hS hz)
  · exact lv_astore_nN F.x F.b hd hi (zLS_has hL) hn rfl (fun ls' hl => h _ _ _ _ _ hP ls' H locs (zs1_of hl) hp hS hz)
  · exact hP.elim
theorem z_astore (F : zFx X p s m args meth c cc nL own ret nm) {k : ZK} {i : Nat} (hd : decode cc pc = .ok (.astore i, 2)) (hn : i < nL) (h : zOK X p l e R s m args below meth c nL Q cells slots (pc + 2) k) : zOK X p l e R s m args below meth c nL Q cells slots pc (i_ast i k) := by
  intro L st S I J hP ls H locs hL hp hS hz
  simp only [i_ast] at hP
  split at hP
  · exact lv_astore F.x F.b hd (zLS_has hL) hn rfl (fun ls' hl => h _ _ _ _ _ hP ls' H locs (zs1_of hl) hp hS hz)
  · exact lv_astore F.x F.b hd (zLS_has hL) hn rfl (fun ls' hl => h _ _ _ _ _ hP ls' H locs (zs1_of hl) hp hS hz)
  · exact lv_astoreN F.x F.b hd (zLS_has hL) hn rfl (fun ls' hl => h _ _ _ _ _ hP ls' H locs (zs1_of hl) hp hS hz)
  · exact hP.elim
def i_iinc (i : Nat) (n : Int32) (k : ZK) : ZK := fun L st S I J => match L[i]? with
  | some (some (.int x)) => k (zs1 L i (.int (x + n))) st S I J
  | _ => False
theorem z_iinc (F : zFx X p s m args meth c cc nL own ret nm) {k : ZK} {i : Nat} {n : Int} {v : Int32} (hd : decode cc pc = .ok (.iinc i n, 3)) (hv : Int32.ofInt n = v) (hn : i < nL) (h : zOK X p l e R s m args below meth c nL Q cells slots (pc + 3) k) : zOK X p l e R s m args below meth c nL Q cells slots pc (i_iinc i v k) := by
  intro L st S I J hP ls H locs hL hp hS hz
  simp only [i_iinc] at hP
  split at hP
  · rename_i x hx
    obtain ⟨kk, hkk⟩ := List.getElem?_of_mem (zas_mem (X := X) (q := (i, .int x)).mpr ⟨_, hx, rfl⟩)
    exact lv_iinc F.x F.b hd (zLS_has hL) hkk (by rw [hv]) hn rfl (fun ls' hl => h _ _ _ _ _ hP ls' H locs (zs1_of (v := .int (x + v)) hl) hp hS hz)
  · exact hP.elim
def i_dup (k : ZK) : ZK := fun L st S I J => match st with
  | .int x :: r => k L (.int x :: .int x :: r) S I J
  | .ref x :: r => k L (.ref x :: .ref x :: r) S I J
  | _ => False
theorem z_dup (F : zFx X p s m args meth c cc nL own ret nm) {k : ZK} (hd : decode cc pc = .ok (.dup, 1)) (h : zOK X p l e R s m args below meth c nL Q cells slots (pc + 1) k) : zOK X p l e R s m args below meth c nL Q cells slots pc (i_dup k) := by
  intro L st S I J hP ls H locs hL hp hS hz
  simp only [i_dup] at hP
  split at hP
  · exact lv_dup F.x F.b hd rfl (h _ _ _ _ _ hP ls H locs hL hp hS hz)
  · exact lv_dup F.x F.b hd rfl (h _ _ _ _ _ hP ls H locs hL hp hS hz)
  · exact hP.elim
def i_dup2 (k : ZK) : ZK := fun L st S I J => match st with
  | .int x :: .ref y :: r => k L (.int x :: .ref y :: .int x :: .ref y :: r) S I J
  | .long x :: r => k L (.long x :: .long x :: r) S I J
  | _ => False
theorem z_dup2 (F : zFx X p s m args meth c cc nL own ret nm) {k : ZK} (hd : decode cc pc = .ok (.dup2, 1)) (h : zOK X p l e R s m args below meth c nL Q cells slots (pc + 1) k) : zOK X p l e R s m args below meth c nL Q cells slots pc (i_dup2 k) := by
  intro L st S I J hP ls H locs hL hp hS hz
  simp only [i_dup2] at hP
  split at hP
  · exact lv_dup2_11 F.x F.b hd rfl rfl (h _ _ _ _ _ hP ls H locs hL hp hS hz)
  · exact lv_dup2_2 F.x F.b hd rfl (h _ _ _ _ _ hP ls H locs hL hp hS hz)
  · exact hP.elim
def i_ifeq (kt kf : ZK) : ZK := fun L st S I J => match st with
  | .int x :: r => (x = 0 → kt L r S I J) ∧ (¬ x = 0 → kf L r S I J)
  | _ => False
theorem z_ifeq (F : zFx X p s m args meth c cc nL own ret nm) {kt kf : ZK} {off : Int} {tgt : Nat} (hd : decode cc pc = .ok (.ifCond .eq off, 3)) (ht : (pc : Int) + off = (tgt : Int)) (h1 : zOK X p l e R s m args below meth c nL Q cells slots tgt kt) (h2 : zOK X p l e R s m args below meth c nL Q cells slots (pc + 3) kf) : zOK X p l e R s m args below meth c nL Q cells slots pc (i_ifeq kt kf) := by
  intro L st S I J hP ls H locs hL hp hS hz
  simp only [i_ifeq] at hP
  split at hP
  · exact lv_if_eq F.x F.b hd ht (fun hc => h1 _ _ _ _ _ (hP.1 hc) ls H locs hL hp hS hz) (fun hc => h2 _ _ _ _ _ (hP.2 hc) ls H locs hL hp hS hz)
  · exact hP.elim
def i_icmpeq (kt kf : ZK) : ZK := fun L st S I J => match st with
  | .int y :: .int x :: r => (x = y → kt L r S I J) ∧ (¬ x = y → kf L r S I J)
  | _ => False
theorem z_icmpeq (F : zFx X p s m args meth c cc nL own ret nm) {kt kf : ZK} {off : Int} {tgt : Nat} (hd : decode cc pc = .ok (.if_icmp .eq off, 3)) (ht : (pc : Int) + off = (tgt : Int)) (h1 : zOK X p l e R s m args below meth c nL Q cells slots tgt kt) (h2 : zOK X p l e R s m args below meth c nL Q cells slots (pc + 3) kf) : zOK X p l e R s m args below meth c nL Q cells slots pc (i_icmpeq kt kf) := by
  intro L st S I J hP ls H locs hL hp hS hz
  simp only [i_icmpeq] at hP
  split at hP
  · exact lv_icmp_eq F.x F.b hd ht (fun hc => h1 _ _ _ _ _ (hP.1 hc) ls H locs hL hp hS hz) (fun hc => h2 _ _ _ _ _ (hP.2 hc) ls H locs hL hp hS hz)
  · exact hP.elim
def i_ifne (kt kf : ZK) : ZK := fun L st S I J => match st with
  | .int x :: r => (¬ x = 0 → kt L r S I J) ∧ (x = 0 → kf L r S I J)
  | _ => False
theorem z_ifne (F : zFx X p s m args meth c cc nL own ret nm) {kt kf : ZK} {off : Int} {tgt : Nat} (hd : decode cc pc = .ok (.ifCond .ne off, 3)) (ht : (pc : Int) + off = (tgt : Int)) (h1 : zOK X p l e R s m args below meth c nL Q cells slots tgt kt) (h2 : zOK X p l e R s m args below meth c nL Q cells slots (pc + 3) kf) : zOK X p l e R s m args below meth c nL Q cells slots pc (i_ifne kt kf) := by
  intro L st S I J hP ls H locs hL hp hS hz
  simp only [i_ifne] at hP
  split at hP
  · exact lv_if_ne F.x F.b hd ht (fun hc => h1 _ _ _ _ _ (hP.1 hc) ls H locs hL hp hS hz) (fun hc => h2 _ _ _ _ _ (hP.2 hc) ls H locs hL hp hS hz)
  · exact hP.elim
def i_icmpne (kt kf : ZK) : ZK := fun L st S I J => match st with
  | .int y :: .int x :: r => (¬ x = y → kt L r S I J) ∧ (x = y → kf L r S I J)
  | _ => False
theorem z_icmpne (F : zFx X p s m args meth c cc nL own ret nm) {kt kf : ZK} {off : Int} {tgt : Nat} (hd : decode cc pc = .ok (.if_icmp .ne off, 3)) (ht : (pc : Int) + off = (tgt : Int)) (h1 : zOK X p l e R s m args below meth c nL Q cells slots tgt kt) (h2 : zOK X p l e R s m args below meth c nL Q cells slots (pc + 3) kf) : zOK X p l e R s m args below meth c nL Q cells slots pc (i_icmpne kt kf) := by
  intro L st S I J hP ls H locs hL hp hS hz
  simp only [i_icmpne] at hP
  split at hP
  · exact lv_icmp_ne F.x F.b hd ht (fun hc => h1 _ _ _ _ _ (hP.1 hc) ls H locs hL hp hS hz) (fun hc => h2 _ _ _ _ _ (hP.2 hc) ls H locs hL hp hS hz)
  · exact hP.elim
def i_iflt (kt kf : ZK) : ZK := fun L st S I J => match st with
  | .int x :: r => (x < 0 → kt L r S I J) ∧ (¬ x < 0 → kf L r S I J)
  | _ => False
theorem z_iflt (F : zFx X p s m args meth c cc nL own ret nm) {kt kf : ZK} {off : Int} {tgt : Nat} (hd : decode cc pc = .ok (.ifCond .lt off, 3)) (ht : (pc : Int) + off = (tgt : Int)) (h1 : zOK X p l e R s m args below meth c nL Q cells slots tgt kt) (h2 : zOK X p l e R s m args below meth c nL Q cells slots (pc + 3) kf) : zOK X p l e R s m args below meth c nL Q cells slots pc (i_iflt kt kf) := by
  intro L st S I J hP ls H locs hL hp hS hz
  simp only [i_iflt] at hP
  split at hP
  · exact lv_if_lt F.x F.b hd ht (fun hc => h1 _ _ _ _ _ (hP.1 hc) ls H locs hL hp hS hz) (fun hc => h2 _ _ _ _ _ (hP.2 hc) ls H locs hL hp hS hz)
  · exact hP.elim
def i_icmplt (kt kf : ZK) : ZK := fun L st S I J => match st with
  | .int y :: .int x :: r => (x < y → kt L r S I J) ∧ (¬ x < y → kf L r S I J)
  | _ => False
theorem z_icmplt (F : zFx X p s m args meth c cc nL own ret nm) {kt kf : ZK} {off : Int} {tgt : Nat} (hd : decode cc pc = .ok (.if_icmp .lt off, 3)) (ht : (pc : Int) + off = (tgt : Int)) (h1 : zOK X p l e R s m args below meth c nL Q cells slots tgt kt) (h2 : zOK X p l e R s m args below meth c nL Q cells slots (pc + 3) kf) : zOK X p l e R s m args below meth c nL Q cells slots pc (i_icmplt kt kf) := by
  intro L st S I J hP ls H locs hL hp hS hz
  simp only [i_icmplt] at hP
  split at hP
  · exact lv_icmp_lt F.x F.b hd ht (fun hc => h1 _ _ _ _ _ (hP.1 hc) ls H locs hL hp hS hz) (fun hc => h2 _ _ _ _ _ (hP.2 hc) ls H locs hL hp hS hz)
  · exact hP.elim
def i_ifge (kt kf : ZK) : ZK := fun L st S I J => match st with
  | .int x :: r => (0 ≤ x → kt L r S I J) ∧ (¬ 0 ≤ x → kf L r S I J)
  | _ => False
theorem z_ifge (F : zFx X p s m args meth c cc nL own ret nm) {kt kf : ZK} {off : Int} {tgt : Nat} (hd : decode cc pc = .ok (.ifCond .ge off, 3)) (ht : (pc : Int) + off = (tgt : Int)) (h1 : zOK X p l e R s m args below meth c nL Q cells slots tgt kt) (h2 : zOK X p l e R s m args below meth c nL Q cells slots (pc + 3) kf) : zOK X p l e R s m args below meth c nL Q cells slots pc (i_ifge kt kf) := by
  intro L st S I J hP ls H locs hL hp hS hz
  simp only [i_ifge] at hP
  split at hP
  · exact lv_if_ge F.x F.b hd ht (fun hc => h1 _ _ _ _ _ (hP.1 hc) ls H locs hL hp hS hz) (fun hc => h2 _ _ _ _ _ (hP.2 hc) ls H locs hL hp hS hz)
  · exact hP.elim
def i_icmpge (kt kf : ZK) : ZK := fun L st S I J => match st with
  | .int y :: .int x :: r => (y ≤ x → kt L r S I J) ∧ (¬ y ≤ x → kf L r S I J)
  | _ => False
theorem z_icmpge (F : zFx X p s m args meth c cc nL own ret nm) {kt kf : ZK} {off : Int} {tgt : Nat} (hd : decode cc pc = .ok (.if_icmp .ge off, 3)) (ht : (pc : Int) + off = (tgt : Int)) (h1 : zOK X p l e R s m args below meth c nL Q cells slots tgt kt) (h2 : zOK X p l e R s m args below meth c nL Q cells slots (pc + 3) kf) : zOK X p l e R s m args below meth c nL Q cells slots pc (i_icmpge kt kf) := by
  intro L st S I J hP ls H locs hL hp hS hz
  simp only [i_icmpge] at hP
  split at hP
  · exact lv_icmp_ge F.x F.b hd ht (fun hc => h1 _ _ _ _ _ (hP.1 hc) ls H locs hL hp hS hz) (fun hc => h2 _ _ _ _ _ (hP.2 hc) ls H locs hL hp hS hz)
  · exact hP.elim
def i_ifgt (kt kf : ZK) : ZK := fun L st S I J => match st with
  | .int x :: r => (0 < x → kt L r S I J) ∧ (¬ 0 < x → kf L r S I J)
  | _ => False
theorem z_ifgt (F : zFx X p s m args meth c cc nL own ret nm) {kt kf : ZK} {off : Int} {tgt : Nat} (hd : decode cc pc = .ok (.ifCond .gt off, 3)) (ht : (pc : Int) + off = (tgt : Int)) (h1 : zOK X p l e R s m args below meth c nL Q cells slots tgt kt) (h2 : zOK X p l e R s m args below meth c nL Q cells slots (pc + 3) kf) : zOK X p l e R s m args below meth c nL Q cells slots pc (i_ifgt kt kf) := by
  intro L st S I J hP ls H locs hL hp hS hz
  simp only [i_ifgt] at hP
  split at hP
  · exact lv_if_gt F.x F.b hd ht (fun hc => h1 _ _ _ _ _ (hP.1 hc) ls H locs hL hp hS hz) (fun hc => h2 _ _ _ _ _ (hP.2 hc) ls H locs hL hp hS hz)
  · exact hP.elim
def i_icmpgt (kt kf : ZK) : ZK := fun L st S I J => match st with
  | .int y :: .int x :: r => (y < x → kt L r S I J) ∧ (¬ y < x → kf L r S I J)
  | _ => False
theorem z_icmpgt (F : zFx X p s m args meth c cc nL own ret nm) {kt kf : ZK} {off : Int} {tgt : Nat} (hd : decode cc pc = .ok (.if_icmp .gt off, 3)) (ht : (pc : Int) + off = (tgt : Int)) (h1 : zOK X p l e R s m args below meth c nL Q cells slots tgt kt) (h2 : zOK X p l e R s m args below meth c nL Q cells slots (pc + 3) kf) : zOK X p l e R s m args below meth c nL Q cells slots pc (i_icmpgt kt kf) := by
  intro L st S I J hP ls H locs hL hp hS hz
  simp only [i_icmpgt] at hP
  split at hP
  · exact lv_icmp_gt F.x F.b hd ht (fun hc => h1 _ _ _ _ _ (hP.1 hc) ls H locs hL hp hS hz) (fun hc => h2 _ _ _ _ _ (hP.2 hc) ls H locs hL hp hS hz)
  · exact hP.elim
def i_ifle (kt kf : ZK) : ZK := fun L st S I J => match st with
  | .int x :: r => (x ≤ 0 → kt L r S I J) ∧ (¬ x ≤ 0 → kf L r S I J)
  | _ => False
theorem z_ifle (F : zFx X p s m args meth c cc nL own ret nm) {kt kf : ZK} {off : Int} {tgt : Nat} (hd : decode cc pc = .ok (.ifCond .le off, 3)) (ht : (pc : Int) + off = (tgt : Int)) (h1 : zOK X p l e R s m args below meth c nL Q cells slots tgt kt) (h2 : zOK X p l e R s m args below meth c nL Q cells slots (pc + 3) kf) : zOK X p l e R s m args below meth c nL Q cells slots pc (i_ifle kt kf) := by
  intro L st S I J hP ls H locs hL hp hS hz
  simp only [i_ifle] at hP
  split at hP
  · exact lv_if_le F.x F.b hd ht (fun hc => h1 _ _ _ _ _ (hP.1 hc) ls H locs hL hp hS hz) (fun hc => h2 _ _ _ _ _ (hP.2 hc) ls H locs hL hp hS hz)
  · exact hP.elim
def i_icmple (kt kf : ZK) : ZK := fun L st S I J => match st with
  | .int y :: .int x :: r => (x ≤ y → kt L r S I J) ∧ (¬ x ≤ y → kf L r S I J)
  | _ => False
theorem z_icmple (F : zFx X p s m args meth c cc nL own ret nm) {kt kf : ZK} {off : Int} {tgt : Nat} (hd : decode cc pc = .ok (.if_icmp .le off, 3)) (ht : (pc : Int) + off = (tgt : Int)) (h1 : zOK X p l e R s m args below meth c nL Q cells slots tgt kt) (h2 : zOK X p l e R s m args below meth c nL Q cells slots (pc + 3) kf) : zOK X p l e R s m args below meth c nL Q cells slots pc (i_icmple kt kf) := by
  intro L st S I J hP ls H locs hL hp hS hz
  simp only [i_icmple] at hP
  split at hP
  · exact lv_icmp_le F.x F.b hd ht (fun hc => h1 _ _ _ _ _ (hP.1 hc) ls H locs hL hp hS hz) (fun hc => h2 _ _ _ _ _ (hP.2 hc) ls H locs hL hp hS hz)
  · exact hP.elim
theorem z_goto (F : zFx X p s m args meth c cc nL own ret nm) {k : ZK} {off : Int} {tgt : Nat} (hd : decode cc pc = .ok (.goto off, 3)) (ht : (pc : Int) + off = (tgt : Int)) (h : zOK X p l e R s m args below meth c nL Q cells slots tgt k) : zOK X p l e R s m args below meth c nL Q cells slots pc k := by
  intro L st S I J hP ls H locs hL hp hS hz
  exact lv_goto F.x F.b hd ht (h _ _ _ _ _ hP ls H locs hL hp hS hz)
def i_ifnonnull (kt kf : ZK) : ZK := fun L st S I J => match st with
  | .ref _ :: r => kt L r S I J
  | .null :: r => kf L r S I J
  | _ => False
theorem z_ifnonnull (F : zFx X p s m args meth c cc nL own ret nm) {kt kf : ZK} {off : Int} {tgt : Nat} (hd : decode cc pc = .ok (.ifnonnull off, 3)) (ht : (pc : Int) + off = (tgt : Int)) (h1 : zOK X p l e R s m args below meth c nL Q cells slots tgt kt) (h2 : zOK X p l e R s m args below meth c nL Q cells slots (pc + 3) kf) : zOK X p l e R s m args below meth c nL Q cells slots pc (i_ifnonnull kt kf) := by
  intro L st S I J hP ls H locs hL hp hS hz
  simp only [i_ifnonnull] at hP
  split at hP
  · exact lv_ifnonnull F.x F.b hd ht (h1 _ _ _ _ _ hP ls H locs hL hp hS hz)
  · exact lv_ifnonnullN F.x F.b hd (h2 _ _ _ _ _ hP ls H locs hL hp hS hz)
  · exact hP.elim
end ZE
