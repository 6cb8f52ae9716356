section ZP
variable {X : ZC} {p : Program} {l : Launch} {e : Env} {R : Room} {s : State} {m : MethodId} {args : Array Value} {below : List Frame} {meth : Method} {c : Code} {nL : Nat} {Q : State → Prop} {cells slots pc : Nat} {cc : ByteArray} {own nm : String} {ret : Option FieldType}
theorem zW_sz {H : Heap} {locs : List Loc} {g : JFrame} (h : H.size = s.heap.size → W p l e R s m args below meth c H locs 0 slots Q g) : W p l e R s m args below meth c H locs 0 slots Q g := by
  intro T hT K
  have h1 : s.heap.size ≤ T.heap.size := K.same.2.1
  have h2 : T.heap.size ≤ s.heap.size + 0 := K.same.2.2.1
  exact h (by rw [← hT]; omega) T hT K
/-! static int array -/
def i_tens (k : ZK) : ZK := fun L st S I J => k L (.retAddr 0 :: st) S I J
theorem z_tens (F : zFx X p s m args meth c cc nL "SmallCrown" ret nm) {k : ZK} {i : Nat} (hd : decode cc pc = .ok (.getstatic i, 3)) (hw : Cond.fieldLink "SmallCrown" i "SmallCrown" "TENS" "[I" ∈ zG) (h : zOK X p l e R s m args below meth c nL Q cells slots (pc + 3) k) : zOK X p l e R s m args below meth c nL Q cells slots pc (i_tens k) := by
  intro L st S I J hP ls H locs hL hp hS hz
  exact va_gets F.x F.b F.E.1 hS F.ow (F.ts _ hw) (fun _ q => q) hd (h _ _ _ _ _ hP ls H locs hL hp hS hz)
/-! Math.min, Math.max -/
def zcat (r : List Value) : Bool := Nat.ble ((r.map Value.category).sum) 8
def i_mmin (k : ZK) : ZK := fun L st S I J => match st with
  | .int y :: .int x :: r => match zcat r with
    | true => k L (.int (if y < x then y else x) :: r) S I J
    | false => False
  | _ => False
def i_mmax (k : ZK) : ZK := fun L st S I J => match st with
  | .int y :: .int x :: r => match zcat r with
    | true => k L (.int (if x < y then y else x) :: r) S I J
    | false => False
  | _ => False
theorem zcat_of {r : List Value} (h : zcat r = true) : ((r.map (zc X)).map fun v => v.category).sum ≤ 8 := by
  have e : (r.map (zc X)).map (fun v => v.category) = r.map Value.category := by
    rw [List.map_map]
    exact List.map_congr_left (fun v _ => zc_cat X v)
  rw [e]
  exact Nat.le_of_ble_eq_true h

theorem z_mmin (F : zFx X p s m args meth c cc nL own ret nm) {k : ZK} {i : Nat} (hd : decode cc pc = .ok (.invokestatic i, 3)) (hw : Cond.methodLink own i Lib.Math.min.name ∈ zG) (hs : Cond.static Lib.Math.min.name ∈ zG) (hi : Cond.initialized "java/lang/Math" ∈ zG) (hc : Cond.code Lib.Math.min.name Lib.Math.min.code 2 (some .int) ∈ zG) (hf : 1 ≤ R.frames) (hlo : 21 ≤ R.locals) (hce : cells ≤ R.cells) (hsl : slots ≤ R.slots) (h : zOK X p l e R s m args below meth c nL Q cells slots (pc + 3) k) : zOK X p l e R s m args below meth c nL Q cells slots pc (i_mmin k) := by
  intro L st S I J hP ls H locs hL hp hS hz
  simp only [i_mmin] at hP
  split at hP
  · split at hP
    · rename_i hr
      have hr := zcat_of (X := X) hr
      exact va_mmin F.x F.b (F.ml.trans hL.1.symm) F.ow (F.ts _ hw) (F.ts _ hs) (F.ts _ hi) (F.ts _ hc) hf (by omega) hce hsl hd (h _ _ _ _ _ hP ls H locs hL hp hS hz)
    · exact hP.elim
  · exact hP.elim
theorem z_mmax (F : zFx X p s m args meth c cc nL own ret nm) {k : ZK} {i : Nat} (hd : decode cc pc = .ok (.invokestatic i, 3)) (hw : Cond.methodLink own i Lib.Math.max.name ∈ zG) (hs : Cond.static Lib.Math.max.name ∈ zG) (hi : Cond.initialized "java/lang/Math" ∈ zG) (hc : Cond.code Lib.Math.max.name Lib.Math.max.code 2 (some .int) ∈ zG) (hf : 1 ≤ R.frames) (hlo : 21 ≤ R.locals) (hce : cells ≤ R.cells) (hsl : slots ≤ R.slots) (h : zOK X p l e R s m args below meth c nL Q cells slots (pc + 3) k) : zOK X p l e R s m args below meth c nL Q cells slots pc (i_mmax k) := by
  intro L st S I J hP ls H locs hL hp hS hz
  simp only [i_mmax] at hP
  split at hP
  · split at hP
    · rename_i hr
      have hr := zcat_of (X := X) hr
      exact va_mmax F.x F.b (F.ml.trans hL.1.symm) F.ow (F.ts _ hw) (F.ts _ hs) (F.ts _ hi) (F.ts _ hc) hf (by omega) hce hsl hd (h _ _ _ _ _ hP ls H locs hL hp hS hz)
    · exact hP.elim
  · exact hP.elim
/-! System.arraycopy of ints -/
def zcp (I : ZI) (a b : Nat) (sp dp n : Nat) : ZI := fun x g => if x = b then va_cpy (I a) (I b) sp dp n g else I x g
theorem zcp_at (I : ZI) (a b sp dp n : Nat) : zcp I a b sp dp n b = va_cpy (I a) (I b) sp dp n := by funext g; simp [zcp]
theorem zcp_ne (I : ZI) {a b x : Nat} (sp dp n : Nat) (h : x ≠ b) : zcp I a b sp dp n x = I x := by funext g; simp [zcp, h]
def i_copyi (k : ZK) : ZK := fun L st S I J => match st with
  | .int n :: .int dp :: .ref b :: .int sp :: .ref a :: r => match zcat r && (zk S a 13 && zk S b 13) with
    | true => (¬ sp < 0 ∧ ¬ dp < 0 ∧ ¬ n < 0 ∧ sp.toNatClampNeg + n.toNatClampNeg ≤ zln S a ∧ dp.toNatClampNeg + n.toNatClampNeg ≤ zln S b) ∧ k L r S (zcp I a b sp.toNatClampNeg dp.toNatClampNeg n.toNatClampNeg) J
    | false => False
  | _ => False
theorem z_copyi (F : zFx X p s m args meth c cc nL own ret nm) {k : ZK} {i : Nat} (hd : decode cc pc = .ok (.invokestatic i, 3)) (hw : Cond.methodLink own i arraycopyName ∈ zG) (hn : Cond.native arraycopyName ∈ zG) (hs : Cond.static arraycopyName ∈ zG) (hi : Cond.initialized "java/lang/System" ∈ zG) (hf : 1 ≤ R.frames) (hlo : 8 + (nativeFrameWords "java/lang/System" "arraycopy" 5 + 11) ≤ R.locals) (h : zOK X p l e R s m args below meth c nL Q 0 slots (pc + 3) k) : zOK X p l e R s m args below meth c nL Q 0 slots pc (i_copyi k) := by
  intro L st S I J hP ls H locs hL hp hS hz
  simp only [i_copyi] at hP
  split at hP
  · split at hP
    · rename_i hr0
      simp only [Bool.and_eq_true] at hr0
      have hr := zcat_of (X := X) hr0.1
      obtain ⟨⟨b1, b2, b3, b4, b5⟩, hP⟩ := hP
      obtain ⟨d, h1, h2, h3, h4⟩ := zarI (X := X) I J (zk_kd hr0.2.1)
      obtain ⟨d', h1', h2', h3', h4'⟩ := zarI (X := X) I J (zk_kd hr0.2.2)
      refine zW_sz (fun hsz => ?_)
      refine va_copyi F.x F.b (F.ml.trans hL.1.symm) F.ow (F.ts _ hw) (F.ts _ hn) (F.ts _ hs) (F.ts _ hi) F.K hp (zD X S I J) hS _ _ 0 0 h4 h4' rfl rfl rfl b1 b2 b3 (by rw [← h3]; exact b4) (by rw [← h3']; exact b5) (fun _ _ => rfl) hf (by omega) hd (fun H1 locs1 hp1 _ hS1 => ?_)
      refine zW_sz (fun hsz1 => ?_)
      refine h _ _ _ _ _ hP ls H1 locs1 hL ?_ hS1 (by rw [hsz1, ← hsz, hz])
      rw [← zws_set (X := X) (S := S) (I := I) (J := J) rfl (fun _ _ => rfl) h1' (fun i hi => zcp_ne I _ _ _ hi) (fun _ _ => rfl)]
      simpa [zel, h2', zcp_at] using hp1
    · exact hP.elim
  · exact hP.elim
/-! Object's constructor -/
def i_obj (k : ZK) : ZK := fun L st S I J => match st with
  | .ref _ :: r => match zcat r with
    | true => k L r S I J
    | false => False
  | _ => False
theorem z_obj (F : zFx X p s m args meth c cc nL own ret nm) {k : ZK} {i : Nat} (hd : decode cc pc = .ok (.invokespecial i, 3)) (hw : Cond.methodLink own i objectInit ∈ zG) (hn : Cond.instanceMethod objectInit ∈ zG) (hs : Cond.code objectInit ⟨#[0xb1]⟩ 1 none ∈ zG) (hf : 1 ≤ R.frames) (hlo : 20 ≤ R.locals) (h : zOK X p l e R s m args below meth c nL Q cells slots (pc + 3) k) : zOK X p l e R s m args below meth c nL Q cells slots pc (i_obj k) := by
  intro L st S I J hP ls H locs hL hp hS hz
  simp only [i_obj] at hP
  split at hP
  · split at hP
    · rename_i hr
      have hr := zcat_of (X := X) hr
      exact W.objInit F.x F.b F.ow (F.ts _ hw) (F.ts _ hn) (F.ts _ hs) rfl (by rw [F.ml]; exact hL.1) rfl hd hf (by show 2 * 0 + _ + 12 ≤ _; omega) (h _ _ _ _ _ hP ls H locs hL hp hS hz)
    · exact hP.elim
  · exact hP.elim
/-! making objects and arrays -/
def i_new (ci N : Nat) (k : ZK) : ZK := fun L st S I J => k L (.ref S.length :: st) (S ++ [(ci, 0, List.replicate N none)]) (zcI I S.length) (zcJ J S.length)
def i_newa (kd n : Nat) (k : ZK) : ZK := fun L st S I J => match st with
  | .int x :: r => x = nI n ∧ k L (.ref S.length :: r) (S ++ [(kd, n, [])]) (zcI I S.length) (zcJ J S.length)
  | _ => False
def i_anew (kd n : Nat) (k : ZK) : ZK := fun L st S I J => match st with
  | .int x :: r => x = nI n ∧ k L (.ref S.length :: r) (S ++ [(kd, n, List.replicate n none)]) (zcI I S.length) (zcJ J S.length)
  | _ => False
theorem zcI_at (I : ZI) (a : Nat) : zcI I a a = fun _ => 0 := by funext g; simp [zcI]
theorem zcJ_at (J : ZJ) (a : Nat) : zcJ J a a = fun _ => 0 := by funext g; simp [zcJ]
theorem zcI_ne (I : ZI) {a x : Nat} (h : x ≠ a) : zcI I a x = I x := by funext g; simp [zcI, h]
theorem zcJ_ne (J : ZJ) {a x : Nat} (h : x ≠ a) : zcJ J a x = J x := by funext g; simp [zcJ, h]
theorem zmade {S : ZS} {I : ZI} {J : ZJ} {d : Nat × Nat × List (Option Nat)} {H H1 : Heap} {locs : List Loc} (hz : H.size = zB X + S.length) (hp : va_P X.1 vwCl (zws X S I J) H) (hS : va_S (zA X) s.heap H locs) (z1 : H1.size = H.size + 1) (o1 : ∀ q, q < H.size → H1[q]? = H[q]?) (hat : va_at X.1 vwCl (zB X + S.length, zel X (fun _ => 0) (fun _ => 0) d) H1) :
    va_P X.1 vwCl (zws X (S ++ [d]) (zcI I S.length) (zcJ J S.length)) H1 ∧ va_S (zA X) s.heap H1 locs ∧ H1.size = zB X + (S ++ [d]).length := by
  refine ⟨?_, ⟨Nat.le_trans hS.1 (by omega), fun x h1 h2 => (o1 x (Nat.lt_of_lt_of_le h1 hS.1)).trans (hS.2.1 x h1 h2), hS.2.2⟩, by rw [z1, hz, List.length_append]; rfl⟩
  rw [← zws_push (X := X) (S := S) (I := I) (J := J) (fun i hi => zcI_ne I hi) (fun i hi => zcJ_ne J hi)]
  refine (hp.kept (fun k x hx => o1 x.1 ((hp k x hx).lt))).app (fun k x hx => ?_)
  have hk : k < 1 := (List.getElem?_eq_some_iff.mp hx).1
  rw [show k = 0 by omega] at hx
  cases hx
  rw [zcI_at, zcJ_at]
  exact hat
theorem z_new (F : zFx X p s m args meth c cc nL own ret nm) {k : ZK} {C : String} {T : u_T} {N ci i : Nat} (ty : Nat → FieldType) (hty : ∀ k, k < N → parseFieldDescriptor (T k).2.2.1 = some (ty k)) (hd : decode cc pc = .ok (.new i, 3)) (hc : vwCl[ci]? = some (C, T, N)) (hin : ∀ w ∈ u_ws C T N, w ∈ zG) (hcl : Cond.classLink own i C ∈ zG) (hinst : Cond.instantiable C N ∈ zG) (hini : Cond.initialized C ∈ zG) (hdf : ∀ j, j < N → defaultValue (ty j) = vp_V (zfs X (List.replicate N none) (fun _ => 0) (fun _ => 0) (zft ci)) j) (hce : cells + 1 ≤ R.cells) (hsl : slots + N ≤ R.slots) (h : zOK X p l e R s m args below meth c nL Q (cells + 1) (slots + N) (pc + 3) k) : zOK X p l e R s m args below meth c nL Q cells slots pc (i_new ci N k) := by
  intro L st S I J hP ls H locs hL hp hS hz
  have hKn := F.K.1 ci _ hc
  refine W.newcK F.x F.b F.ow (F.ts _ hcl) (F.ts _ hinst) (F.ts _ hini) rfl hd hce hsl hKn.2.1 rfl fun H1 kC hkC e1 z1 o1 => ?_
  obtain ⟨g1, g2, g3⟩ := zmade (d := (ci, 0, List.replicate N none)) hz hp hS z1 o1 (by
    rw [zel_obj (zcl_lt hc), ← hz]
    exact ⟨_, hc, (u_born ty F.ts hin hKn hkC e1 hty).to hdf⟩)
  rw [hz]
  exact h _ _ _ _ _ hP ls H1 locs hL g1 g2 g3
theorem z_newI (F : zFx X p s m args meth c cc nL own ret nm) {k : ZK} {n : Nat} (hd : decode cc pc = .ok (.newarray .int, 2)) (hw : Cond.arrayClass .int ∈ zG) (hn : n < 100000) (hce : cells + 1 ≤ R.cells) (hsl : slots + n ≤ R.slots) (h : zOK X p l e R s m args below meth c nL Q (cells + 1) (slots + n) (pc + 2) k) : zOK X p l e R s m args below meth c nL Q cells slots pc (i_newa 13 n k) := by
  intro L st S I J hP ls H locs hL hp hS hz
  simp only [i_newa] at hP
  split at hP
  · obtain ⟨hx, hP⟩ := hP
    subst hx
    refine va_newaK (atype := .int) F.x F.b (F.ts _ hw) rfl hd rfl (nI_pos (by omega)) (nI_clamp (by omega)) (by show n * 4 ≤ _; omega) hce hsl rfl fun H1 cA e1 z1 o1 hAr hNm => ?_
    have hcA : cA = X.2.1.1 := Option.some.inj (hNm.symm.trans (F.K.2 0 _ rfl).2)
    subst hcA
    obtain ⟨g1, g2, g3⟩ := zmade (d := (13, n, [])) hz hp hS z1 o1 (by
      rw [← hz]
      show H1[H.size]? = some (vp_cell _ _)
      rw [vp_cell_i]
      exact e1)
    rw [hz]
    exact h _ _ _ _ _ hP ls H1 locs hL g1 g2 g3
  · exact hP.elim
theorem z_newJ (F : zFx X p s m args meth c cc nL own ret nm) {k : ZK} {n : Nat} (hd : decode cc pc = .ok (.newarray .long, 2)) (hw : Cond.arrayClass .long ∈ zG) (hn : n < 100000) (hce : cells + 1 ≤ R.cells) (hsl : slots + n ≤ R.slots) (h : zOK X p l e R s m args below meth c nL Q (cells + 1) (slots + n) (pc + 2) k) : zOK X p l e R s m args below meth c nL Q cells slots pc (i_newa 14 n k) := by
  intro L st S I J hP ls H locs hL hp hS hz
  simp only [i_newa] at hP
  split at hP
  · obtain ⟨hx, hP⟩ := hP
    subst hx
    refine va_newaK (atype := .long) F.x F.b (F.ts _ hw) rfl hd rfl (nI_pos (by omega)) (nI_clamp (by omega)) (by show n * 8 ≤ _; omega) hce hsl rfl fun H1 cA e1 z1 o1 hAr hNm => ?_
    have hcA : cA = X.2.1.2.1 := Option.some.inj (hNm.symm.trans (F.K.2 1 _ rfl).2)
    subst hcA
    obtain ⟨g1, g2, g3⟩ := zmade (d := (14, n, [])) hz hp hS z1 o1 (by
      rw [← hz]
      show H1[H.size]? = some (vp_cell _ _)
      rw [vp_cell_l]
      exact e1)
    rw [hz]
    exact h _ _ _ _ _ hP ls H1 locs hL g1 g2 g3
  · exact hP.elim
theorem z_newZ (F : zFx X p s m args meth c cc nL own ret nm) {k : ZK} {n : Nat} (hd : decode cc pc = .ok (.newarray .boolean, 2)) (hw : Cond.arrayClass .boolean ∈ zG) (hn : n < 100000) (hce : cells + 1 ≤ R.cells) (hsl : slots + n ≤ R.slots) (h : zOK X p l e R s m args below meth c nL Q (cells + 1) (slots + n) (pc + 2) k) : zOK X p l e R s m args below meth c nL Q cells slots pc (i_newa 15 n k) := by
  intro L st S I J hP ls H locs hL hp hS hz
  simp only [i_newa] at hP
  split at hP
  · obtain ⟨hx, hP⟩ := hP
    subst hx
    refine va_newaK (atype := .boolean) F.x F.b (F.ts _ hw) rfl hd rfl (nI_pos (by omega)) (nI_clamp (by omega)) (by show n * 1 ≤ _; omega) hce hsl rfl fun H1 cA e1 z1 o1 hAr hNm => ?_
    have hcA : cA = X.2.1.2.2.1 := Option.some.inj (hNm.symm.trans (F.K.2 2 _ rfl).2)
    subst hcA
    obtain ⟨g1, g2, g3⟩ := zmade (d := (15, n, [])) hz hp hS z1 o1 (by
      rw [← hz]
      show H1[H.size]? = some (vp_cell _ _)
      rw [vp_cell_i]
      exact e1)
    rw [hz]
    exact h _ _ _ _ _ hP ls H1 locs hL g1 g2 g3
  · exact hP.elim

theorem z_anew16 (F : zFx X p s m args meth c cc nL own ret nm) {k : ZK} {n i : Nat} (hd : decode cc pc = .ok (.anewarray i, 3)) (hcl : Cond.classLink own i "SmallCrown$Plain" ∈ zG) (hn : n < 100000) (hce : cells + 1 ≤ R.cells) (hsl : slots + n ≤ R.slots) (h : zOK X p l e R s m args below meth c nL Q (cells + 1) (slots + n) (pc + 3) k) : zOK X p l e R s m args below meth c nL Q cells slots pc (i_anew 16 n k) := by
  intro L st S I J hP ls H locs hL hp hS hz
  simp only [i_anew] at hP
  split at hP
  · obtain ⟨hx, hP⟩ := hP
    subst hx
    refine W.anew F.x F.b F.ow (F.ts _ hcl) (va_AO.use F.E.2.2.2.2.2.1) rfl hd rfl (nI_pos (by omega)) (by rw [nI_clamp (by omega)]; omega) hce (by rw [nI_clamp (by omega)]; exact hsl) fun cA kA comp f1 f2 f3 f4 => ?_
    rw [nI_clamp (by omega)]
    have hcA : cA = X.2.1.2.2.2.1 := by
      obtain ⟨kA', comp', -, -, -, h4⟩ := (F.K.2 3 _ rfl).2
      exact Option.some.inj (f1.symm.trans h4)
    subst hcA
    obtain ⟨g1, g2, g3⟩ := zmade (H1 := H.push ({ cls := X.2.1.2.2.2.1, slots := Array.replicate n .null, vm := .none } : Cell)) (d := (16, n, List.replicate n none)) hz hp hS (by rw [Array.size_push]) (fun q hq => by rw [Array.getElem?_push, if_neg (Nat.ne_of_lt hq)]) (by
      rw [← hz]
      rw [show zel X (fun _ => 0) (fun _ => 0) (16, n, List.replicate n none) = .inl (X.2.1.2.2.2.1, n, .inr (.inr (.inr (.inr (fun _ => none))))) by
        have e9 : (fun k => Option.map (zB X + ·) ((List.replicate n (none : Option Nat)).getD k none)) = fun _ => none := by
          funext k
          simp [List.getD, List.getElem?_replicate]
          split <;> rfl
        show (if _ then _ else if _ then _ else if _ then _ else if _ then _ else if _ then _ else _ : va_E) = _
        simp only [e9]
        simp]
      show _ = some (vp_cell _ _)
      rw [vp_cell_q, Array.getElem?_push_size, arrV_new]
      rfl)
    rw [hz]
    exact h _ _ _ _ _ hP ls _ locs hL g1 g2 g3
  · exact hP.elim
theorem z_anew17 (F : zFx X p s m args meth c cc nL own ret nm) {k : ZK} {n i : Nat} (hd : decode cc pc = .ok (.anewarray i, 3)) (hcl : Cond.classLink own i "SmallCrown$World" ∈ zG) (hn : n < 100000) (hce : cells + 1 ≤ R.cells) (hsl : slots + n ≤ R.slots) (h : zOK X p l e R s m args below meth c nL Q (cells + 1) (slots + n) (pc + 3) k) : zOK X p l e R s m args below meth c nL Q cells slots pc (i_anew 17 n k) := by
  intro L st S I J hP ls H locs hL hp hS hz
  simp only [i_anew] at hP
  split at hP
  · obtain ⟨hx, hP⟩ := hP
    subst hx
    refine W.anew F.x F.b F.ow (F.ts _ hcl) (va_AO.use F.E.2.2.2.2.2.2.1) rfl hd rfl (nI_pos (by omega)) (by rw [nI_clamp (by omega)]; omega) hce (by rw [nI_clamp (by omega)]; exact hsl) fun cA kA comp f1 f2 f3 f4 => ?_
    rw [nI_clamp (by omega)]
    have hcA : cA = X.2.1.2.2.2.2 := by
      obtain ⟨kA', comp', -, -, -, h4⟩ := (F.K.2 4 _ rfl).2
      exact Option.some.inj (f1.symm.trans h4)
    subst hcA
    obtain ⟨g1, g2, g3⟩ := zmade (H1 := H.push ({ cls := X.2.1.2.2.2.2, slots := Array.replicate n .null, vm := .none } : Cell)) (d := (17, n, List.replicate n none)) hz hp hS (by rw [Array.size_push]) (fun q hq => by rw [Array.getElem?_push, if_neg (Nat.ne_of_lt hq)]) (by
      rw [← hz]
      rw [show zel X (fun _ => 0) (fun _ => 0) (17, n, List.replicate n none) = .inl (X.2.1.2.2.2.2, n, .inr (.inr (.inr (.inr (fun _ => none))))) by
        have e9 : (fun k => Option.map (zB X + ·) ((List.replicate n (none : Option Nat)).getD k none)) = fun _ => none := by
          funext k
          simp [List.getD, List.getElem?_replicate]
          split <;> rfl
        show (if _ then _ else if _ then _ else if _ then _ else if _ then _ else if _ then _ else _ : va_E) = _
        simp only [e9]
        simp]
      show _ = some (vp_cell _ _)
      rw [vp_cell_q, Array.getElem?_push_size, arrV_new]
      rfl)
    rw [hz]
    exact h _ _ _ _ _ hP ls _ locs hL g1 g2 g3
  · exact hP.elim
end ZP
