section ZM
variable {X : ZC} {p : Program} {l : Launch} {e : Env} {R : Room} {s : State} {m : MethodId} {args : Array Value} {below : List Frame} {meth : Method} {c : Code} {nL : Nat} {Q : State → Prop} {cells slots pc : Nat} {cc : ByteArray} {own nm : String} {ret : Option FieldType}
theorem zcl_lt {ci : Nat} {q : vw_C} (h : vwCl[ci]? = some q) : ci < 13 := (List.getElem?_eq_some_iff.mp h).1
theorem zel_obj {X : ZC} {I : Nat → Int32} {J : Nat → Int64} {d : Nat × Nat × List (Option Nat)} (h : d.1 < 13) : zel X I J d = .inr (d.1, zfs X d.2.2 I J (zft d.1)) := by
  unfold zel
  rw [if_neg (by omega), if_neg (by omega), if_neg (by omega), if_neg (by omega), if_neg (by omega)]
theorem zfs_at {X : ZC} {rs : List (Option Nat)} {I : Nat → Int32} {J : Nat → Int64} {ts : List Nat} {k t : Nat} (h : ts[k]? = some t) : (zfs X rs I J ts)[k]? = some (zfv X rs I J k t) := by
  simp [zfs, List.getElem?_mapIdx, h]
theorem zobj {X : ZC} {S : ZS} (I : ZI) (J : ZJ) {a ci : Nat} {q : vw_C} (hc : vwCl[ci]? = some q) (h : zkd S a = some ci) : ∃ d, S[a]? = some d ∧ d.1 = ci ∧ (zws X S I J)[a]? = some (zB X + a, .inr (ci, zfs X d.2.2 (I a) (J a) (zft ci))) := by
  obtain ⟨d, h1, h2⟩ := zkd_of h
  refine ⟨d, h1, h2, ?_⟩
  rw [zws_get I J h1, zel_obj (by rw [h2]; exact zcl_lt hc), h2]
theorem zfs_setI {X : ZC} {rs : List (Option Nat)} {I : Nat → Int32} {J : Nat → Int64} {ts : List Nat} {k : Nat} (h : ts[k]? = some 0) (v : Int32) : (zfs X rs I J ts).set k (.int v) = zfs X rs (upd I k v) J ts := by
  apply List.ext_getElem?
  intro i
  rw [List.getElem?_set]
  have hlt := (List.getElem?_eq_some_iff.mp h).1
  by_cases e : k = i
  · subst e
    rw [if_pos rfl, if_pos (by simpa [zfs] using hlt), zfs_at h]
    simp [zfv, upd]
  · rw [if_neg e]
    simp only [zfs, List.getElem?_mapIdx]
    cases ts[i]? with
    | none => rfl
    | some t =>
      simp only [Option.map_some, zfv, upd]
      rw [if_neg (fun q => e q.symm)]
theorem zfs_setJ {X : ZC} {rs : List (Option Nat)} {I : Nat → Int32} {J : Nat → Int64} {ts : List Nat} {k : Nat} (h : ts[k]? = some 1) (v : Int64) : (zfs X rs I J ts).set k (.long v) = zfs X rs I (vp_updL J k v) ts := by
  apply List.ext_getElem?
  intro i
  rw [List.getElem?_set]
  have hlt := (List.getElem?_eq_some_iff.mp h).1
  by_cases e : k = i
  · subst e
    rw [if_pos rfl, if_pos (by simpa [zfs] using hlt), zfs_at h]
    simp [zfv, vp_updL]
  · rw [if_neg e]
    simp only [zfs, List.getElem?_mapIdx]
    cases ts[i]? with
    | none => rfl
    | some t =>
      simp only [Option.map_some, zfv, vp_updL]
      rw [if_neg (fun q => e q.symm)]
theorem zfs_setR {X : ZC} {rs : List (Option Nat)} {I : Nat → Int32} {J : Nat → Int64} {ts : List Nat} {k : Nat} (h : ts[k]? = some 2) (hk : k < rs.length) (r : Option Nat) : (zfs X rs I J ts).set k (va_rf (r.map (zB X + ·))) = zfs X (rs.set k r) I J ts := by
  apply List.ext_getElem?
  intro i
  rw [List.getElem?_set]
  have hlt := (List.getElem?_eq_some_iff.mp h).1
  by_cases e : k = i
  · subst e
    rw [if_pos rfl, if_pos (by simpa [zfs] using hlt), zfs_at h]
    simp [zfv, hk]
  · rw [if_neg e]
    simp only [zfs, List.getElem?_mapIdx]
    cases ts[i]? with
    | none => rfl
    | some t =>
      have : (rs.set k r).getD i none = rs.getD i none := by simp [List.getD, List.getElem?_set, e]
      simp only [Option.map_some, zfv, this]
/-! a store: what the heap is behind it -/
theorem zstored {S S' : ZS} {I I' : ZI} {J J' : ZJ} {a k : Nat} {d' : Nat × Nat × List (Option Nat)} {H H' : Heap} {locs : List Loc} (hz : H.size = zB X + S.length) (hp : va_P X.1 vwCl (zws X S I J) H) (hS : va_S (zA X) s.heap H locs) {d : Nat × Nat × List (Option Nat)} (h1 : S[a]? = some d) (e2 : H'.size = H.size) (e3 : ∀ q, q ≠ zB X + a → H'[q]? = H[q]?) (hat : va_at X.1 vwCl (zB X + a, zel X (I' a) (J' a) d') H') (hl : S'.length = S.length) (hSS : ∀ i, i ≠ a → S'[i]? = S[i]?) (ha : S'[a]? = some d') (hI : ∀ i, i ≠ a → I' i = I i) (hJ : ∀ i, i ≠ a → J' i = J i) :
    va_P X.1 vwCl (zws X S' I' J') H' ∧ va_S (zA X) s.heap H' (locs ++ [⟨zB X + a, k⟩]) ∧ H'.size = zB X + S'.length := by
  refine ⟨?_, hS.put e2 e3 (Nat.le_add_right _ _), by rw [e2, hz, hl]⟩
  rw [← zws_set (X := X) (S := S) (I := I) (J := J) hl hSS ha hI hJ]
  exact hp.set (zD X S I J) (zws_get I J h1) hat e3
theorem zputW (F : zFx X p s m args meth c cc nL own ret nm) {C : String} {T : u_T} {N ci f i : Nat} (ty0 : Nat → FieldType) (hty : ∀ k, k < N → parseFieldDescriptor (T k).2.2.1 = some (ty0 k)) (hnm : ∀ a, a < N → ∀ b, b < N → a ≠ b → (T a).2.1 ≠ (T b).2.1) (hd : decode cc pc = .ok (.putfield i, 3)) (hc : vwCl[ci]? = some (C, T, N)) (hin : ∀ w ∈ u_ws C T N, w ∈ zG) (hf : f < N) (hC : (T f).1 = C)
    (hw : (Cond.fieldLink own i C (T f).2.1 (T f).2.2.1 ∈ zG) ∨ ∃ host, (own, i, C, (T f).2.1, (T f).2.2.1, host) ∈ znF) (hfin : (T f).2.2.2 = false) {ty : FieldType} {v : Value} (hpd : parseFieldDescriptor (T f).2.2.1 = some ty) (hn : narrow ty v = v) (hfit : fits ty v = true)
    {H : Heap} {locs : List Loc} {a : Nat} {fs : List Value} (hat : va_at X.1 vwCl (a, .inr (ci, fs)) H) (hl : f < fs.length) {ls : Array Slot} {rest : List Value}
    (kk : ∀ (H1 : Heap) (k : Nat), va_at X.1 vwCl (a, .inr (ci, fs.set f v)) H1 → H1.size = H.size → (∀ q, q ≠ a → H1[q]? = H[q]?) → W p l e R s m args below meth c H1 (locs ++ [⟨a, k⟩]) cells slots Q (F0 m (pc + 3) ls rest)) : W p l e R s m args below meth c H locs cells slots Q (F0 m pc ls (v :: .ref a :: rest)) := by
  have hap := va_apart (own := own) F.ts hin ty0 hty hnm F.K hc
  obtain ⟨r, h1, cell, q1, q2, q3, q4⟩ := hat
  have hr : r = (C, T, N) := Option.some.inj (h1.symm.trans hc)
  subst hr
  obtain ⟨hS, hfc, kC, hkC, hkind⟩ := F.K.1 ci _ hc
  obtain ⟨cf, kf, fi, fd, hi, hsl⟩ := hS f hf
  have hlay := F.ts _ (hin _ (u_in_lay hf))
  unfold u_lay at hlay
  rw [if_neg (by rw [hfin]; decide)] at hlay
  have hst := (u_facts hfc hkC (u_lays F.ts hin hf) hi).1
  have h6 := u_store hfc hkC hkind hlay hi hpd hn hfit
  have hi' := hi
  rw [hC] at hi'
  rcases hw with hw | ⟨host, hw⟩
  · refine W.putK F.x F.b (f := fd) ⟨F.ow, F.ts _ hw, ⟨_, _, _, hi'⟩, hst⟩ (by rw [q2]; exact h6) q1 q3 (by rw [hsl]; exact k2_hasslot (q4 f hf)) rfl rfl hd fun H' e1 e2 e3 => ?_
    rw [hsl] at e1 ⊢
    exact kk H' _ ⟨_, hc, t_OB.to (V := updV (vp_V fs) f v) ⟨_, e1, q2, q3, t_set q4 hap hf v⟩ (fun j _ => vp_updV_set hl v j)⟩ e2 e3
  · refine va_WputK F.x F.b (f := fd) F.ow ((F.E.2.2.2.1 _ hw).use rfl) hi' hst (by rw [q2]; exact h6) q1 q3 (by rw [hsl]; exact k2_hasslot (q4 f hf)) rfl rfl hd fun H' e1 e2 e3 => ?_
    rw [hsl] at e1 ⊢
    exact kk H' _ ⟨_, hc, t_OB.to (V := updV (vp_V fs) f v) ⟨_, e1, q2, q3, t_set q4 hap hf v⟩ (fun j _ => vp_updV_set hl v j)⟩ e2 e3
theorem zputFW (F : zFx X p s m args meth c cc nL own ret nm) {C : String} {T : u_T} {N ci f i : Nat} (ty0 : Nat → FieldType) (hty : ∀ k, k < N → parseFieldDescriptor (T k).2.2.1 = some (ty0 k)) (hnm : ∀ a, a < N → ∀ b, b < N → a ≠ b → (T a).2.1 ≠ (T b).2.1) (hd : decode cc pc = .ok (.putfield i, 3)) (hc : vwCl[ci]? = some (C, T, N)) (hin : ∀ w ∈ u_ws C T N, w ∈ zG) (hf : f < N) (hC : (T f).1 = C) (hCo : C = own) (hini : nm = "<init>")
    (hw : Cond.fieldLink own i C (T f).2.1 (T f).2.2.1 ∈ zG) (hfin : (T f).2.2.2 = true) {ty : FieldType} {v : Value} (hpd : parseFieldDescriptor (T f).2.2.1 = some ty) (hn : narrow ty v = v) (hfit : fits ty v = true)
    {H : Heap} {locs : List Loc} {a : Nat} {fs : List Value} (hat : va_at X.1 vwCl (a, .inr (ci, fs)) H) (hl : f < fs.length) {ls : Array Slot} {rest : List Value}
    (kk : ∀ (H1 : Heap) (k : Nat), va_at X.1 vwCl (a, .inr (ci, fs.set f v)) H1 → H1.size = H.size → (∀ q, q ≠ a → H1[q]? = H[q]?) → W p l e R s m args below meth c H1 (locs ++ [⟨a, k⟩]) cells slots Q (F0 m (pc + 3) ls rest)) : W p l e R s m args below meth c H locs cells slots Q (F0 m pc ls (v :: .ref a :: rest)) := by
  have hap := va_apart (own := own) F.ts hin ty0 hty hnm F.K hc
  obtain ⟨r, h1, cell, q1, q2, q3, q4⟩ := hat
  have hr : r = (C, T, N) := Option.some.inj (h1.symm.trans hc)
  subst hr
  obtain ⟨hS, hfc, kC, hkC, hkind⟩ := F.K.1 ci _ hc
  obtain ⟨cf, kf, fi, fd, hi, hsl⟩ := hS f hf
  have hlay := F.ts _ (hin _ (u_in_lay hf))
  unfold u_lay at hlay
  rw [if_pos hfin] at hlay
  have hst := (u_facts hfc hkC (u_lays F.ts hin hf) hi).1
  have hcf : m.cls = cf := by
    obtain ⟨_, _, c', _, _, _, -, -, hf', -, -, -, hown2, -⟩ := Cond.laysFinal_spec hlay
    have e1 : c' = cf := by have := hi.symm.trans hf'; simp at this; exact this.1.symm
    rw [hC, hCo] at hown2
    rw [← e1]; exact Option.some.inj (F.ow.symm.trans hown2)
  have h6 := u_fits hfc hkC hkind (Or.inr hlay) hi hpd hn hfit
  have hi' := hi
  rw [hC] at hi'
  refine W.putFinK F.x F.b F.ow (F.ts _ hw) hi' hst hcf (F.me.trans hini) (by rw [q2]; exact h6) q1 q3 (by rw [hsl]; exact k2_hasslot (q4 f hf)) rfl rfl hd fun H' e1 e2 e3 => ?_
  rw [hsl] at e1 ⊢
  exact kk H' _ ⟨_, hc, t_OB.to (V := updV (vp_V fs) f v) ⟨_, e1, q2, q3, t_set q4 hap hf v⟩ (fun j _ => vp_updV_set hl v j)⟩ e2 e3
/-! fields -/
/-- an object of kind ci stands at a -/
def zk (S : ZS) (a ci : Nat) : Bool := match S[a]? with
  | some d => Nat.beq d.1 ci
  | none => false
theorem zk_kd {S : ZS} {a ci : Nat} (h : zk S a ci = true) : zkd S a = some ci := by
  unfold zk at h
  unfold zkd
  split at h
  · rename_i d hd
    rw [hd]
    exact congrArg some (Nat.eq_of_beq_eq_true h)
  · cases h
def zkr (S : ZS) (a ci f : Nat) : Bool := zk S a ci && (zrf S a f).isSome
def zR (S : ZS) (a f : Nat) : Nat := (zrf S a f).getD 0
def i_getI (ci f : Nat) (k : ZK) : ZK := fun L st S I J => match st with
  | .ref a :: r => match zk S a ci with
    | true => k L (.int (I a f) :: r) S I J
    | false => False
  | _ => False
def i_getJ (ci f : Nat) (k : ZK) : ZK := fun L st S I J => match st with
  | .ref a :: r => match zk S a ci with
    | true => k L (.long (J a f) :: r) S I J
    | false => False
  | _ => False
def i_getR (ci f : Nat) (k : ZK) : ZK := fun L st S I J => match st with
  | .ref a :: r => match zkr S a ci f with
    | true => k L (.ref (zR S a f) :: r) S I J
    | false => False
  | _ => False
def i_putI (ci f : Nat) (k : ZK) : ZK := fun L st S I J => match st with
  | .int v :: .ref a :: r => match zk S a ci with
    | true => k L r S (zu I a f v) J
    | false => False
  | _ => False
def i_putJ (ci f : Nat) (k : ZK) : ZK := fun L st S I J => match st with
  | .long v :: .ref a :: r => match zk S a ci with
    | true => k L r S I (zuJ J a f v)
    | false => False
  | _ => False
def i_putR (ci f : Nat) (k : ZK) : ZK := fun L st S I J => match st with
  | .ref b :: .ref a :: r => match zk S a ci && Nat.blt f (S.getD a (0, 0, [])).2.2.length with
    | true => k L r (zsr S a f (some b)) I J
    | false => False
  | _ => False

theorem z_getI (F : zFx X p s m args meth c cc nL own ret nm) {k : ZK} {C : String} {T : u_T} {N ci f i : Nat} (hd : decode cc pc = .ok (.getfield i, 3)) (hc : vwCl[ci]? = some (C, T, N)) (hin : ∀ w ∈ u_ws C T N, w ∈ zG) (hf : f < N) (hC : (T f).1 = C) (hw : Cond.fieldLink own i C (T f).2.1 (T f).2.2.1 ∈ zG) (ht : (zft ci)[f]? = some 0) (h : zOK X p l e R s m args below meth c nL Q cells slots (pc + 3) k) : zOK X p l e R s m args below meth c nL Q cells slots pc (i_getI ci f k) := by
  intro L st S I J hP ls H locs hL hp hS hz
  simp only [i_getI] at hP
  split at hP
  · split at hP
    · rename_i hk
      obtain ⟨d, h1, h2, h3⟩ := zobj (X := X) I J hc (zk_kd hk)
      exact va_get F.x F.b F.ts hin F.ow F.K hp _ h3 hc f hf (F.ts _ hw) (by rw [hC]; exact fun _ q => q) (zfs_at ht) hd (h _ _ _ _ _ hP ls H locs hL hp hS hz)
    · exact hP.elim
  · exact hP.elim
theorem z_getJ (F : zFx X p s m args meth c cc nL own ret nm) {k : ZK} {C : String} {T : u_T} {N ci f i : Nat} (hd : decode cc pc = .ok (.getfield i, 3)) (hc : vwCl[ci]? = some (C, T, N)) (hin : ∀ w ∈ u_ws C T N, w ∈ zG) (hf : f < N) (hC : (T f).1 = C) (hw : Cond.fieldLink own i C (T f).2.1 (T f).2.2.1 ∈ zG) (ht : (zft ci)[f]? = some 1) (h : zOK X p l e R s m args below meth c nL Q cells slots (pc + 3) k) : zOK X p l e R s m args below meth c nL Q cells slots pc (i_getJ ci f k) := by
  intro L st S I J hP ls H locs hL hp hS hz
  simp only [i_getJ] at hP
  split at hP
  · split at hP
    · rename_i hk
      obtain ⟨d, h1, h2, h3⟩ := zobj (X := X) I J hc (zk_kd hk)
      exact va_get F.x F.b F.ts hin F.ow F.K hp _ h3 hc f hf (F.ts _ hw) (by rw [hC]; exact fun _ q => q) (zfs_at ht) hd (h _ _ _ _ _ hP ls H locs hL hp hS hz)
    · exact hP.elim
  · exact hP.elim
theorem z_getR (F : zFx X p s m args meth c cc nL own ret nm) {k : ZK} {C : String} {T : u_T} {N ci f i : Nat} (hd : decode cc pc = .ok (.getfield i, 3)) (hc : vwCl[ci]? = some (C, T, N)) (hin : ∀ w ∈ u_ws C T N, w ∈ zG) (hf : f < N) (hC : (T f).1 = C) (hw : Cond.fieldLink own i C (T f).2.1 (T f).2.2.1 ∈ zG) (ht : (zft ci)[f]? = some 2) (h : zOK X p l e R s m args below meth c nL Q cells slots (pc + 3) k) : zOK X p l e R s m args below meth c nL Q cells slots pc (i_getR ci f k) := by
  intro L st S I J hP ls H locs hL hp hS hz
  simp only [i_getR] at hP
  split at hP
  · split at hP
    · rename_i hk
      simp only [zkr, Bool.and_eq_true] at hk
      obtain ⟨d, h1, h2, h3⟩ := zobj (X := X) I J hc (zk_kd hk.1)
      obtain ⟨b, hb⟩ := Option.isSome_iff_exists.mp hk.2
      simp only [zR, hb, Option.getD_some] at hP
      rw [zrf_of h1] at hb
      refine va_get F.x F.b F.ts hin F.ow F.K hp _ h3 hc f hf (F.ts _ hw) (by rw [hC]; exact fun _ q => q) (zfs_at ht) hd ?_
      simp only [zfv, hb]
      exact (h _ _ _ _ _ hP ls H locs hL hp hS hz)
    · exact hP.elim
  · exact hP.elim
theorem z_getIN (F : zFx X p s m args meth c cc nL own ret nm) {host : String} {k : ZK} {C : String} {T : u_T} {N ci f i : Nat} (hd : decode cc pc = .ok (.getfield i, 3)) (hc : vwCl[ci]? = some (C, T, N)) (hin : ∀ w ∈ u_ws C T N, w ∈ zG) (hf : f < N) (hC : (T f).1 = C) (hw : (own, i, C, (T f).2.1, (T f).2.2.1, host) ∈ znF) (ht : (zft ci)[f]? = some 0) (h : zOK X p l e R s m args below meth c nL Q cells slots (pc + 3) k) : zOK X p l e R s m args below meth c nL Q cells slots pc (i_getI ci f k) := by
  intro L st S I J hP ls H locs hL hp hS hz
  simp only [i_getI] at hP
  split at hP
  · split at hP
    · rename_i hk
      obtain ⟨d, h1, h2, h3⟩ := zobj (X := X) I J hc (zk_kd hk)
      exact va_getN F.x F.b F.ts hin F.ow F.K hp _ h3 hc f hf ((F.E.2.2.2.1 _ hw).use rfl) (by rw [hC]; exact fun _ q => q) (zfs_at ht) hd (h _ _ _ _ _ hP ls H locs hL hp hS hz)
    · exact hP.elim
  · exact hP.elim
theorem z_getJN (F : zFx X p s m args meth c cc nL own ret nm) {host : String} {k : ZK} {C : String} {T : u_T} {N ci f i : Nat} (hd : decode cc pc = .ok (.getfield i, 3)) (hc : vwCl[ci]? = some (C, T, N)) (hin : ∀ w ∈ u_ws C T N, w ∈ zG) (hf : f < N) (hC : (T f).1 = C) (hw : (own, i, C, (T f).2.1, (T f).2.2.1, host) ∈ znF) (ht : (zft ci)[f]? = some 1) (h : zOK X p l e R s m args below meth c nL Q cells slots (pc + 3) k) : zOK X p l e R s m args below meth c nL Q cells slots pc (i_getJ ci f k) := by
  intro L st S I J hP ls H locs hL hp hS hz
  simp only [i_getJ] at hP
  split at hP
  · split at hP
    · rename_i hk
      obtain ⟨d, h1, h2, h3⟩ := zobj (X := X) I J hc (zk_kd hk)
      exact va_getN F.x F.b F.ts hin F.ow F.K hp _ h3 hc f hf ((F.E.2.2.2.1 _ hw).use rfl) (by rw [hC]; exact fun _ q => q) (zfs_at ht) hd (h _ _ _ _ _ hP ls H locs hL hp hS hz)
    · exact hP.elim
  · exact hP.elim
theorem z_getRN (F : zFx X p s m args meth c cc nL own ret nm) {host : String} {k : ZK} {C : String} {T : u_T} {N ci f i : Nat} (hd : decode cc pc = .ok (.getfield i, 3)) (hc : vwCl[ci]? = some (C, T, N)) (hin : ∀ w ∈ u_ws C T N, w ∈ zG) (hf : f < N) (hC : (T f).1 = C) (hw : (own, i, C, (T f).2.1, (T f).2.2.1, host) ∈ znF) (ht : (zft ci)[f]? = some 2) (h : zOK X p l e R s m args below meth c nL Q cells slots (pc + 3) k) : zOK X p l e R s m args below meth c nL Q cells slots pc (i_getR ci f k) := by
  intro L st S I J hP ls H locs hL hp hS hz
  simp only [i_getR] at hP
  split at hP
  · split at hP
    · rename_i hk
      simp only [zkr, Bool.and_eq_true] at hk
      obtain ⟨d, h1, h2, h3⟩ := zobj (X := X) I J hc (zk_kd hk.1)
      obtain ⟨b, hb⟩ := Option.isSome_iff_exists.mp hk.2
      simp only [zR, hb, Option.getD_some] at hP
      rw [zrf_of h1] at hb
      refine va_getN F.x F.b F.ts hin F.ow F.K hp _ h3 hc f hf ((F.E.2.2.2.1 _ hw).use rfl) (by rw [hC]; exact fun _ q => q) (zfs_at ht) hd ?_
      simp only [zfv, hb]
      exact (h _ _ _ _ _ hP ls H locs hL hp hS hz)
    · exact hP.elim
  · exact hP.elim
theorem z_putI (F : zFx X p s m args meth c cc nL own ret nm) {k : ZK} {C : String} {T : u_T} {N ci f i : Nat} (ty : Nat → FieldType) (hty : ∀ k, k < N → parseFieldDescriptor (T k).2.2.1 = some (ty k)) (hnm : ∀ a, a < N → ∀ b, b < N → a ≠ b → (T a).2.1 ≠ (T b).2.1) (hd : decode cc pc = .ok (.putfield i, 3)) (hc : vwCl[ci]? = some (C, T, N)) (hin : ∀ w ∈ u_ws C T N, w ∈ zG) (hf : f < N) (hC : (T f).1 = C) (hw : (Cond.fieldLink own i C (T f).2.1 (T f).2.2.1 ∈ zG) ∨ ∃ host, (own, i, C, (T f).2.1, (T f).2.2.1, host) ∈ znF) (ht : (zft ci)[f]? = some 0) (hfin : (T f).2.2.2 = false) (hpd : parseFieldDescriptor (T f).2.2.1 = some .int) (h : zOK X p l e R s m args below meth c nL Q cells slots (pc + 3) k) : zOK X p l e R s m args below meth c nL Q cells slots pc (i_putI ci f k) := by
  intro L st S I J hP ls H locs hL hp hS hz
  simp only [i_putI] at hP
  split at hP
  · rename_i v a r
    split at hP
    case h_2 => exact hP.elim
    rename_i hk
    obtain ⟨d, h1, h2, h3⟩ := zobj (X := X) I J hc (zk_kd hk)
    have hlen : f < (zfs X d.2.2 (I a) (J a) (zft ci)).length := by simpa [zfs] using (List.getElem?_eq_some_iff.mp ht).1
    refine zputW F ty hty hnm hd hc hin hf hC hw hfin hpd (v := .int v) rfl rfl (hp _ _ h3) hlen (fun H1 kk hat e2 e3 => ?_)
    rw [zfs_setI ht] at hat
    obtain ⟨g1, g2, g3⟩ := zstored (k := kk) (I' := zu I a f v) (J' := J) hz hp hS h1 e2 e3 (by rw [zel_obj (by rw [h2]; exact zcl_lt hc), h2, zu_at]; exact hat) rfl (fun _ _ => rfl) h1 (fun i hi => zu_ne I f v hi) (fun i hi => rfl)
    exact h _ _ _ _ _ hP ls H1 _ hL g1 g2 g3
  · exact hP.elim
theorem z_putJ (F : zFx X p s m args meth c cc nL own ret nm) {k : ZK} {C : String} {T : u_T} {N ci f i : Nat} (ty : Nat → FieldType) (hty : ∀ k, k < N → parseFieldDescriptor (T k).2.2.1 = some (ty k)) (hnm : ∀ a, a < N → ∀ b, b < N → a ≠ b → (T a).2.1 ≠ (T b).2.1) (hd : decode cc pc = .ok (.putfield i, 3)) (hc : vwCl[ci]? = some (C, T, N)) (hin : ∀ w ∈ u_ws C T N, w ∈ zG) (hf : f < N) (hC : (T f).1 = C) (hw : (Cond.fieldLink own i C (T f).2.1 (T f).2.2.1 ∈ zG) ∨ ∃ host, (own, i, C, (T f).2.1, (T f).2.2.1, host) ∈ znF) (ht : (zft ci)[f]? = some 1) (hfin : (T f).2.2.2 = false) (hpd : parseFieldDescriptor (T f).2.2.1 = some .long) (h : zOK X p l e R s m args below meth c nL Q cells slots (pc + 3) k) : zOK X p l e R s m args below meth c nL Q cells slots pc (i_putJ ci f k) := by
  intro L st S I J hP ls H locs hL hp hS hz
  simp only [i_putJ] at hP
  split at hP
  · rename_i v a r
    split at hP
    case h_2 => exact hP.elim
    rename_i hk
    obtain ⟨d, h1, h2, h3⟩ := zobj (X := X) I J hc (zk_kd hk)
    have hlen : f < (zfs X d.2.2 (I a) (J a) (zft ci)).length := by simpa [zfs] using (List.getElem?_eq_some_iff.mp ht).1
    refine zputW F ty hty hnm hd hc hin hf hC hw hfin hpd (v := .long v) rfl rfl (hp _ _ h3) hlen (fun H1 kk hat e2 e3 => ?_)
    rw [zfs_setJ ht] at hat
    obtain ⟨g1, g2, g3⟩ := zstored (k := kk) (I' := I) (J' := zuJ J a f v) hz hp hS h1 e2 e3 (by rw [zel_obj (by rw [h2]; exact zcl_lt hc), h2, zuJ_at]; exact hat) rfl (fun _ _ => rfl) h1 (fun i hi => rfl) (fun i hi => zuJ_ne J f v hi)
    exact h _ _ _ _ _ hP ls H1 _ hL g1 g2 g3
  · exact hP.elim
theorem z_putFR (F : zFx X p s m args meth c cc nL own ret nm) {k : ZK} {C : String} {T : u_T} {N ci f i : Nat} (ty : Nat → FieldType) (hty : ∀ k, k < N → parseFieldDescriptor (T k).2.2.1 = some (ty k)) (hnm : ∀ a, a < N → ∀ b, b < N → a ≠ b → (T a).2.1 ≠ (T b).2.1) (hd : decode cc pc = .ok (.putfield i, 3)) (hc : vwCl[ci]? = some (C, T, N)) (hin : ∀ w ∈ u_ws C T N, w ∈ zG) (hf : f < N) (hC : (T f).1 = C) (hCo : C = own) (hini : nm = "<init>") (hw : Cond.fieldLink own i C (T f).2.1 (T f).2.2.1 ∈ zG) (ht : (zft ci)[f]? = some 2) (hfin : (T f).2.2.2 = true) {fty : FieldType} (hpd : parseFieldDescriptor (T f).2.2.1 = some fty) (hrf : ∀ b : Nat, narrow fty (.ref b) = .ref b ∧ fits fty (.ref b) = true) (h : zOK X p l e R s m args below meth c nL Q cells slots (pc + 3) k) : zOK X p l e R s m args below meth c nL Q cells slots pc (i_putR ci f k) := by
  intro L st S I J hP ls H locs hL hp hS hz
  simp only [i_putR] at hP
  split at hP
  · rename_i b a r
    split at hP
    case h_2 => exact hP.elim
    rename_i hk0
    simp only [Bool.and_eq_true] at hk0
    have hlt := Nat.le_of_ble_eq_true hk0.2
    obtain ⟨d, h1, h2, h3⟩ := zobj (X := X) I J hc (zk_kd hk0.1)
    have hlen : f < (zfs X d.2.2 (I a) (J a) (zft ci)).length := by simpa [zfs] using (List.getElem?_eq_some_iff.mp ht).1
    rw [List.getD_eq_getElem?_getD, h1] at hlt
    simp only [Option.getD_some] at hlt
    have hlt : f < d.2.2.length := hlt
    refine zputFW F ty hty hnm hd hc hin hf hC hCo hini hw hfin hpd (v := .ref (zB X + b)) (hrf _).1 (hrf _).2 (hp _ _ h3) hlen (fun H1 kk hat e2 e3 => ?_)
    have hat : va_at X.1 vwCl (zB X + a, .inr (ci, (zfs X d.2.2 (I a) (J a) (zft ci)).set f (va_rf ((some b).map (zB X + ·))))) H1 := hat
    rw [zfs_setR ht hlt] at hat
    have hal : a < S.length := (List.getElem?_eq_some_iff.mp h1).1
    obtain ⟨g1, g2, g3⟩ := zstored (k := kk) (S' := zsr S a f (some b)) (I' := I) (J' := J) (d' := (d.1, d.2.1, d.2.2.set f (some b))) hz hp hS h1 e2 e3 (by rw [zel_obj (by show d.1 < 13; rw [h2]; exact zcl_lt hc)]; show va_at _ _ (_, .inr (d.1, zfs X (d.2.2.set f (some b)) (I a) (J a) (zft d.1))) _; rw [h2]; exact hat) (by rw [zsr_of h1, List.length_set]) (fun i hi => by rw [zsr_of h1, List.getElem?_set_ne (fun q => hi q.symm)]) (by rw [zsr_of h1, List.getElem?_set_self hal]) (fun _ _ => rfl) (fun _ _ => rfl)
    exact h _ _ _ _ _ hP ls H1 _ hL g1 g2 g3
  · exact hP.elim
end ZM
