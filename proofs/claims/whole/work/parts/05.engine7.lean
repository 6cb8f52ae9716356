section ZT
variable {X : ZC} {p : Program} {l : Launch} {e : Env} {R : Room} {s : State} {m : MethodId} {args : Array Value} {below : List Frame} {meth : Method} {c : Code} {nL : Nat} {Q : State → Prop} {cells slots pc : Nat} {cc : ByteArray} {own nm : String} {ret : Option FieldType}
/-- a superclass's method on this object -/
def zko (S : ZS) (a : Nat) : Bool := match S[a]? with
  | some d => Nat.blt d.1 13
  | none => false
theorem zko_of {S : ZS} {a : Nat} (h : zko S a = true) : ∃ ck, zkd S a = some ck ∧ ck < 13 := by
  unfold zko at h
  split at h
  · rename_i d hd
    exact ⟨d.1, by unfold zkd; rw [hd], Nat.le_of_ble_eq_true h⟩
  · cases h
def i_callU (n : Nat) (T : ZT) (k : ZK) : ZK := fun L st S I J => match st.drop n with
  | .ref a :: r => match zcat r && zko S a with
    | true => T (.ref a :: (st.take n).reverse) S I J (fun S' I' J' v => k L (v.toList ++ r) S' I' J')
    | false => False
  | _ => False
theorem z_callU (F : zFx X p s m args meth c cc nL own ret nm) {k : ZK} {y : MethodName} {bytes : ByteArray} {maxL n i mc ms : Nat} {rt : Option FieldType} {rm : Room} {T : ZT} (hd : decode cc pc = .ok (.invokespecial i, 3)) (hsp : zSp l y bytes maxL rt rm mc ms T) (hcode : Cond.code y bytes maxL rt ∈ zG) (hini : Cond.initialized y.cls ∈ zG) (hw : Cond.methodLink own i y ∈ zG) (hsm : Cond.sameMethod y.cls y.cls y.name y.desc ∈ zG) (hsu : Cond.superclass own y.cls ∈ zG) (hin : Cond.instanceMethod y ∈ zG) (hy : y.name ≠ "<init>" ∧ (parseMethodDescriptor y.desc).map (fun d => d.parameters.length) = some n) (hrm : rm.cells = mc ∧ rm.slots = ms) (hR : rm.frames + 1 ≤ R.frames ∧ 8 + (maxL + 11) + rm.locals ≤ R.locals) (hf : cells + mc ≤ R.cells ∧ slots + ms ≤ R.slots) (h : zOK X p l e R s m args below meth c nL Q (cells + mc) (slots + ms) (pc + 3) k) : zOK X p l e R s m args below meth c nL Q cells slots pc (i_callU n T k) := by
  intro L st S I J hP ls H locs hL hp hS hz
  simp only [i_callU] at hP
  split at hP
  · rename_i a r hdr
    split at hP
    · rename_i hct
      simp only [Bool.and_eq_true] at hct
      obtain ⟨hct, hko⟩ := hct
      obtain ⟨ck, hk, hck⟩ := zko_of hko
      obtain ⟨⟨C, TT, N⟩, hc⟩ : ∃ q, vwCl[ck]? = some q := ⟨_, List.getElem?_eq_getElem (show ck < vwCl.length from hck)⟩
      obtain ⟨d, h1, h2, h3⟩ := zobj (X := X) I J hc hk
      have hrcv := va_recv F.K hp hc h3
      have hle : n ≤ st.length := by
        rcases Nat.lt_or_ge st.length n with q | q
        · rw [List.drop_eq_nil_of_le (Nat.le_of_lt q)] at hdr; cases hdr
        · exact q
      have hst : st.map (zc X) = ((st.take n).reverse.map (zc X)).reverse ++ .ref (zB X + a) :: r.map (zc X) := by
        rw [ztk (X := X) (Nat.ble_eq_true_of_le hle), hdr]; rfl
      have hPre := zpre F (As := .ref a :: (st.take n).reverse) hp hS hz
      refine zcallW (mc := mc) (ms := ms) (q := fun S' I' J' v => k L (v.toList ++ r) S' I' J') (a := (Value.ref (zB X + a) :: (st.take n).reverse.map (zc X)).toArray) (rest := r.map (zc X)) ?_ hS (fun v S' I' J' H1 locs1 hq hp1 hS1 hz1 => ?_)
      · exact va_runSU (n := n) (F.K.1 ck _ hc).2 ⟨F.x, F.b, F.ml, F.ow, F.ts⟩ (hsp X _ S I J _ hP) (va_cwSU n F.ts (zgi (fun w hw2 => by rcases List.mem_append.mp hw2 with q | q; (simp only [List.mem_cons, List.not_mem_nil, or_false] at q; rcases q with q | q | q | q | q <;> subst q <;> assumption); (rcases List.mem_cons.mp q with q | q; (subst q; exact hcode); exact q))) rfl hrm.1 hrm.2 hy hR) ⟨hPre.1, hrcv, hPre.2⟩ rfl (ztkl hle) hL.1 hst (zroomW hct rfl) hd hf
      · rw [zop]
        exact h _ _ _ _ _ hq ls H1 locs1 hL hp1 hS1 hz1
    · exact hP.elim
  · exact hP.elim
theorem z_callO (F : zFx X p s m args meth c cc nL own ret nm) {ci : Nat} {C : String} {TT : u_T} {N : Nat} {x : MethodName} {b0 : ByteArray} {m0 : Nat} {r0 : Option FieldType} {k : ZK} {y : MethodName} {bytes : ByteArray} {maxL n i mc ms : Nat} {rt : Option FieldType} {rm : Room} {T : ZT} (hc : vwCl[ci]? = some (C, TT, N)) (hd : decode cc pc = .ok (.invokevirtual i, 3)) (hsp : zSp l y bytes maxL rt rm mc ms T) (hcode : Cond.code y bytes maxL rt ∈ zG) (hini : Cond.initialized y.cls ∈ zG) (hw : Cond.methodLink own i x ∈ zG) (hsm : Cond.sameMethod x.cls x.cls x.name x.desc ∈ zG) (hix : Cond.instanceMethod x ∈ zG) (hsel : Cond.selects C x y ∈ zG) (hin : Cond.instanceMethod y ∈ zG) (h0 : Cond.code x b0 m0 r0 ∈ zG) (hy : x.cls ≠ "java/lang/invoke/MethodHandle" ∧ x.cls ≠ "java/lang/invoke/VarHandle" ∧ (parseMethodDescriptor x.desc).map (fun d => d.parameters.length) = some n) (hrm : rm.cells = mc ∧ rm.slots = ms) (hR : rm.frames + 1 ≤ R.frames ∧ 8 + (maxL + 11) + rm.locals ≤ R.locals) (hf : cells + mc ≤ R.cells ∧ slots + ms ≤ R.slots) (h : zOK X p l e R s m args below meth c nL Q (cells + mc) (slots + ms) (pc + 3) k) : zOK X p l e R s m args below meth c nL Q cells slots pc (i_callV ci n T k) := by
  intro L st S I J hP ls H locs hL hp hS hz
  simp only [i_callV] at hP
  split at hP
  · rename_i a r hdr
    split at hP
    · rename_i hct
      simp only [Bool.and_eq_true] at hct
      obtain ⟨hct, hk⟩ := hct
      obtain ⟨d, h1, h2, h3⟩ := zobj (X := X) I J hc (zk_kd hk)
      have hrcv := va_recv F.K hp hc h3
      have hle : n ≤ st.length := by
        rcases Nat.lt_or_ge st.length n with q | q
        · rw [List.drop_eq_nil_of_le (Nat.le_of_lt q)] at hdr; cases hdr
        · exact q
      have hst : st.map (zc X) = ((st.take n).reverse.map (zc X)).reverse ++ .ref (zB X + a) :: r.map (zc X) := by
        rw [ztk (X := X) (Nat.ble_eq_true_of_le hle), hdr]; rfl
      have hPre := zpre F (As := .ref a :: (st.take n).reverse) hp hS hz
      refine zcallW (mc := mc) (ms := ms) (q := fun S' I' J' v => k L (v.toList ++ r) S' I' J') (a := (Value.ref (zB X + a) :: (st.take n).reverse.map (zc X)).toArray) (rest := r.map (zc X)) ?_ hS (fun v S' I' J' H1 locs1 hq hp1 hS1 hz1 => ?_)
      · exact va_runU (C := C) (n := n) ⟨F.x, F.b, F.ml, F.ow, F.ts⟩ (hsp X _ S I J _ hP) (va_cwO (owner := x.cls) (x := x) n F.ts (zgi (fun w hw2 => by rcases List.mem_append.mp hw2 with q | q; (simp only [List.mem_cons, List.not_mem_nil, or_false] at q; rcases q with q | q | q | q | q | q <;> subst q <;> assumption); (rcases List.mem_cons.mp q with q | q; (subst q; exact hcode); exact q))) rfl hrm.1 hrm.2 h0 hy hR) ⟨hPre.1, hrcv, hPre.2⟩ rfl (ztkl hle) hL.1 hst (zroomW hct rfl) hd hf
      · rw [zop]
        exact h _ _ _ _ _ hq ls H1 locs1 hL hp1 hS1 hz1
    · exact hP.elim
  · exact hP.elim
/-- a call on an object of one of some kinds -/
def i_callP (n : Nat) (Ts : Nat → ZT) (k : ZK) : ZK := fun L st S I J => match st.drop n with
  | .ref a :: r => match zcat r with
    | true => zcO (zkd S a) (fun ck => Ts ck (.ref a :: (st.take n).reverse) S I J (fun S' I' J' v => k L (v.toList ++ r) S' I' J')) False
    | false => False
  | _ => False
theorem z_callP {k : ZK} {n : Nat} {Ts : Nat → ZT} (hk : ∀ ck, zOK X p l e R s m args below meth c nL Q cells slots pc (i_callV ck n (Ts ck) k)) : zOK X p l e R s m args below meth c nL Q cells slots pc (i_callP n Ts k) := by
  intro L st S I J hP
  have hex : ∃ ck, i_callV ck n (Ts ck) k L st S I J := by
    simp only [i_callP] at hP
    split at hP
    · rename_i a r hdr
      split at hP
      · rename_i hct
        unfold zcO at hP
        split at hP
        · rename_i ck hck
          refine ⟨ck, ?_⟩
          have hk : zk S a ck = true := by
            obtain ⟨d, hd, he⟩ := zkd_of hck
            unfold zk
            rw [hd, ← he]
            exact Nat.beq_refl _
          simp only [i_callV, hdr, hct, hk, Bool.and_self]
          exact hP
        · exact hP.elim
      · exact hP.elim
    · exact hP.elim
  obtain ⟨ck, h2⟩ := hex
  exact hk ck L st S I J h2
theorem z_callV_none {k : ZK} {ci n : Nat} {T : ZT} (h : ∀ As S I J q, ¬ T As S I J q) : zOK X p l e R s m args below meth c nL Q cells slots pc (i_callV ci n T k) := by
  intro L st S I J hP
  simp only [i_callV] at hP
  split at hP
  · split at hP
    · exact (h _ _ _ _ _ hP).elim
    · exact hP.elim
  · exact hP.elim
/-! switch -/
def zswf (x : Int32) (L : ZL) (r : List Value) (S : ZS) (I : ZI) (J : ZJ) (kd : ZK) : List (Int32 × ZK) → Prop
  | [] => kd L r S I J
  | q :: qs => (x = q.1 → q.2 L r S I J) ∧ (¬ x = q.1 → zswf x L r S I J kd qs)
def i_tsw (cs : List (Int32 × ZK)) (kd : ZK) : ZK := fun L st S I J => match st with
  | .int x :: r => zswf x L r S I J kd cs
  | _ => False
theorem zswf_of {x : Int32} {L : ZL} {r : List Value} {S : ZS} {I : ZI} {J : ZJ} {kd : ZK} : ∀ {cs : List (Int32 × ZK)}, zswf x L r S I J kd cs → (∃ (j : Nat) (q : Int32 × ZK), cs[j]? = some q ∧ x = q.1 ∧ q.2 L r S I J) ∨ ((∀ q ∈ cs, ¬ x = q.1) ∧ kd L r S I J)
  | [], h => Or.inr ⟨fun _ h => absurd h List.not_mem_nil, h⟩
  | q :: qs, h => by
    by_cases e : x = q.1
    · exact Or.inl ⟨0, q, rfl, e, h.1 e⟩
    · rcases zswf_of (h.2 e) with ⟨j, q', h1, h2, h3⟩ | ⟨h1, h2⟩
      · exact Or.inl ⟨j + 1, q', by simpa using h1, h2, h3⟩
      · exact Or.inr ⟨fun q' hq => (List.mem_cons.mp hq).elim (fun e' => e' ▸ e) (h1 q'), h2⟩
def zTs (O : Nat → ZK → Prop) (pc : Nat) : List Int → List (Int32 × ZK) → Prop
  | o :: os, k :: ks => (∃ t : Nat, (pc : Int) + o = (t : Int) ∧ O t k.2) ∧ zTs O pc os ks
  | _, _ => True
theorem zTs_at {O : Nat → ZK → Prop} {pc : Nat} : ∀ {os : List Int} {ks : List (Int32 × ZK)} {j : Nat} {o : Int} {k : Int32 × ZK}, zTs O pc os ks → os[j]? = some o → ks[j]? = some k → ∃ t : Nat, (pc : Int) + o = (t : Int) ∧ O t k.2
  | [], _, _, _, _, _, h, _ => by cases h
  | _ :: _, [], _, _, _, _, _, h => by cases h
  | _ :: _, _ :: _, 0, _, _, h, h1, h2 => by cases h1; cases h2; exact h.1
  | _ :: _, _ :: _, j + 1, _, _, h, h1, h2 => zTs_at h.2 (by simpa using h1) (by simpa using h2)
theorem z_tsw (F : zFx X p s m args meth c cc nL own ret nm) {dflt lo hi : Int} {offs : Array Int} {len tgt : Nat} {cs : List (Int32 × ZK)} {kd : ZK} (vs : List Int32) (hvs : cs.map Prod.fst = vs) (hd : decode cc pc = .ok (.tableswitch dflt lo hi offs, len)) (htd : (pc : Int) + dflt = (tgt : Int)) (hlen : offs.size = vs.length) (hcs : vs.map Int32.toInt = (List.range vs.length).map (fun (j : Nat) => lo + (j : Int))) (hhi : hi = lo + (vs.length : Int) - 1) (h1 : zOK X p l e R s m args below meth c nL Q cells slots tgt kd) (h2 : zTs (fun t k => zOK X p l e R s m args below meth c nL Q cells slots t k) pc offs.toList cs) : zOK X p l e R s m args below meth c nL Q cells slots pc (i_tsw cs kd) := by
  intro L st S I J hP ls H locs hL hp hS hz
  simp only [i_tsw] at hP
  split at hP
  · rename_i x r
    have hl : cs.length = vs.length := by rw [← hvs, List.length_map]
    have hat : ∀ (j : Nat) (q : Int32 × ZK), cs[j]? = some q → q.1.toInt = lo + (j : Int) := by
      intro j q hq
      have hj : j < vs.length := by rw [← hl]; exact (List.getElem?_eq_some_iff.mp hq).1
      have e1 : (vs.map Int32.toInt)[j]? = some q.1.toInt := by rw [← hvs, List.map_map, List.getElem?_map, hq]; rfl
      rw [hcs, List.getElem?_map, List.getElem?_range hj] at e1
      exact (Option.some.inj e1).symm
    rcases zswf_of hP with ⟨j, q, hq, hx, hP⟩ | ⟨hno, hP⟩
    · have hj : j < vs.length := by rw [← hl]; exact (List.getElem?_eq_some_iff.mp hq).1
      have hxt : x.toInt = lo + (j : Int) := by rw [hx]; exact hat j q hq
      have e : (x.toInt - lo).toNat = j := by omega
      have ho : offs[(x.toInt - lo).toNat]? = some offs[j] := by rw [e]; exact Array.getElem?_eq_getElem (by omega)
      obtain ⟨t, ht, hh⟩ := zTs_at h2 (by rw [Array.getElem?_toList, ← e]; exact ho) hq
      exact lv_tableIn F.x F.b hd (by omega) (by omega) ho ht (hh _ _ _ _ _ hP ls H locs hL hp hS hz)
    · refine lv_tableOut F.x F.b hd ?_ htd (h1 _ _ _ _ _ hP ls H locs hL hp hS hz)
      rcases Int.lt_or_le x.toInt lo with q | q
      · exact Or.inl q
      · refine Or.inr ?_
        rcases Int.lt_or_le hi x.toInt with q2 | q2
        · exact q2
        · exfalso
          have hj : (x.toInt - lo).toNat < cs.length := by omega
          have hq := List.getElem?_eq_getElem hj
          have h3 := hat _ _ hq
          exact hno _ (List.mem_of_getElem? hq) (Int32.toInt_inj.mp (by rw [h3]; omega))
  · exact hP.elim
/-! the entry -/
def zsz : List Value → Nat
  | [] => 0
  | v :: r => v.category + zsz r
theorem zsz_eq (X : ZC) : ∀ As : List Value, (lg_sl (As.map (zc X))).length = zsz As
  | [] => rfl
  | v :: r => by
    have ih := zsz_eq X r
    unfold lg_sl at ih ⊢
    rw [List.map_cons, List.flatMap_cons, List.length_append, ih, zsz, zc_cat]
    rcases lv_cat v with h | h <;> rw [h] <;> rfl
theorem zen_mem {X : ZC} {v : Value} : ∀ (n : Nat) (As : List Value) (i j : Nat), (zen n As)[j]? = some (some v) → (i + j, zc X v) ∈ lv_args i (As.map (zc X))
  | 0, As, i, j, h => by simp [zen] at h
  | n + 1, [], i, j, h => by
    cases j with
    | zero => simp [zen] at h
    | succ j =>
      have h2 := zen_mem (X := X) n [] (i + 1) j (by simpa [zen] using h)
      simp [lv_args] at h2
  | 1, w :: r, i, j, h => by
    cases j with
    | zero =>
      have hw : w = v := by simpa [zen] using h
      subst hw
      simp [lv_args]
    | succ j => simp [zen] at h
  | n + 2, w :: r, i, j, h => by
    rw [List.map_cons, lv_args, zc_cat]
    by_cases hc : w.category = 2
    · have hz : zen (n + 2) (w :: r) = some w :: none :: zen n r := by
        cases w <;> first | rfl | (simp [Value.category] at hc)
      rw [hz] at h
      rw [if_pos hc]
      cases j with
      | zero =>
        have hw : w = v := by simpa using h
        subst hw
        exact List.mem_cons_self
      | succ j =>
        cases j with
        | zero => simp at h
        | succ j =>
          have h2 := zen_mem (X := X) n r (i + 2) j (by simpa using h)
          rw [show i + (j + 1 + 1) = i + 2 + j by omega]
          exact List.mem_cons_of_mem _ h2
    · have hz : zen (n + 2) (w :: r) = some w :: zen (n + 1) r := by
        cases w <;> first | rfl | (simp [Value.category] at hc)
      rw [hz] at h
      rw [if_neg hc]
      cases j with
      | zero =>
        have hw : w = v := by simpa using h
        subst hw
        exact List.mem_cons_self
      | succ j =>
        have h2 := zen_mem (X := X) (n + 1) r (i + 1) j (by simpa using h)
        rw [show i + (j + 1) = i + 1 + j by omega]
        exact List.mem_cons_of_mem _ h2
/-- a method's transformer out of its first block -/
def zin (nL : Nat) (K : ZK) (As : List Value) (S : ZS) (I : ZI) (J : ZJ) : Prop := match Nat.ble (zsz As) nL with
  | true => K (zen nL As) [] S I J
  | false => False
theorem z_met {y : MethodName} {bytes : ByteArray} {rm : Room} {mc ms : Nat} {T : ZT} {K : ZQ → ZK} (ho : y.cls = own) (hy : plainName y.cls = true) (hT : ∀ As S I J q, T As S I J q → zin nL (K q) As S I J)
    (body : ∀ (X : ZC) (p : Program) (e : Env) (s : State) (m : MethodId) (args : Array Value) (below : List Frame) (meth : Method) (c : Code) (q : ZQ), zFx X p s m args meth c bytes nL own ret y.name → zOK X p l e rm s m args below meth c nL (MQ below (zQc X q) args s mc ms (zA X)) 0 0 0 (K q)) : zSp l y bytes nL ret rm mc ms T := by
  intro X As S I J q hTq
  have hk := hT As S I J q hTq
  unfold zin at hk
  split at hk
  · rename_i hble
    have hle := Nat.le_of_ble_eq_true hble
    refine Met.ofW (cc := bytes) (maxL := nL) (ret := ret) hy rfl ?_
    intro p e s m args below meth c s₁ B hml hv
    obtain ⟨rfl, hp, hK, hsz, hE⟩ := hv
    have hts := atoms_spec (ws := Cond.code y bytes nL ret :: zG) B.pre
    have F : zFx X p s m (As.map (zc X)).toArray meth c bytes nL own ret y.name := ⟨B.exec, B.bytes, hml, B.returns, ho ▸ findClass_of_methodNamed B.named, fun w hw => hts w (List.mem_cons_of_mem _ hw), B.notSynchronized, (name_of_methodNamed B.named B.method).1, hK, hE, by rw [hsz]; omega⟩
    have hl := lv_entry (As.map (zc X)) (n := nL) (by rw [zsz_eq]; exact hle)
    rw [lg_entry_eq]
    exact body X p e s m _ below meth c q F _ [] S I J hk _ s.heap [] ⟨hl.1, hl.2.1, fun i v hi => by
      have h2 := zen_mem (X := X) nL As 0 i hi
      rw [Nat.zero_add] at h2
      exact hl.2.2 _ h2⟩ hp va_S.rf hsz
  · exact hk.elim
/-- String constants of the Reader -/
def i_str (j : Nat) (k : ZK) : ZK := fun L st S I J => k L (.retAddr (1 + j) :: st) S I J
theorem z_str (F : zFx X p s m args meth c cc nL RX4 ret nm) {k : ZK} {i j : Nat} (hj : j < 7) (hi : zsix.getD j 0 = i) (hd : decode cc pc = .ok (.ldc i, 2)) (h : zOK X p l e R s m args below meth c nL Q cells slots (pc + 2) k) : zOK X p l e R s m args below meth c nL Q cells slots pc (i_str j k) := by
  intro L st S I J hP ls H locs hL hp hS hz
  have h8 := F.E.2.2.2.2.2.2.2.1 j hj
  rw [hi] at h8
  exact va_ldcS F.x F.b F.ow h8 hd (h _ _ _ _ _ hP ls H locs hL hp hS hz)
end ZT

