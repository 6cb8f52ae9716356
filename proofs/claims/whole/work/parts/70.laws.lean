/-! ===== the law: its start and its loop ===== -/
variable {I : ZI} {J : ZJ}
def bLs3 (k : ZK) : ZK := i_ast 2 (i_push (.int 0) (i_ist 3 k))
def bLs2 (g : ZTv) (k : ZK) : ZK := i_ast 1 (i_new 12 22 (i_dup (i_callI 0 (ztv g) (bLs3 k))))
def bLs (f g : ZTv) (k : ZK) : ZK := i_new 11 13 (i_dup (i_callI 0 (ztv f) (bLs2 g k)))
set_option maxRecDepth 100000 in
theorem zLs {X : ZC} {p : Program} {l : Launch} {e : Env} {s : State} {m : MethodId} {args : Array Value} {below : List Frame} {meth : Method} {c : Code} {Q : State → Prop} {nm : String} {ret : Option FieldType} (F : zFx X p s m args meth c cL_law 4 RL ret nm) {k : ZK} (hk : zOK X p l e room_1 s m args below meth c 4 Q 61 5752 18 k) : zOK X p l e room_1 s m args below meth c 4 Q 0 0 0 (bLs t_X11_init t_X12_init k) := z_new F tyX11 tyX11_ok dL_law_0 rfl zin11 zw20 zw21 zw1 zdf11 (by decide) (by decide) (z_dup F dL_law_3 (z_callI F dL_law_4 (s_X11_init l) zw24 zw1 zw22 zw23 rfl (by decide +kernel) ⟨rfl, rfl⟩ ⟨by decide, by decide⟩ ⟨by decide, by decide⟩ (z_astore_n F dL_law_7 rfl (by decide) (z_new F tyX12 tyX12_ok dL_law_8 rfl zin12 zw588 zw589 zw13 zdf12 (by decide) (by decide) (z_dup F dL_law_11 (z_callI F dL_law_12 (s_X12_init l) zw592 zw13 zw590 zw591 rfl (by decide +kernel) ⟨rfl, rfl⟩ ⟨by decide, by decide⟩ ⟨by decide, by decide⟩ (z_astore_n F dL_law_15 rfl (by decide) (z_iconst F dL_law_16 rfl (z_istore_n F dL_law_17 rfl (by decide) hk)))))))))
theorem eqLs (f g : ZTv) (k : ZK) : bLs f g k [some (.retAddr 300), none, none, none] [] [] I J = f [.ref 0] [(11, 0, List.replicate 13 none)] (zcI I 0) (zcJ J 0) (fun S1 I1 J1 => bLs2 g k [some (.retAddr 300), none, none, none] [.ref 0] S1 I1 J1) := by rfl
theorem eqLs2 (g : ZTv) (k : ZK) : bLs2 g k [some (.retAddr 300), none, none, none] [.ref 0] shc48 I J = g [.ref 48] (shc48 ++ [(12, 0, List.replicate 22 none)]) (zcI I 48) (zcJ J 48) (fun S1 I1 J1 => bLs3 k [some (.retAddr 300), some (.ref 0), none, none] [.ref 48] S1 I1 J1) := by rfl
theorem eqLs3 (k : ZK) (S : ZS) : bLs3 k [some (.retAddr 300), some (.ref 0), none, none] [.ref 48] S I J = k (lwL 0) [] S I J := by rfl
theorem pLs {k : ZK} (hk : ∀ u' I' J', Rl u' I' J' → k (lwL 0) [] (shp u') I' J') : bLs t_X11_init t_X12_init k [some (.retAddr 300), none, none, none] [] [] I J := by
  rw [eqLs]
  refine t_c_init _ ?_
  show bLs2 t_X12_init k [some (.retAddr 300), none, none, none] [.ref 0] shc48 (cnI I) (cnJ J)
  rw [eqLs2]
  refine t_m_init _ ?_
  show bLs3 k [some (.retAddr 300), some (.ref 0), none, none] [.ref 48] (shp 0) (stI I) (stJ J)
  rw [eqLs3]
  exact hk _ _ _ (Rl_init I J)
theorem zLloop {X : ZC} {p : Program} {l : Launch} {e : Env} {s : State} {m : MethodId} {args : Array Value} {below : List Frame} {meth : Method} {c : Code} {Q : State → Prop} {nm : String} {ret : Option FieldType} {n : Nat} {xs : Nat → Int32} (F : zFx X p s m args meth c cL_law 4 RL ret nm) (hT : va_T .int (X.2.2.2 300) n (fun j => .int (xs j)) (zA X) s s.heap) (hend : ∀ cells slots, cells ≤ 600000 → slots ≤ 7302250 → zOK X p l e room_1 s m args below meth c 4 Q cells slots 1073 bLe) : ∀ (N cells slots : Nat), cells + 14 * N ≤ 600000 → slots + 102 * N ≤ 7302250 → zOK X p l e room_1 s m args below meth c 4 Q cells slots 18 (zit (bLh n xs) N) := by
  intro N
  induction N with
  | zero => exact fun cells slots _ _ L st S I J hP => hP.elim
  | succ N ih => exact fun cells slots h1 h2 => zLh F hT (hend cells slots (by omega) (by omega)) (by omega) (by omega) (ih (cells + 14) (slots + 102) (by omega) (by omega))
theorem zswf_all {x : Int32} {L : ZL} {r : List Value} {S : ZS} {kd : ZK} (hd : kd L r S I J) : ∀ {cs : List (Int32 × ZK)}, (∀ q ∈ cs, q.2 L r S I J) → zswf x L r S I J kd cs
  | [], _ => hd
  | q :: qs, h => ⟨fun _ => h q List.mem_cons_self, fun _ => zswf_all hd (fun q' hq => h q' (List.mem_cons_of_mem _ hq))⟩
theorem mI_zix {k n : Nat} (h : k < n) (hn : n < 2147483648) : zix (nI k) n = true := by
  unfold zix
  have h1 : ¬ nI k < 0 := by
    rw [show (0 : Int32) = nI 0 from rfl, mI_lt (by omega) (by omega)]; omega
  rw [mI_nat (by omega)]
  simp only [h1, decide_false, Bool.not_false, Bool.true_and]
  exact Nat.ble_eq_true_of_le h
theorem eqLh (n : Nat) (xs : Nat → Int32) (i : Int32) (r : ZK) (S : ZS) : bLh n xs r (lwL i) [] S I J = ((nI n - 6 < i → bLe (lwL i) [] S I J) ∧ (¬ nI n - 6 < i → zxg (zix i n) (zswf (xs i.toNatClampNeg &&& 31) (lwL i) [] S I J (bLi r) (bLc n xs r)))) := by rfl
theorem eqLi (i : Int32) (r : ZK) (S : ZS) : bLi r (lwL i) [] S I J = r (lwL (i + 6)) [] S I J := by rfl
theorem pLloop {n : Nat} (xs : Nat → Int32) (hn : n ≤ 384) : ∀ (N k u : Nat) (I : ZI) (J : ZJ), 6 * k ≤ n → n < 6 * k + 6 * N → Rl u I J → zit (bLh n xs) N (lwL (nI (6 * k))) [] (shp u) I J := by
  intro N
  induction N with
  | zero => intro k u I J h1 h2 _; omega
  | succ N ih =>
    intro k u I J h1 h2 hR
    show bLh n xs (zit (bLh n xs) N) (lwL (nI (6 * k))) [] (shp u) I J
    rw [eqLh]
    refine ⟨fun _ => rfl, fun hlt => ?_⟩
    have h6 : 6 * k + 6 ≤ n := by
      rcases Nat.lt_or_ge n (6 * k + 6) with q | q
      · exfalso; apply hlt
        have e6 : (6 : Int32).toInt = 6 := rfl
        have a1 := i_nI n (by omega)
        have a2 := i_nI (6 * k) (by omega)
        rw [i_lt, i_sub, a1, a2, e6]; omega
      · exact q
    rw [mI_zix (by omega) (by omega), zxg_t]
    have hz : ∀ j : Nat, j < 6 → zix (nI (6 * k) + nI j) n = true := fun j hj => by rw [mI_add]; exact mI_zix (by omega) (by omega)
    have hk : ∀ u' I' J', Rl u' I' J' → bLi (zit (bLh n xs) N) (lwL (nI (6 * k))) [] (shp u') I' J' := fun u' I' J' hR' => by
      rw [eqLi, show nI (6 * k) + 6 = nI (6 * (k + 1)) from mI_add (6 * k) 6]
      exact ih (k + 1) u' I' J' (by omega) (by omega) hR'
    have h1 : zix (nI (6 * k) + 1) n = true := hz 1 (by omega)
    have h2 : zix (nI (6 * k) + 2) n = true := hz 2 (by omega)
    have h3 : zix (nI (6 * k) + 3) n = true := hz 3 (by omega)
    have h4 : zix (nI (6 * k) + 4) n = true := hz 4 (by omega)
    have h5 : zix (nI (6 * k) + 5) n = true := hz 5 (by omega)
    refine zswf_all (hk _ _ _ hR) ?_
    exact List.forall_mem_cons.mpr ⟨pL_0 (n := n) (xs := xs) hR h1 h2 hk, List.forall_mem_cons.mpr ⟨pL_1 (n := n) (xs := xs) hR h1 h2 hk, List.forall_mem_cons.mpr ⟨pL_2 (n := n) (xs := xs) hR h1 h2 hk, List.forall_mem_cons.mpr ⟨pL_3 (n := n) (xs := xs) hR h1 h2 hk, List.forall_mem_cons.mpr ⟨pL_4 (n := n) (xs := xs) hR h1 hk, List.forall_mem_cons.mpr ⟨pL_5 (n := n) (xs := xs) hR hk, List.forall_mem_cons.mpr ⟨pL_6 (n := n) (xs := xs) hR hk, List.forall_mem_cons.mpr ⟨pL_7 (n := n) (xs := xs) hR h1 hk, List.forall_mem_cons.mpr ⟨pL_8 (n := n) (xs := xs) hR h1 hk, List.forall_mem_cons.mpr ⟨pL_9 (n := n) (xs := xs) hR hk, List.forall_mem_cons.mpr ⟨pL_10 (n := n) (xs := xs) hR hk, List.forall_mem_cons.mpr ⟨pL_11 (n := n) (xs := xs) hR h1 h2 hk, List.forall_mem_cons.mpr ⟨pL_12 (n := n) (xs := xs) hR h1 hk, List.forall_mem_cons.mpr ⟨pL_13 (n := n) (xs := xs) hR h1 h2 h3 h4 hk, List.forall_mem_cons.mpr ⟨pL_14 (n := n) (xs := xs) hR h1 h2 h3 hk, List.forall_mem_cons.mpr ⟨pL_15 (n := n) (xs := xs) hR h1 hk, List.forall_mem_cons.mpr ⟨pL_16 (n := n) (xs := xs) hR h1 h2 h3 hk, List.forall_mem_cons.mpr ⟨pL_17 (n := n) (xs := xs) hR h1 h2 hk, List.forall_mem_cons.mpr ⟨pL_18 (n := n) (xs := xs) hR h1 h2 h3 h4 hk, List.forall_mem_cons.mpr ⟨pL_19 (n := n) (xs := xs) hR hk, List.forall_mem_cons.mpr ⟨pL_20 (n := n) (xs := xs) hR h1 hk, List.forall_mem_cons.mpr ⟨pL_21 (n := n) (xs := xs) hR h1 hk, List.forall_mem_cons.mpr ⟨pL_22 (n := n) (xs := xs) hR h1 h2 h3 h4 h5 hk, List.forall_mem_cons.mpr ⟨pL_23 (n := n) (xs := xs) hR h1 h2 h3 hk, List.forall_mem_cons.mpr ⟨pL_24 (n := n) (xs := xs) hR h1 h2 h3 hk, List.forall_mem_cons.mpr ⟨pL_25 (n := n) (xs := xs) hR h1 hk, List.forall_mem_cons.mpr ⟨pL_26 (n := n) (xs := xs) hR h1 hk, List.forall_mem_cons.mpr ⟨pL_27 (n := n) (xs := xs) hR h1 hk, List.forall_mem_cons.mpr ⟨pL_28 (n := n) (xs := xs) hR h1 hk, List.forall_mem_cons.mpr ⟨pL_29 (n := n) (xs := xs) hR h1 hk, List.forall_mem_cons.mpr ⟨pL_30 (n := n) (xs := xs) hR hk, fun _ h => absurd h List.not_mem_nil⟩⟩⟩⟩⟩⟩⟩⟩⟩⟩⟩⟩⟩⟩⟩⟩⟩⟩⟩⟩⟩⟩⟩⟩⟩⟩⟩⟩⟩⟩⟩
