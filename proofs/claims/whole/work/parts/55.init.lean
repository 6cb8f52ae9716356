/-! ===== the two constructors ===== -/
def cnI (I : ZI) : ZI := (zcI (zcI (zcI (zcI (zcI (zcI (zu (zu (zu (zcI (zcI (zcI (zcI (zcI (zcI (zcI (zcI (zu (zu (zu (zu (zu (zcI (zu (zu (zu (zu (zcI (zcI (zcI (nwI (nwI (zcI (zcI I 0) 1) 2) 16) 30) 31) 32) 31 1 0) 31 2 0) 31 3 0) 31 4 0) 33) 33 0 (-1)) 33 1 0) 33 2 0) 33 3 0) 33 4 0) 34) 35) 36) 37) 38) 39) 40) 41) 0 10 0) 0 11 0) 0 12 0) 42) 43) 44) 45) 46) 47)
def cnJ (J : ZJ) : ZJ := (zcJ (zcJ (zcJ (zcJ (zcJ (zcJ (zuJ (zuJ (zcJ (zcJ (zcJ (zcJ (zcJ (zcJ (zcJ (zcJ (zcJ (zcJ (zcJ (zcJ (nwJ (nwJ (zcJ (zcJ J 0) 1) 2) 16) 30) 31) 32) 33) 34) 35) 36) 37) 38) 39) 40) 41) 0 8 0) 0 9 1) 42) 43) 44) 45) 46) 47)
def mnI (I : ZI) : ZI := (zcI (zcI (zcI (zcI (zcI (zcI (zcI (zcI (zcI (zcI (zcI (zcI (zcI I 48) 49) 50) 51) 52) 53) 54) 55) 56) 57) 58) 59) 60)
def mnJ (J : ZJ) : ZJ := (zcJ (zcJ (zcJ (zcJ (zcJ (zcJ (zcJ (zcJ (zuJ (zcJ (zcJ (zcJ (zcJ (zcJ J 48) 49) 50) 51) 52) 48 5 1) 53) 54) 55) 56) 57) 58) 59) 60)
def shc48 : ZS := (shp 0).take 48
variable {I : ZI} {J : ZJ}
set_option maxRecDepth 100000 in
set_option maxHeartbeats 8000000 in
theorem t_c_init (q : ZQv) (hq : q shc48 (cnI I) (cnJ J)) : t_X11_init [.ref 0] [(11, 0, List.replicate 13 none)] (zcI I 0) (zcJ J 0) q := by
  repeat (first | refine And.intro rfl ?_ | refine And.intro ⟨by unfold vp_in; decide, by decide⟩ ?_)
  exact hq
set_option maxRecDepth 100000 in
set_option maxHeartbeats 8000000 in
theorem t_m_init (q : ZQv) (hq : q (shp 0) (zu (zu (zu (flr (mnI I) 49 0 (fun _ => 0) 66) 49 0 8) 49 1 5) 49 37 (-1)) (mnJ J)) : t_X12_init [.ref 48] (shc48 ++ [(12, 0, List.replicate 22 none)]) (zcI I 48) (zcJ J 48) q := by
  refine And.intro rfl (And.intro rfl (And.intro rfl (And.intro rfl (And.intro rfl (And.intro rfl (And.intro rfl (And.intro rfl (And.intro rfl (And.intro rfl (And.intro rfl (And.intro rfl ?_)))))))))))
  exact p_X12_begin (u := 0) (I := mnI I) (J := mnJ J) 8 5 _ hq
