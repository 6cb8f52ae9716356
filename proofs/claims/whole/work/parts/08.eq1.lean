-- X11_within ('i', 'i', 'i')
set_option maxRecDepth 100000 in
set_option maxHeartbeats 8000000 in
theorem g_X11_within (u : Nat) (x0 : Int32) (x1 : Int32) (x2 : Int32) (I : ZI) (J : ZJ) (q : YQi) : b_X11_within_0 (qi (shp u) q) [some (.int x0), some (.int x1), some (.int x2)] [] (shp u) I J = ((x0 < x1 → b_X11_within_14 (qi (shp u) q) [some (.int x0), some (.int x1), some (.int x2)] [] (shp u) I J) ∧ (¬ x0 < x1 → ((x2 < x0 → b_X11_within_14 (qi (shp u) q) [some (.int x0), some (.int x1), some (.int x2)] [] (shp u) I J) ∧ (¬ x2 < x0 → b_X11_within_15 (qi (shp u) q) [some (.int x0), some (.int x1), some (.int x2)] [.int 1] (shp u) I J)))) := rfl
set_option maxRecDepth 100000 in
set_option maxHeartbeats 8000000 in
theorem e_X11_within (u : Nat) (x0 : Int32) (x1 : Int32) (x2 : Int32) (I : ZI) (J : ZJ) (q : YQi) : u_X11_within [.int x0, .int x1, .int x2] (shp u) I J q = ((x0 < x1 → b_X11_within_14 (qi (shp u) q) [some (.int x0), some (.int x1), some (.int x2)] [] (shp u) I J) ∧ (¬ x0 < x1 → ((x2 < x0 → b_X11_within_14 (qi (shp u) q) [some (.int x0), some (.int x1), some (.int x2)] [] (shp u) I J) ∧ (¬ x2 < x0 → b_X11_within_15 (qi (shp u) q) [some (.int x0), some (.int x1), some (.int x2)] [.int 1] (shp u) I J)))) := g_X11_within u x0 x1 x2 I J q
set_option maxRecDepth 100000 in
set_option maxHeartbeats 8000000 in
theorem g_X11_within_14 (u : Nat)  (o0 : Option Value) (o1 : Option Value) (o2 : Option Value) (I : ZI) (J : ZJ) (q : YQi) : b_X11_within_14 (qi (shp u) q) [o0, o1, o2] [] (shp u) I J = (b_X11_within_15 (qi (shp u) q) [none, none, none] [.int 0] (shp u) I J) := rfl
set_option maxRecDepth 100000 in
set_option maxHeartbeats 8000000 in
theorem g_X11_within_15 (u : Nat)  (o0 : Option Value) (o1 : Option Value) (o2 : Option Value) (y0 : Int32) (I : ZI) (J : ZJ) (q : YQi) : b_X11_within_15 (qi (shp u) q) [o0, o1, o2] [.int y0] (shp u) I J = ((y0 = 0 ∨ y0 = 1) ∧ ((shp u) = (shp u) ∧ q I J y0)) := rfl
-- X11_bad (0, 'i')
set_option maxRecDepth 100000 in
set_option maxHeartbeats 8000000 in
theorem g_X11_bad (u : Nat) (x1 : Int32) (I : ZI) (J : ZJ) (q : YQi) : b_X11_bad_0 (qi (shp u) q) [some (.ref 0), some (.int x1)] [] (shp u) I J = ((shp u) = (shp u) ∧ q (zu I 0 10 ((I 0 10) + 1)) J x1) := rfl
set_option maxRecDepth 100000 in
set_option maxHeartbeats 8000000 in
theorem e_X11_bad (u : Nat) (x1 : Int32) (I : ZI) (J : ZJ) (q : YQi) : u_X11_bad [.ref 0, .int x1] (shp u) I J q = ((shp u) = (shp u) ∧ q (zu I 0 10 ((I 0 10) + 1)) J x1) := g_X11_bad u x1 I J q
-- X5_beginAnew (17, 'i', 'i')
set_option maxRecDepth 100000 in
set_option maxHeartbeats 8000000 in
theorem g_X5_beginAnew_a (u : Nat) (x1 : Int32) (x2 : Int32) (I : ZI) (J : ZJ) (q : YQv) : b_X5_beginAnew_0 (qv (shp u) q) [some (.ref 17), some (.int x1), some (.int x2), none] [] (shp u) I J = (b_X5_beginAnew_12 (qv (shp u) q) [some (.ref 17), some (.int x1), some (.int x2), some (.int 0)] [] (shp u) (zu (zu I 17 0 x1) 17 1 x2) J) := rfl
set_option maxRecDepth 100000 in
set_option maxHeartbeats 8000000 in
theorem e_X5_beginAnew_a (u : Nat) (x1 : Int32) (x2 : Int32) (I : ZI) (J : ZJ) (q : YQv) : u_X5_beginAnew [.ref 17, .int x1, .int x2] (shp u) I J q = (b_X5_beginAnew_12 (qv (shp u) q) [some (.ref 17), some (.int x1), some (.int x2), some (.int 0)] [] (shp u) (zu (zu I 17 0 x1) 17 1 x2) J) := g_X5_beginAnew_a u x1 x2 I J q
set_option maxRecDepth 100000 in
set_option maxHeartbeats 8000000 in
theorem g_X5_beginAnew_a_12 (u : Nat)  (r12 : ZK) (o1 : Option Value) (o2 : Option Value) (x3 : Int32) (I : ZI) (J : ZJ) (q : YQv) : bb_X5_beginAnew_12 (qv (shp u) q) r12 [some (.ref 17), o1, o2, some (.int x3)] [] (shp u) I J = (((nI 16) ≤ x3 → b_X5_beginAnew_36 (qv (shp u) q) [some (.ref 17), none, none, some (.int 0)] [] (shp u) I J) ∧ (¬ (nI 16) ≤ x3 → (vp_in x3 16 ∧ r12 [some (.ref 17), none, none, some (.int (x3 + 1))] [] (shp u) (zu I 18 (x3).toNatClampNeg 0) J))) := rfl
set_option maxRecDepth 100000 in
set_option maxHeartbeats 8000000 in
theorem g_X5_beginAnew_a_36 (u : Nat)  (r36 : ZK) (o1 : Option Value) (o2 : Option Value) (x3 : Int32) (I : ZI) (J : ZJ) (q : YQv) : bb_X5_beginAnew_36 (qv (shp u) q) r36 [some (.ref 17), o1, o2, some (.int x3)] [] (shp u) I J = (((nI 6) ≤ x3 → ((shp u) = (shp u) ∧ q I J)) ∧ (¬ (nI 6) ≤ x3 → (vp_in x3 6 ∧ r36 [some (.ref 17), none, none, some (.int (x3 + 1))] [] (shp u) (zu I 19 (x3).toNatClampNeg 0) J))) := rfl
-- X5_beginAnew (3, 'i', 'i')
set_option maxRecDepth 100000 in
set_option maxHeartbeats 8000000 in
theorem g_X5_beginAnew (u : Nat) (x1 : Int32) (x2 : Int32) (I : ZI) (J : ZJ) (q : YQv) : b_X5_beginAnew_0 (qv (shp u) q) [some (.ref 3), some (.int x1), some (.int x2), none] [] (shp u) I J = (b_X5_beginAnew_12 (qv (shp u) q) [some (.ref 3), some (.int x1), some (.int x2), some (.int 0)] [] (shp u) (zu (zu I 3 0 x1) 3 1 x2) J) := rfl
set_option maxRecDepth 100000 in
set_option maxHeartbeats 8000000 in
theorem e_X5_beginAnew (u : Nat) (x1 : Int32) (x2 : Int32) (I : ZI) (J : ZJ) (q : YQv) : u_X5_beginAnew [.ref 3, .int x1, .int x2] (shp u) I J q = (b_X5_beginAnew_12 (qv (shp u) q) [some (.ref 3), some (.int x1), some (.int x2), some (.int 0)] [] (shp u) (zu (zu I 3 0 x1) 3 1 x2) J) := g_X5_beginAnew u x1 x2 I J q
set_option maxRecDepth 100000 in
set_option maxHeartbeats 8000000 in
theorem g_X5_beginAnew_12 (u : Nat)  (r12 : ZK) (o1 : Option Value) (o2 : Option Value) (x3 : Int32) (I : ZI) (J : ZJ) (q : YQv) : bb_X5_beginAnew_12 (qv (shp u) q) r12 [some (.ref 3), o1, o2, some (.int x3)] [] (shp u) I J = (((nI 16) ≤ x3 → b_X5_beginAnew_36 (qv (shp u) q) [some (.ref 3), none, none, some (.int 0)] [] (shp u) I J) ∧ (¬ (nI 16) ≤ x3 → (vp_in x3 16 ∧ r12 [some (.ref 3), none, none, some (.int (x3 + 1))] [] (shp u) (zu I 4 (x3).toNatClampNeg 0) J))) := rfl
set_option maxRecDepth 100000 in
set_option maxHeartbeats 8000000 in
theorem g_X5_beginAnew_36 (u : Nat)  (r36 : ZK) (o1 : Option Value) (o2 : Option Value) (x3 : Int32) (I : ZI) (J : ZJ) (q : YQv) : bb_X5_beginAnew_36 (qv (shp u) q) r36 [some (.ref 3), o1, o2, some (.int x3)] [] (shp u) I J = (((nI 6) ≤ x3 → ((shp u) = (shp u) ∧ q I J)) ∧ (¬ (nI 6) ≤ x3 → (vp_in x3 6 ∧ r36 [some (.ref 3), none, none, some (.int (x3 + 1))] [] (shp u) (zu I 5 (x3).toNatClampNeg 0) J))) := rfl
-- X8_begin (20, 'i', 'i', 'i')
set_option maxRecDepth 100000 in
set_option maxHeartbeats 8000000 in
theorem g_X8_begin_b (u : Nat) (x1 : Int32) (x2 : Int32) (x3 : Int32) (I : ZI) (J : ZJ) (q : YQv) : b_X8_begin_0 (qv (shp u) q) [some (.ref 20), some (.int x1), some (.int x2), some (.int x3)] [] (shp u) I J = ((shp u) = (shp u) ∧ q (zu (zu (zu (zu (zu I 20 0 x1) 20 1 0) 20 2 x2) 20 3 x3) 20 4 0) J) := rfl
set_option maxRecDepth 100000 in
set_option maxHeartbeats 8000000 in
theorem e_X8_begin_b (u : Nat) (x1 : Int32) (x2 : Int32) (x3 : Int32) (I : ZI) (J : ZJ) (q : YQv) : u_X8_begin [.ref 20, .int x1, .int x2, .int x3] (shp u) I J q = ((shp u) = (shp u) ∧ q (zu (zu (zu (zu (zu I 20 0 x1) 20 1 0) 20 2 x2) 20 3 x3) 20 4 0) J) := g_X8_begin_b u x1 x2 x3 I J q
-- X8_begin (33, 'i', 'i', 'i')
set_option maxRecDepth 100000 in
set_option maxHeartbeats 8000000 in
theorem g_X8_begin (u : Nat) (x1 : Int32) (x2 : Int32) (x3 : Int32) (I : ZI) (J : ZJ) (q : YQv) : b_X8_begin_0 (qv (shp u) q) [some (.ref 33), some (.int x1), some (.int x2), some (.int x3)] [] (shp u) I J = ((shp u) = (shp u) ∧ q (zu (zu (zu (zu (zu I 33 0 x1) 33 1 0) 33 2 x2) 33 3 x3) 33 4 0) J) := rfl
set_option maxRecDepth 100000 in
set_option maxHeartbeats 8000000 in
theorem e_X8_begin (u : Nat) (x1 : Int32) (x2 : Int32) (x3 : Int32) (I : ZI) (J : ZJ) (q : YQv) : u_X8_begin [.ref 33, .int x1, .int x2, .int x3] (shp u) I J q = ((shp u) = (shp u) ∧ q (zu (zu (zu (zu (zu I 33 0 x1) 33 1 0) 33 2 x2) 33 3 x3) 33 4 0) J) := g_X8_begin u x1 x2 x3 I J q
-- X8_begin (6, 'i', 'i', 'i')
set_option maxRecDepth 100000 in
set_option maxHeartbeats 8000000 in
theorem g_X8_begin_a (u : Nat) (x1 : Int32) (x2 : Int32) (x3 : Int32) (I : ZI) (J : ZJ) (q : YQv) : b_X8_begin_0 (qv (shp u) q) [some (.ref 6), some (.int x1), some (.int x2), some (.int x3)] [] (shp u) I J = ((shp u) = (shp u) ∧ q (zu (zu (zu (zu (zu I 6 0 x1) 6 1 0) 6 2 x2) 6 3 x3) 6 4 0) J) := rfl
set_option maxRecDepth 100000 in
set_option maxHeartbeats 8000000 in
theorem e_X8_begin_a (u : Nat) (x1 : Int32) (x2 : Int32) (x3 : Int32) (I : ZI) (J : ZJ) (q : YQv) : u_X8_begin [.ref 6, .int x1, .int x2, .int x3] (shp u) I J q = ((shp u) = (shp u) ∧ q (zu (zu (zu (zu (zu I 6 0 x1) 6 1 0) 6 2 x2) 6 3 x3) 6 4 0) J) := g_X8_begin_a u x1 x2 x3 I J q
-- X10_beginAnew (16, 'i', 'i')
set_option maxRecDepth 100000 in
set_option maxHeartbeats 8000000 in
theorem g_X10_beginAnew_a (u : Nat) (f_X5_beginAnew : YTv) (f_X8_begin : YTv) (x1 : Int32) (x2 : Int32) (I : ZI) (J : ZJ) (q : YQv) : b_X10_beginAnew_0 f_X5_beginAnew f_X8_begin (qv (shp u) q) [some (.ref 16), some (.int x1), some (.int x2)] [] (shp u) I J = (f_X5_beginAnew [.ref 17, .int x1, .int x2] (shp u) I J (fun I1 J1 => (f_X8_begin [.ref 20, .int (-1), .int 0, .int 0] (shp u) I1 J1 (fun I2 J2 => ((shp u) = (shp u) ∧ q (zu (zu I2 16 2 0) 16 5 0) J2))))) := rfl
set_option maxRecDepth 100000 in
set_option maxHeartbeats 8000000 in
theorem e_X10_beginAnew_a (u : Nat) (x1 : Int32) (x2 : Int32) (I : ZI) (J : ZJ) (q : YQv) : u_X10_beginAnew [.ref 16, .int x1, .int x2] (shp u) I J q = (u_X5_beginAnew [.ref 17, .int x1, .int x2] (shp u) I J (fun I1 J1 => (u_X8_begin [.ref 20, .int (-1), .int 0, .int 0] (shp u) I1 J1 (fun I2 J2 => ((shp u) = (shp u) ∧ q (zu (zu I2 16 2 0) 16 5 0) J2))))) := g_X10_beginAnew_a u u_X5_beginAnew u_X8_begin x1 x2 I J q
-- X10_beginAnew (2, 'i', 'i')
set_option maxRecDepth 100000 in
set_option maxHeartbeats 8000000 in
theorem g_X10_beginAnew (u : Nat) (f_X5_beginAnew : YTv) (f_X8_begin : YTv) (x1 : Int32) (x2 : Int32) (I : ZI) (J : ZJ) (q : YQv) : b_X10_beginAnew_0 f_X5_beginAnew f_X8_begin (qv (shp u) q) [some (.ref 2), some (.int x1), some (.int x2)] [] (shp u) I J = (f_X5_beginAnew [.ref 3, .int x1, .int x2] (shp u) I J (fun I1 J1 => (f_X8_begin [.ref 6, .int (-1), .int 0, .int 0] (shp u) I1 J1 (fun I2 J2 => ((shp u) = (shp u) ∧ q (zu (zu I2 2 2 0) 2 5 0) J2))))) := rfl
set_option maxRecDepth 100000 in
set_option maxHeartbeats 8000000 in
theorem e_X10_beginAnew (u : Nat) (x1 : Int32) (x2 : Int32) (I : ZI) (J : ZJ) (q : YQv) : u_X10_beginAnew [.ref 2, .int x1, .int x2] (shp u) I J q = (u_X5_beginAnew [.ref 3, .int x1, .int x2] (shp u) I J (fun I1 J1 => (u_X8_begin [.ref 6, .int (-1), .int 0, .int 0] (shp u) I1 J1 (fun I2 J2 => ((shp u) = (shp u) ∧ q (zu (zu I2 2 2 0) 2 5 0) J2))))) := g_X10_beginAnew u u_X5_beginAnew u_X8_begin x1 x2 I J q
-- X11_road (0, 'i', 'i')
set_option maxRecDepth 100000 in
set_option maxHeartbeats 8000000 in
theorem g_X11_road (u : Nat) (f_X11_within : YTi) (f_X11_bad : YTi) (f_X10_beginAnew : YTv) (x1 : Int32) (x2 : Int32) (I : ZI) (J : ZJ) (q : YQi) : b_X11_road_0 f_X11_within f_X11_bad f_X10_beginAnew (qi (shp u) q) [some (.ref 0), some (.int x1), some (.int x2), none] [] (shp u) I J = (f_X11_within [.int x1, .int 1, .int 15] (shp u) I J (fun I1 J1 v1 => ((v1 = 0 → b_X11_road_20 f_X11_within f_X11_bad f_X10_beginAnew (qi (shp u) q) [some (.ref 0), some (.int x1), some (.int x2), none] [] (shp u) I1 J1) ∧ (¬ v1 = 0 → (f_X11_within [.int x2, .int 1, .int 12] (shp u) I1 J1 (fun I2 J2 v2 => ((¬ v2 = 0 → (f_X10_beginAnew [.ref 2, .int x1, .int x2] (shp u) I2 J2 (fun I3 J3 => ((shp u) = (shp u) ∧ q I3 J3 (I2 2 2))))) ∧ (v2 = 0 → b_X11_road_20 f_X11_within f_X11_bad f_X10_beginAnew (qi (shp u) q) [some (.ref 0), some (.int x1), some (.int x2), none] [] (shp u) I2 J2)))))))) := rfl
set_option maxRecDepth 100000 in
set_option maxHeartbeats 8000000 in
theorem e_X11_road (u : Nat) (x1 : Int32) (x2 : Int32) (I : ZI) (J : ZJ) (q : YQi) : u_X11_road [.ref 0, .int x1, .int x2] (shp u) I J q = (u_X11_within [.int x1, .int 1, .int 15] (shp u) I J (fun I1 J1 v1 => ((v1 = 0 → b_X11_road_20 u_X11_within u_X11_bad u_X10_beginAnew (qi (shp u) q) [some (.ref 0), some (.int x1), some (.int x2), none] [] (shp u) I1 J1) ∧ (¬ v1 = 0 → (u_X11_within [.int x2, .int 1, .int 12] (shp u) I1 J1 (fun I2 J2 v2 => ((¬ v2 = 0 → (u_X10_beginAnew [.ref 2, .int x1, .int x2] (shp u) I2 J2 (fun I3 J3 => ((shp u) = (shp u) ∧ q I3 J3 (I2 2 2))))) ∧ (v2 = 0 → b_X11_road_20 u_X11_within u_X11_bad u_X10_beginAnew (qi (shp u) q) [some (.ref 0), some (.int x1), some (.int x2), none] [] (shp u) I2 J2)))))))) := g_X11_road u u_X11_within u_X11_bad u_X10_beginAnew x1 x2 I J q
set_option maxRecDepth 100000 in
set_option maxHeartbeats 8000000 in
theorem g_X11_road_20 (u : Nat) (f_X11_within : YTi) (f_X11_bad : YTi) (f_X10_beginAnew : YTv)  (o1 : Option Value) (o2 : Option Value) (o3 : Option Value) (I : ZI) (J : ZJ) (q : YQi) : b_X11_road_20 f_X11_within f_X11_bad f_X10_beginAnew (qi (shp u) q) [some (.ref 0), o1, o2, o3] [] (shp u) I J = (f_X11_bad [.ref 0, .int (-2)] (shp u) I J (fun I1 J1 v1 => ((shp u) = (shp u) ∧ q I1 J1 v1))) := rfl
-- X11_isCell (0, 'i')
set_option maxRecDepth 100000 in
set_option maxHeartbeats 8000000 in
theorem g_X11_isCell (u : Nat) (f_X11_within : YTi) (x1 : Int32) (I : ZI) (J : ZJ) (q : YQi) : b_X11_isCell_0 f_X11_within (qi (shp u) q) [some (.ref 0), some (.int x1)] [] (shp u) I J = (f_X11_within [.int x1, .int 0, .int (I 3 0)] (shp u) I J (fun I1 J1 v1 => ((v1 = 0 ∨ v1 = 1) ∧ ((shp u) = (shp u) ∧ q I1 J1 v1)))) := rfl
set_option maxRecDepth 100000 in
set_option maxHeartbeats 8000000 in
theorem e_X11_isCell (u : Nat) (x1 : Int32) (I : ZI) (J : ZJ) (q : YQi) : u_X11_isCell [.ref 0, .int x1] (shp u) I J q = (u_X11_within [.int x1, .int 0, .int (I 3 0)] (shp u) I J (fun I1 J1 v1 => ((v1 = 0 ∨ v1 = 1) ∧ ((shp u) = (shp u) ∧ q I1 J1 v1)))) := g_X11_isCell u u_X11_within x1 I J q
-- X5_cobbleOf (3, 'i')
set_option maxRecDepth 100000 in
set_option maxHeartbeats 8000000 in
theorem g_X5_cobbleOf (u : Nat) (f_X11_within : YTi) (x1 : Int32) (I : ZI) (J : ZJ) (q : YQi) : b_X5_cobbleOf_0 f_X11_within (qi (shp u) q) [some (.ref 3), some (.int x1)] [] (shp u) I J = (f_X11_within [.int x1, .int 0, .int ((nI 16) - 1)] (shp u) I J (fun I1 J1 v1 => ((v1 = 0 → b_X5_cobbleOf_25 f_X11_within (qi (shp u) q) [some (.ref 3), some (.int x1)] [.int 0] (shp u) I1 J1) ∧ (¬ v1 = 0 → (vp_in x1 16 ∧ b_X5_cobbleOf_25 f_X11_within (qi (shp u) q) [some (.ref 3), some (.int x1)] [.int (I1 4 (x1).toNatClampNeg)] (shp u) I1 J1))))) := rfl
set_option maxRecDepth 100000 in
set_option maxHeartbeats 8000000 in
theorem e_X5_cobbleOf (u : Nat) (x1 : Int32) (I : ZI) (J : ZJ) (q : YQi) : u_X5_cobbleOf [.ref 3, .int x1] (shp u) I J q = (u_X11_within [.int x1, .int 0, .int ((nI 16) - 1)] (shp u) I J (fun I1 J1 v1 => ((v1 = 0 → b_X5_cobbleOf_25 u_X11_within (qi (shp u) q) [some (.ref 3), some (.int x1)] [.int 0] (shp u) I1 J1) ∧ (¬ v1 = 0 → (vp_in x1 16 ∧ b_X5_cobbleOf_25 u_X11_within (qi (shp u) q) [some (.ref 3), some (.int x1)] [.int (I1 4 (x1).toNatClampNeg)] (shp u) I1 J1))))) := g_X5_cobbleOf u u_X11_within x1 I J q
set_option maxRecDepth 100000 in
set_option maxHeartbeats 8000000 in
theorem g_X5_cobbleOf_25 (u : Nat) (f_X11_within : YTi)  (o0 : Option Value) (o1 : Option Value) (y0 : Int32) (I : ZI) (J : ZJ) (q : YQi) : b_X5_cobbleOf_25 f_X11_within (qi (shp u) q) [o0, o1] [.int y0] (shp u) I J = ((shp u) = (shp u) ∧ q I J y0) := rfl
-- X5_layCobble (17, 'i', 'i')
set_option maxRecDepth 100000 in
set_option maxHeartbeats 8000000 in
theorem g_X5_layCobble_a (u : Nat) (f_X11_within : YTi) (x1 : Int32) (x2 : Int32) (I : ZI) (J : ZJ) (q : YQv) : b_X5_layCobble_0 f_X11_within (qv (shp u) q) [some (.ref 17), some (.int x1), some (.int x2)] [] (shp u) I J = (f_X11_within [.int x1, .int 0, .int ((nI 16) - 1)] (shp u) I J (fun I1 J1 v1 => ((v1 = 0 → b_X5_layCobble_22 f_X11_within (qv (shp u) q) [some (.ref 17), some (.int x1), some (.int x2)] [] (shp u) I1 J1) ∧ (¬ v1 = 0 → (vp_in x1 16 ∧ b_X5_layCobble_22 f_X11_within (qv (shp u) q) [some (.ref 17), some (.int x1), some (.int x2)] [] (shp u) (zu I1 18 (x1).toNatClampNeg x2) J1))))) := rfl
set_option maxRecDepth 100000 in
set_option maxHeartbeats 8000000 in
theorem e_X5_layCobble_a (u : Nat) (x1 : Int32) (x2 : Int32) (I : ZI) (J : ZJ) (q : YQv) : u_X5_layCobble [.ref 17, .int x1, .int x2] (shp u) I J q = (u_X11_within [.int x1, .int 0, .int ((nI 16) - 1)] (shp u) I J (fun I1 J1 v1 => ((v1 = 0 → b_X5_layCobble_22 u_X11_within (qv (shp u) q) [some (.ref 17), some (.int x1), some (.int x2)] [] (shp u) I1 J1) ∧ (¬ v1 = 0 → (vp_in x1 16 ∧ b_X5_layCobble_22 u_X11_within (qv (shp u) q) [some (.ref 17), some (.int x1), some (.int x2)] [] (shp u) (zu I1 18 (x1).toNatClampNeg x2) J1))))) := g_X5_layCobble_a u u_X11_within x1 x2 I J q
set_option maxRecDepth 100000 in
set_option maxHeartbeats 8000000 in
theorem g_X5_layCobble_a_22 (u : Nat) (f_X11_within : YTi)  (o0 : Option Value) (o1 : Option Value) (o2 : Option Value) (I : ZI) (J : ZJ) (q : YQv) : b_X5_layCobble_22 f_X11_within (qv (shp u) q) [o0, o1, o2] [] (shp u) I J = ((shp u) = (shp u) ∧ q I J) := rfl
-- X5_layCobble (3, 'i', 'i')
set_option maxRecDepth 100000 in
set_option maxHeartbeats 8000000 in
theorem g_X5_layCobble (u : Nat) (f_X11_within : YTi) (x1 : Int32) (x2 : Int32) (I : ZI) (J : ZJ) (q : YQv) : b_X5_layCobble_0 f_X11_within (qv (shp u) q) [some (.ref 3), some (.int x1), some (.int x2)] [] (shp u) I J = (f_X11_within [.int x1, .int 0, .int ((nI 16) - 1)] (shp u) I J (fun I1 J1 v1 => ((v1 = 0 → b_X5_layCobble_22 f_X11_within (qv (shp u) q) [some (.ref 3), some (.int x1), some (.int x2)] [] (shp u) I1 J1) ∧ (¬ v1 = 0 → (vp_in x1 16 ∧ b_X5_layCobble_22 f_X11_within (qv (shp u) q) [some (.ref 3), some (.int x1), some (.int x2)] [] (shp u) (zu I1 4 (x1).toNatClampNeg x2) J1))))) := rfl
set_option maxRecDepth 100000 in
set_option maxHeartbeats 8000000 in
theorem e_X5_layCobble (u : Nat) (x1 : Int32) (x2 : Int32) (I : ZI) (J : ZJ) (q : YQv) : u_X5_layCobble [.ref 3, .int x1, .int x2] (shp u) I J q = (u_X11_within [.int x1, .int 0, .int ((nI 16) - 1)] (shp u) I J (fun I1 J1 v1 => ((v1 = 0 → b_X5_layCobble_22 u_X11_within (qv (shp u) q) [some (.ref 3), some (.int x1), some (.int x2)] [] (shp u) I1 J1) ∧ (¬ v1 = 0 → (vp_in x1 16 ∧ b_X5_layCobble_22 u_X11_within (qv (shp u) q) [some (.ref 3), some (.int x1), some (.int x2)] [] (shp u) (zu I1 4 (x1).toNatClampNeg x2) J1))))) := g_X5_layCobble u u_X11_within x1 x2 I J q
set_option maxRecDepth 100000 in
set_option maxHeartbeats 8000000 in
theorem g_X5_layCobble_22 (u : Nat) (f_X11_within : YTi)  (o0 : Option Value) (o1 : Option Value) (o2 : Option Value) (I : ZI) (J : ZJ) (q : YQv) : b_X5_layCobble_22 f_X11_within (qv (shp u) q) [o0, o1, o2] [] (shp u) I J = ((shp u) = (shp u) ∧ q I J) := rfl
-- X11_cobble (0, 'i', 'i')
set_option maxRecDepth 100000 in
set_option maxHeartbeats 8000000 in
theorem g_X11_cobble (u : Nat) (f_X11_isCell : YTi) (f_X11_within : YTi) (f_X11_bad : YTi) (f_X5_cobbleOf : YTi) (f_X5_layCobble : YTv) (x1 : Int32) (x2 : Int32) (I : ZI) (J : ZJ) (q : YQi) : b_X11_cobble_0 f_X11_isCell f_X11_within f_X11_bad f_X5_cobbleOf f_X5_layCobble (qi (shp u) q) [some (.ref 0), some (.int x1), some (.int x2), none] [] (shp u) I J = (f_X11_isCell [.ref 0, .int x1] (shp u) I J (fun I1 J1 v1 => ((v1 = 0 → b_X11_cobble_18 f_X11_isCell f_X11_within f_X11_bad f_X5_cobbleOf f_X5_layCobble (qi (shp u) q) [some (.ref 0), some (.int x1), some (.int x2), none] [] (shp u) I1 J1) ∧ (¬ v1 = 0 → (f_X11_within [.int x2, .int (-4), .int 4] (shp u) I1 J1 (fun I2 J2 v2 => ((¬ v2 = 0 → (f_X5_cobbleOf [.ref 3, .int x1] (shp u) I2 J2 (fun I3 J3 v3 => (f_X5_layCobble [.ref 3, .int x1, .int x2] (shp u) I3 J3 (fun I4 J4 => ((shp u) = (shp u) ∧ q I4 J4 v3)))))) ∧ (v2 = 0 → b_X11_cobble_18 f_X11_isCell f_X11_within f_X11_bad f_X5_cobbleOf f_X5_layCobble (qi (shp u) q) [some (.ref 0), some (.int x1), some (.int x2), none] [] (shp u) I2 J2)))))))) := rfl
set_option maxRecDepth 100000 in
set_option maxHeartbeats 8000000 in
theorem e_X11_cobble (u : Nat) (x1 : Int32) (x2 : Int32) (I : ZI) (J : ZJ) (q : YQi) : u_X11_cobble [.ref 0, .int x1, .int x2] (shp u) I J q = (u_X11_isCell [.ref 0, .int x1] (shp u) I J (fun I1 J1 v1 => ((v1 = 0 → b_X11_cobble_18 u_X11_isCell u_X11_within u_X11_bad u_X5_cobbleOf u_X5_layCobble (qi (shp u) q) [some (.ref 0), some (.int x1), some (.int x2), none] [] (shp u) I1 J1) ∧ (¬ v1 = 0 → (u_X11_within [.int x2, .int (-4), .int 4] (shp u) I1 J1 (fun I2 J2 v2 => ((¬ v2 = 0 → (u_X5_cobbleOf [.ref 3, .int x1] (shp u) I2 J2 (fun I3 J3 v3 => (u_X5_layCobble [.ref 3, .int x1, .int x2] (shp u) I3 J3 (fun I4 J4 => ((shp u) = (shp u) ∧ q I4 J4 v3)))))) ∧ (v2 = 0 → b_X11_cobble_18 u_X11_isCell u_X11_within u_X11_bad u_X5_cobbleOf u_X5_layCobble (qi (shp u) q) [some (.ref 0), some (.int x1), some (.int x2), none] [] (shp u) I2 J2)))))))) := g_X11_cobble u u_X11_isCell u_X11_within u_X11_bad u_X5_cobbleOf u_X5_layCobble x1 x2 I J q
set_option maxRecDepth 100000 in
set_option maxHeartbeats 8000000 in
theorem g_X11_cobble_18 (u : Nat) (f_X11_isCell : YTi) (f_X11_within : YTi) (f_X11_bad : YTi) (f_X5_cobbleOf : YTi) (f_X5_layCobble : YTv)  (o1 : Option Value) (o2 : Option Value) (o3 : Option Value) (I : ZI) (J : ZJ) (q : YQi) : b_X11_cobble_18 f_X11_isCell f_X11_within f_X11_bad f_X5_cobbleOf f_X5_layCobble (qi (shp u) q) [some (.ref 0), o1, o2, o3] [] (shp u) I J = (f_X11_bad [.ref 0, .int (-10)] (shp u) I J (fun I1 J1 v1 => ((shp u) = (shp u) ∧ q I1 J1 v1))) := rfl
-- X5_windIn (3, 'i')
set_option maxRecDepth 100000 in
set_option maxHeartbeats 8000000 in
theorem g_X5_windIn (u : Nat) (x1 : Int32) (I : ZI) (J : ZJ) (q : YQi) : b_X5_windIn_0 (qi (shp u) q) [some (.ref 3), some (.int x1)] [] (shp u) I J = ((¬ (6 : Int32) = 0) ∧ (vp_in (zfm x1 6) 6 ∧ ((shp u) = (shp u) ∧ q I J (I 5 ((zfm x1 6)).toNatClampNeg)))) := rfl
set_option maxRecDepth 100000 in
set_option maxHeartbeats 8000000 in
theorem e_X5_windIn (u : Nat) (x1 : Int32) (I : ZI) (J : ZJ) (q : YQi) : u_X5_windIn [.ref 3, .int x1] (shp u) I J q = ((¬ (6 : Int32) = 0) ∧ (vp_in (zfm x1 6) 6 ∧ ((shp u) = (shp u) ∧ q I J (I 5 ((zfm x1 6)).toNatClampNeg)))) := g_X5_windIn u x1 I J q
-- X5_setWind (17, 'i', 'i')
set_option maxRecDepth 100000 in
set_option maxHeartbeats 8000000 in
theorem g_X5_setWind_a (u : Nat) (x1 : Int32) (x2 : Int32) (I : ZI) (J : ZJ) (q : YQv) : b_X5_setWind_0 (qv (shp u) q) [some (.ref 17), some (.int x1), some (.int x2)] [] (shp u) I J = ((¬ (6 : Int32) = 0) ∧ (vp_in (zfm x1 6) 6 ∧ ((shp u) = (shp u) ∧ q (zu I 19 ((zfm x1 6)).toNatClampNeg x2) J))) := rfl
set_option maxRecDepth 100000 in
set_option maxHeartbeats 8000000 in
theorem e_X5_setWind_a (u : Nat) (x1 : Int32) (x2 : Int32) (I : ZI) (J : ZJ) (q : YQv) : u_X5_setWind [.ref 17, .int x1, .int x2] (shp u) I J q = ((¬ (6 : Int32) = 0) ∧ (vp_in (zfm x1 6) 6 ∧ ((shp u) = (shp u) ∧ q (zu I 19 ((zfm x1 6)).toNatClampNeg x2) J))) := g_X5_setWind_a u x1 x2 I J q
-- X5_setWind (3, 'i', 'i')
set_option maxRecDepth 100000 in
set_option maxHeartbeats 8000000 in
theorem g_X5_setWind (u : Nat) (x1 : Int32) (x2 : Int32) (I : ZI) (J : ZJ) (q : YQv) : b_X5_setWind_0 (qv (shp u) q) [some (.ref 3), some (.int x1), some (.int x2)] [] (shp u) I J = ((¬ (6 : Int32) = 0) ∧ (vp_in (zfm x1 6) 6 ∧ ((shp u) = (shp u) ∧ q (zu I 5 ((zfm x1 6)).toNatClampNeg x2) J))) := rfl
set_option maxRecDepth 100000 in
set_option maxHeartbeats 8000000 in
theorem e_X5_setWind (u : Nat) (x1 : Int32) (x2 : Int32) (I : ZI) (J : ZJ) (q : YQv) : u_X5_setWind [.ref 3, .int x1, .int x2] (shp u) I J q = ((¬ (6 : Int32) = 0) ∧ (vp_in (zfm x1 6) 6 ∧ ((shp u) = (shp u) ∧ q (zu I 5 ((zfm x1 6)).toNatClampNeg x2) J))) := g_X5_setWind u x1 x2 I J q
-- X11_wind (0, 'i', 'i')
set_option maxRecDepth 100000 in
set_option maxHeartbeats 8000000 in
theorem g_X11_wind (u : Nat) (f_X11_within : YTi) (f_X11_bad : YTi) (f_X5_windIn : YTi) (f_X5_setWind : YTv) (x1 : Int32) (x2 : Int32) (I : ZI) (J : ZJ) (q : YQi) : b_X11_wind_0 f_X11_within f_X11_bad f_X5_windIn f_X5_setWind (qi (shp u) q) [some (.ref 0), some (.int x1), some (.int x2), none] [] (shp u) I J = (f_X11_within [.int x1, .int 0, .int 5] (shp u) I J (fun I1 J1 v1 => ((v1 = 0 → b_X11_wind_19 f_X11_within f_X11_bad f_X5_windIn f_X5_setWind (qi (shp u) q) [some (.ref 0), some (.int x1), some (.int x2), none] [] (shp u) I1 J1) ∧ (¬ v1 = 0 → (f_X11_within [.int x2, .int (-3), .int 3] (shp u) I1 J1 (fun I2 J2 v2 => ((¬ v2 = 0 → (f_X5_windIn [.ref 3, .int x1] (shp u) I2 J2 (fun I3 J3 v3 => (f_X5_setWind [.ref 3, .int x1, .int x2] (shp u) I3 J3 (fun I4 J4 => ((shp u) = (shp u) ∧ q I4 J4 v3)))))) ∧ (v2 = 0 → b_X11_wind_19 f_X11_within f_X11_bad f_X5_windIn f_X5_setWind (qi (shp u) q) [some (.ref 0), some (.int x1), some (.int x2), none] [] (shp u) I2 J2)))))))) := rfl
set_option maxRecDepth 100000 in
set_option maxHeartbeats 8000000 in
theorem e_X11_wind (u : Nat) (x1 : Int32) (x2 : Int32) (I : ZI) (J : ZJ) (q : YQi) : u_X11_wind [.ref 0, .int x1, .int x2] (shp u) I J q = (u_X11_within [.int x1, .int 0, .int 5] (shp u) I J (fun I1 J1 v1 => ((v1 = 0 → b_X11_wind_19 u_X11_within u_X11_bad u_X5_windIn u_X5_setWind (qi (shp u) q) [some (.ref 0), some (.int x1), some (.int x2), none] [] (shp u) I1 J1) ∧ (¬ v1 = 0 → (u_X11_within [.int x2, .int (-3), .int 3] (shp u) I1 J1 (fun I2 J2 v2 => ((¬ v2 = 0 → (u_X5_windIn [.ref 3, .int x1] (shp u) I2 J2 (fun I3 J3 v3 => (u_X5_setWind [.ref 3, .int x1, .int x2] (shp u) I3 J3 (fun I4 J4 => ((shp u) = (shp u) ∧ q I4 J4 v3)))))) ∧ (v2 = 0 → b_X11_wind_19 u_X11_within u_X11_bad u_X5_windIn u_X5_setWind (qi (shp u) q) [some (.ref 0), some (.int x1), some (.int x2), none] [] (shp u) I2 J2)))))))) := g_X11_wind u u_X11_within u_X11_bad u_X5_windIn u_X5_setWind x1 x2 I J q
set_option maxRecDepth 100000 in
set_option maxHeartbeats 8000000 in
theorem g_X11_wind_19 (u : Nat) (f_X11_within : YTi) (f_X11_bad : YTi) (f_X5_windIn : YTi) (f_X5_setWind : YTv)  (o1 : Option Value) (o2 : Option Value) (o3 : Option Value) (I : ZI) (J : ZJ) (q : YQi) : b_X11_wind_19 f_X11_within f_X11_bad f_X5_windIn f_X5_setWind (qi (shp u) q) [some (.ref 0), o1, o2, o3] [] (shp u) I J = (f_X11_bad [.ref 0, .int (-10)] (shp u) I J (fun I1 J1 v1 => ((shp u) = (shp u) ∧ q I1 J1 v1))) := rfl
-- X11_full (0,)
set_option maxRecDepth 100000 in
set_option maxHeartbeats 8000000 in
theorem g_X11_full (u : Nat)  (I : ZI) (J : ZJ) (q : YQi) : b_X11_full_0 (qi (shp u) q) [some (.ref 0)] [] (shp u) I J = ((shp u) = (shp u) ∧ q (zu I 0 12 ((I 0 12) + 1)) J (-4)) := rfl
set_option maxRecDepth 100000 in
set_option maxHeartbeats 8000000 in
theorem e_X11_full (u : Nat)  (I : ZI) (J : ZJ) (q : YQi) : u_X11_full [.ref 0] (shp u) I J q = ((shp u) = (shp u) ∧ q (zu I 0 12 ((I 0 12) + 1)) J (-4)) := g_X11_full u  I J q
-- X10_addHead (16, 'i', 'i')
set_option maxRecDepth 100000 in
set_option maxHeartbeats 8000000 in
theorem g_X10_addHead_a (u : Nat) (f_X11_within : YTi) (x1 : Int32) (x2 : Int32) (I : ZI) (J : ZJ) (q : YQv) : b_X10_addHead_0 f_X11_within (qv (shp u) q) [some (.ref 16), some (.int x1), some (.int x2)] [] (shp u) I J = (f_X11_within [.int (I 16 2), .int 0, .int 4] (shp u) I J (fun I1 J1 v1 => ((v1 = 0 → b_X10_addHead_42 f_X11_within (qv (shp u) q) [some (.ref 16), some (.int x1), some (.int x2)] [] (shp u) I1 J1) ∧ (¬ v1 = 0 → (vp_in (I1 16 2) 5 ∧ (vp_in (I1 16 2) 5 ∧ b_X10_addHead_42 f_X11_within (qv (shp u) q) [some (.ref 16), some (.int x1), some (.int x2)] [] (shp u) (zu (zu (zu I1 24 ((I1 16 2)).toNatClampNeg x1) 25 ((I1 16 2)).toNatClampNeg x2) 16 2 ((I1 16 2) + 1)) J1)))))) := rfl
set_option maxRecDepth 100000 in
set_option maxHeartbeats 8000000 in
theorem e_X10_addHead_a (u : Nat) (x1 : Int32) (x2 : Int32) (I : ZI) (J : ZJ) (q : YQv) : u_X10_addHead [.ref 16, .int x1, .int x2] (shp u) I J q = (u_X11_within [.int (I 16 2), .int 0, .int 4] (shp u) I J (fun I1 J1 v1 => ((v1 = 0 → b_X10_addHead_42 u_X11_within (qv (shp u) q) [some (.ref 16), some (.int x1), some (.int x2)] [] (shp u) I1 J1) ∧ (¬ v1 = 0 → (vp_in (I1 16 2) 5 ∧ (vp_in (I1 16 2) 5 ∧ b_X10_addHead_42 u_X11_within (qv (shp u) q) [some (.ref 16), some (.int x1), some (.int x2)] [] (shp u) (zu (zu (zu I1 24 ((I1 16 2)).toNatClampNeg x1) 25 ((I1 16 2)).toNatClampNeg x2) 16 2 ((I1 16 2) + 1)) J1)))))) := g_X10_addHead_a u u_X11_within x1 x2 I J q
set_option maxRecDepth 100000 in
set_option maxHeartbeats 8000000 in
theorem g_X10_addHead_a_42 (u : Nat) (f_X11_within : YTi)  (o0 : Option Value) (o1 : Option Value) (o2 : Option Value) (I : ZI) (J : ZJ) (q : YQv) : b_X10_addHead_42 f_X11_within (qv (shp u) q) [o0, o1, o2] [] (shp u) I J = ((shp u) = (shp u) ∧ q I J) := rfl
-- X10_addHead (2, 'i', 'i')
set_option maxRecDepth 100000 in
set_option maxHeartbeats 8000000 in
theorem g_X10_addHead (u : Nat) (f_X11_within : YTi) (x1 : Int32) (x2 : Int32) (I : ZI) (J : ZJ) (q : YQv) : b_X10_addHead_0 f_X11_within (qv (shp u) q) [some (.ref 2), some (.int x1), some (.int x2)] [] (shp u) I J = (f_X11_within [.int (I 2 2), .int 0, .int 4] (shp u) I J (fun I1 J1 v1 => ((v1 = 0 → b_X10_addHead_42 f_X11_within (qv (shp u) q) [some (.ref 2), some (.int x1), some (.int x2)] [] (shp u) I1 J1) ∧ (¬ v1 = 0 → (vp_in (I1 2 2) 5 ∧ (vp_in (I1 2 2) 5 ∧ b_X10_addHead_42 f_X11_within (qv (shp u) q) [some (.ref 2), some (.int x1), some (.int x2)] [] (shp u) (zu (zu (zu I1 10 ((I1 2 2)).toNatClampNeg x1) 11 ((I1 2 2)).toNatClampNeg x2) 2 2 ((I1 2 2) + 1)) J1)))))) := rfl
set_option maxRecDepth 100000 in
set_option maxHeartbeats 8000000 in
theorem e_X10_addHead (u : Nat) (x1 : Int32) (x2 : Int32) (I : ZI) (J : ZJ) (q : YQv) : u_X10_addHead [.ref 2, .int x1, .int x2] (shp u) I J q = (u_X11_within [.int (I 2 2), .int 0, .int 4] (shp u) I J (fun I1 J1 v1 => ((v1 = 0 → b_X10_addHead_42 u_X11_within (qv (shp u) q) [some (.ref 2), some (.int x1), some (.int x2)] [] (shp u) I1 J1) ∧ (¬ v1 = 0 → (vp_in (I1 2 2) 5 ∧ (vp_in (I1 2 2) 5 ∧ b_X10_addHead_42 u_X11_within (qv (shp u) q) [some (.ref 2), some (.int x1), some (.int x2)] [] (shp u) (zu (zu (zu I1 10 ((I1 2 2)).toNatClampNeg x1) 11 ((I1 2 2)).toNatClampNeg x2) 2 2 ((I1 2 2) + 1)) J1)))))) := g_X10_addHead u u_X11_within x1 x2 I J q
set_option maxRecDepth 100000 in
set_option maxHeartbeats 8000000 in
theorem g_X10_addHead_42 (u : Nat) (f_X11_within : YTi)  (o0 : Option Value) (o1 : Option Value) (o2 : Option Value) (I : ZI) (J : ZJ) (q : YQv) : b_X10_addHead_42 f_X11_within (qv (shp u) q) [o0, o1, o2] [] (shp u) I J = ((shp u) = (shp u) ∧ q I J) := rfl
-- X11_head (0, 'i', 'i')
set_option maxRecDepth 100000 in
set_option maxHeartbeats 8000000 in
theorem g_X11_head (u : Nat) (f_X11_within : YTi) (f_X11_bad : YTi) (f_X11_full : YTi) (f_X10_addHead : YTv) (x1 : Int32) (x2 : Int32) (I : ZI) (J : ZJ) (q : YQi) : b_X11_head_0 f_X11_within f_X11_bad f_X11_full f_X10_addHead (qi (shp u) q) [some (.ref 0), some (.int x1), some (.int x2)] [] (shp u) I J = (f_X11_within [.int x1, .int 0, .int 5] (shp u) I J (fun I1 J1 v1 => ((v1 = 0 → b_X11_head_20 f_X11_within f_X11_bad f_X11_full f_X10_addHead (qi (shp u) q) [some (.ref 0), some (.int x1), some (.int x2)] [] (shp u) I1 J1) ∧ (¬ v1 = 0 → (f_X11_within [.int x2, .int (-12), .int 12] (shp u) I1 J1 (fun I2 J2 v2 => ((¬ v2 = 0 → (((I2 2 2) < (5 : Int32) → (f_X10_addHead [.ref 2, .int x1, .int x2] (shp u) I2 J2 (fun I3 J3 => ((shp u) = (shp u) ∧ q I3 J3 ((I3 2 2) - 1))))) ∧ (¬ (I2 2 2) < (5 : Int32) → (f_X11_full [.ref 0] (shp u) I2 J2 (fun I4 J4 v4 => ((shp u) = (shp u) ∧ q I4 J4 v4)))))) ∧ (v2 = 0 → b_X11_head_20 f_X11_within f_X11_bad f_X11_full f_X10_addHead (qi (shp u) q) [some (.ref 0), some (.int x1), some (.int x2)] [] (shp u) I2 J2)))))))) := rfl
set_option maxRecDepth 100000 in
set_option maxHeartbeats 8000000 in
theorem e_X11_head (u : Nat) (x1 : Int32) (x2 : Int32) (I : ZI) (J : ZJ) (q : YQi) : u_X11_head [.ref 0, .int x1, .int x2] (shp u) I J q = (u_X11_within [.int x1, .int 0, .int 5] (shp u) I J (fun I1 J1 v1 => ((v1 = 0 → b_X11_head_20 u_X11_within u_X11_bad u_X11_full u_X10_addHead (qi (shp u) q) [some (.ref 0), some (.int x1), some (.int x2)] [] (shp u) I1 J1) ∧ (¬ v1 = 0 → (u_X11_within [.int x2, .int (-12), .int 12] (shp u) I1 J1 (fun I2 J2 v2 => ((¬ v2 = 0 → (((I2 2 2) < (5 : Int32) → (u_X10_addHead [.ref 2, .int x1, .int x2] (shp u) I2 J2 (fun I3 J3 => ((shp u) = (shp u) ∧ q I3 J3 ((I3 2 2) - 1))))) ∧ (¬ (I2 2 2) < (5 : Int32) → (u_X11_full [.ref 0] (shp u) I2 J2 (fun I4 J4 v4 => ((shp u) = (shp u) ∧ q I4 J4 v4)))))) ∧ (v2 = 0 → b_X11_head_20 u_X11_within u_X11_bad u_X11_full u_X10_addHead (qi (shp u) q) [some (.ref 0), some (.int x1), some (.int x2)] [] (shp u) I2 J2)))))))) := g_X11_head u u_X11_within u_X11_bad u_X11_full u_X10_addHead x1 x2 I J q
set_option maxRecDepth 100000 in
set_option maxHeartbeats 8000000 in
theorem g_X11_head_20 (u : Nat) (f_X11_within : YTi) (f_X11_bad : YTi) (f_X11_full : YTi) (f_X10_addHead : YTv)  (o1 : Option Value) (o2 : Option Value) (I : ZI) (J : ZJ) (q : YQi) : b_X11_head_20 f_X11_within f_X11_bad f_X11_full f_X10_addHead (qi (shp u) q) [some (.ref 0), o1, o2] [] (shp u) I J = (f_X11_bad [.ref 0, .int (-2)] (shp u) I J (fun I1 J1 v1 => ((shp u) = (shp u) ∧ q I1 J1 v1))) := rfl
-- X4_add (31, 'i')
set_option maxRecDepth 100000 in
set_option maxHeartbeats 8000000 in
theorem g_X4_add (u : Nat) (f_X11_within : YTi) (x1 : Int32) (I : ZI) (J : ZJ) (q : YQv) : b_X4_add_0 f_X11_within (qv (shp u) q) [some (.ref 31), some (.int x1)] [] (shp u) I J = (f_X11_within [.int (I 31 1), .int 0, .int 149] (shp u) I J (fun I1 J1 v1 => ((v1 = 0 → b_X4_add_34 f_X11_within (qv (shp u) q) [some (.ref 31), some (.int x1)] [] (shp u) I1 J1) ∧ (¬ v1 = 0 → (vp_in (I1 31 1) 150 ∧ b_X4_add_34 f_X11_within (qv (shp u) q) [some (.ref 31), some (.int x1)] [] (shp u) (zu (zu I1 32 ((I1 31 1)).toNatClampNeg x1) 31 1 ((I1 31 1) + 1)) J1))))) := rfl
set_option maxRecDepth 100000 in
set_option maxHeartbeats 8000000 in
theorem e_X4_add (u : Nat) (x1 : Int32) (I : ZI) (J : ZJ) (q : YQv) : u_X4_add [.ref 31, .int x1] (shp u) I J q = (u_X11_within [.int (I 31 1), .int 0, .int 149] (shp u) I J (fun I1 J1 v1 => ((v1 = 0 → b_X4_add_34 u_X11_within (qv (shp u) q) [some (.ref 31), some (.int x1)] [] (shp u) I1 J1) ∧ (¬ v1 = 0 → (vp_in (I1 31 1) 150 ∧ b_X4_add_34 u_X11_within (qv (shp u) q) [some (.ref 31), some (.int x1)] [] (shp u) (zu (zu I1 32 ((I1 31 1)).toNatClampNeg x1) 31 1 ((I1 31 1) + 1)) J1))))) := g_X4_add u u_X11_within x1 I J q
set_option maxRecDepth 100000 in
set_option maxHeartbeats 8000000 in
theorem g_X4_add_34 (u : Nat) (f_X11_within : YTi)  (o0 : Option Value) (o1 : Option Value) (I : ZI) (J : ZJ) (q : YQv) : b_X4_add_34 f_X11_within (qv (shp u) q) [o0, o1] [] (shp u) I J = ((shp u) = (shp u) ∧ q I J) := rfl
-- X11_type (0, 'i')
set_option maxRecDepth 100000 in
set_option maxHeartbeats 8000000 in
theorem g_X11_type (u : Nat) (f_X11_within : YTi) (f_X11_bad : YTi) (f_X11_full : YTi) (f_X4_add : YTv) (x1 : Int32) (I : ZI) (J : ZJ) (q : YQi) : b_X11_type_0 f_X11_within f_X11_bad f_X11_full f_X4_add (qi (shp u) q) [some (.ref 0), some (.int x1)] [] (shp u) I J = (f_X11_within [.int x1, .int 0, .int 127] (shp u) I J (fun I1 J1 v1 => ((¬ v1 = 0 → (((I1 31 1) < (150 : Int32) → (f_X4_add [.ref 31, .int x1] (shp u) I1 J1 (fun I2 J2 => ((shp u) = (shp u) ∧ q I2 J2 (I2 31 1))))) ∧ (¬ (I1 31 1) < (150 : Int32) → (f_X11_full [.ref 0] (shp u) I1 J1 (fun I3 J3 v3 => ((shp u) = (shp u) ∧ q I3 J3 v3)))))) ∧ (v1 = 0 → (f_X11_bad [.ref 0, .int (-2)] (shp u) I1 J1 (fun I4 J4 v4 => ((shp u) = (shp u) ∧ q I4 J4 v4))))))) := rfl
set_option maxRecDepth 100000 in
set_option maxHeartbeats 8000000 in
theorem e_X11_type (u : Nat) (x1 : Int32) (I : ZI) (J : ZJ) (q : YQi) : u_X11_type [.ref 0, .int x1] (shp u) I J q = (u_X11_within [.int x1, .int 0, .int 127] (shp u) I J (fun I1 J1 v1 => ((¬ v1 = 0 → (((I1 31 1) < (150 : Int32) → (u_X4_add [.ref 31, .int x1] (shp u) I1 J1 (fun I2 J2 => ((shp u) = (shp u) ∧ q I2 J2 (I2 31 1))))) ∧ (¬ (I1 31 1) < (150 : Int32) → (u_X11_full [.ref 0] (shp u) I1 J1 (fun I3 J3 v3 => ((shp u) = (shp u) ∧ q I3 J3 v3)))))) ∧ (v1 = 0 → (u_X11_bad [.ref 0, .int (-2)] (shp u) I1 J1 (fun I4 J4 v4 => ((shp u) = (shp u) ∧ q I4 J4 v4))))))) := g_X11_type u u_X11_within u_X11_bad u_X11_full u_X4_add x1 I J q
-- X11_clear (0,)
set_option maxRecDepth 100000 in
set_option maxHeartbeats 8000000 in
theorem g_X11_clear (u : Nat)  (I : ZI) (J : ZJ) (q : YQi) : b_X11_clear_0 (qi (shp u) q) [some (.ref 0), none] [] (shp u) I J = ((shp u) = (shp u) ∧ q (zu I 31 1 0) J (I 31 1)) := rfl
set_option maxRecDepth 100000 in
set_option maxHeartbeats 8000000 in
theorem e_X11_clear (u : Nat)  (I : ZI) (J : ZJ) (q : YQi) : u_X11_clear [.ref 0] (shp u) I J q = ((shp u) = (shp u) ∧ q (zu I 31 1 0) J (I 31 1)) := g_X11_clear u  I J q
-- X4_byteAt (31, 'i')
set_option maxRecDepth 100000 in
set_option maxHeartbeats 8000000 in
theorem g_X4_byteAt (u : Nat) (x1 : Int32) (I : ZI) (J : ZJ) (q : YQi) : b_X4_byteAt_0 (qi (shp u) q) [some (.ref 31), some (.int x1)] [] (shp u) I J = ((x1 < 0 → b_X4_byteAt_20 (qi (shp u) q) [some (.ref 31), some (.int x1)] [] (shp u) I J) ∧ (¬ x1 < 0 → (((150 : Int32) ≤ x1 → b_X4_byteAt_20 (qi (shp u) q) [some (.ref 31), some (.int x1)] [] (shp u) I J) ∧ (¬ (150 : Int32) ≤ x1 → (vp_in x1 150 ∧ b_X4_byteAt_21 (qi (shp u) q) [some (.ref 31), some (.int x1)] [.int (I 32 (x1).toNatClampNeg)] (shp u) I J))))) := rfl
set_option maxRecDepth 100000 in
set_option maxHeartbeats 8000000 in
theorem e_X4_byteAt (u : Nat) (x1 : Int32) (I : ZI) (J : ZJ) (q : YQi) : u_X4_byteAt [.ref 31, .int x1] (shp u) I J q = ((x1 < 0 → b_X4_byteAt_20 (qi (shp u) q) [some (.ref 31), some (.int x1)] [] (shp u) I J) ∧ (¬ x1 < 0 → (((150 : Int32) ≤ x1 → b_X4_byteAt_20 (qi (shp u) q) [some (.ref 31), some (.int x1)] [] (shp u) I J) ∧ (¬ (150 : Int32) ≤ x1 → (vp_in x1 150 ∧ b_X4_byteAt_21 (qi (shp u) q) [some (.ref 31), some (.int x1)] [.int (I 32 (x1).toNatClampNeg)] (shp u) I J))))) := g_X4_byteAt u x1 I J q
set_option maxRecDepth 100000 in
set_option maxHeartbeats 8000000 in
theorem g_X4_byteAt_20 (u : Nat)  (o0 : Option Value) (o1 : Option Value) (I : ZI) (J : ZJ) (q : YQi) : b_X4_byteAt_20 (qi (shp u) q) [o0, o1] [] (shp u) I J = (b_X4_byteAt_21 (qi (shp u) q) [none, none] [.int 0] (shp u) I J) := rfl
set_option maxRecDepth 100000 in
set_option maxHeartbeats 8000000 in
theorem g_X4_byteAt_21 (u : Nat)  (o0 : Option Value) (o1 : Option Value) (y0 : Int32) (I : ZI) (J : ZJ) (q : YQi) : b_X4_byteAt_21 (qi (shp u) q) [o0, o1] [.int y0] (shp u) I J = ((shp u) = (shp u) ∧ q I J y0) := rfl
-- X4_sortOf ('i',)
set_option maxRecDepth 100000 in
set_option maxHeartbeats 8000000 in
theorem g_X4_sortOf (u : Nat) (x0 : Int32) (I : ZI) (J : ZJ) (q : YQi) : b_X4_sortOf_0 (qi (shp u) q) [some (.int x0)] [] (shp u) I J = ((x0 < (97 : Int32) → b_X4_sortOf_14 (qi (shp u) q) [some (.int x0)] [] (shp u) I J) ∧ (¬ x0 < (97 : Int32) → (((122 : Int32) < x0 → b_X4_sortOf_14 (qi (shp u) q) [some (.int x0)] [] (shp u) I J) ∧ (¬ (122 : Int32) < x0 → ((shp u) = (shp u) ∧ q I J 1))))) := rfl
set_option maxRecDepth 100000 in
set_option maxHeartbeats 8000000 in
theorem e_X4_sortOf (u : Nat) (x0 : Int32) (I : ZI) (J : ZJ) (q : YQi) : u_X4_sortOf [.int x0] (shp u) I J q = ((x0 < (97 : Int32) → b_X4_sortOf_14 (qi (shp u) q) [some (.int x0)] [] (shp u) I J) ∧ (¬ x0 < (97 : Int32) → (((122 : Int32) < x0 → b_X4_sortOf_14 (qi (shp u) q) [some (.int x0)] [] (shp u) I J) ∧ (¬ (122 : Int32) < x0 → ((shp u) = (shp u) ∧ q I J 1))))) := g_X4_sortOf u x0 I J q
set_option maxRecDepth 100000 in
set_option maxHeartbeats 8000000 in
theorem g_X4_sortOf_14 (u : Nat)  (x0 : Int32) (I : ZI) (J : ZJ) (q : YQi) : b_X4_sortOf_14 (qi (shp u) q) [some (.int x0)] [] (shp u) I J = ((x0 < (48 : Int32) → b_X4_sortOf_28 (qi (shp u) q) [some (.int x0)] [] (shp u) I J) ∧ (¬ x0 < (48 : Int32) → (((57 : Int32) < x0 → b_X4_sortOf_28 (qi (shp u) q) [some (.int x0)] [] (shp u) I J) ∧ (¬ (57 : Int32) < x0 → ((shp u) = (shp u) ∧ q I J 2))))) := rfl
set_option maxRecDepth 100000 in
set_option maxHeartbeats 8000000 in
theorem g_X4_sortOf_28 (u : Nat)  (x0 : Int32) (I : ZI) (J : ZJ) (q : YQi) : b_X4_sortOf_28 (qi (shp u) q) [some (.int x0)] [] (shp u) I J = ((¬ x0 = (59 : Int32) → b_X4_sortOf_39 (qi (shp u) q) [some (.int x0)] [.int 4] (shp u) I J) ∧ (x0 = (59 : Int32) → b_X4_sortOf_39 (qi (shp u) q) [some (.int x0)] [.int 3] (shp u) I J)) := rfl
set_option maxRecDepth 100000 in
set_option maxHeartbeats 8000000 in
theorem g_X4_sortOf_39 (u : Nat)  (o0 : Option Value) (y0 : Int32) (I : ZI) (J : ZJ) (q : YQi) : b_X4_sortOf_39 (qi (shp u) q) [o0] [.int y0] (shp u) I J = ((shp u) = (shp u) ∧ q I J y0) := rfl
-- X4_nextToken (31,)
set_option maxRecDepth 100000 in
set_option maxHeartbeats 8000000 in
theorem g_X4_nextToken (u : Nat) (f_X4_byteAt : YTi) (f_X4_sortOf : YTi)  (I : ZI) (J : ZJ) (q : YQv) : b_X4_nextToken_0 f_X4_byteAt f_X4_sortOf (qv (shp u) q) [some (.ref 31)] [] (shp u) I J = (b_X4_nextToken_8 f_X4_byteAt f_X4_sortOf (qv (shp u) q) [some (.ref 31)] [] (shp u) (zu I 31 3 (I 31 4)) J) := rfl
set_option maxRecDepth 100000 in
set_option maxHeartbeats 8000000 in
theorem e_X4_nextToken (u : Nat)  (I : ZI) (J : ZJ) (q : YQv) : u_X4_nextToken [.ref 31] (shp u) I J q = (b_X4_nextToken_8 u_X4_byteAt u_X4_sortOf (qv (shp u) q) [some (.ref 31)] [] (shp u) (zu I 31 3 (I 31 4)) J) := g_X4_nextToken u u_X4_byteAt u_X4_sortOf  I J q
set_option maxRecDepth 100000 in
set_option maxHeartbeats 8000000 in
theorem g_X4_nextToken_8 (u : Nat) (f_X4_byteAt : YTi) (f_X4_sortOf : YTi)  (r8 : ZK)  (I : ZI) (J : ZJ) (q : YQv) : bb_X4_nextToken_8 f_X4_byteAt f_X4_sortOf (qv (shp u) q) r8 [some (.ref 31)] [] (shp u) I J = (((I 31 1) ≤ (I 31 3) → b_X4_nextToken_45 f_X4_byteAt f_X4_sortOf (qv (shp u) q) [some (.ref 31)] [] (shp u) I J) ∧ (¬ (I 31 1) ≤ (I 31 3) → (f_X4_byteAt [.ref 31, .int (I 31 3)] (shp u) I J (fun I1 J1 v1 => ((¬ v1 = (32 : Int32) → b_X4_nextToken_45 f_X4_byteAt f_X4_sortOf (qv (shp u) q) [some (.ref 31)] [] (shp u) I1 J1) ∧ (v1 = (32 : Int32) → r8 [some (.ref 31)] [] (shp u) (zu I1 31 3 ((I1 31 3) + 1)) J1)))))) := rfl
set_option maxRecDepth 100000 in
set_option maxHeartbeats 8000000 in
theorem g_X4_nextToken_45 (u : Nat) (f_X4_byteAt : YTi) (f_X4_sortOf : YTi)   (I : ZI) (J : ZJ) (q : YQv) : b_X4_nextToken_45 f_X4_byteAt f_X4_sortOf (qv (shp u) q) [some (.ref 31)] [] (shp u) I J = (((I 31 1) ≤ (I 31 3) → b_X4_nextToken_72 f_X4_byteAt f_X4_sortOf (qv (shp u) q) [some (.ref 31)] [.int 0, .ref 31] (shp u) I J) ∧ (¬ (I 31 1) ≤ (I 31 3) → (f_X4_byteAt [.ref 31, .int (I 31 3)] (shp u) I J (fun I1 J1 v1 => (f_X4_sortOf [.int v1] (shp u) I1 J1 (fun I2 J2 v2 => b_X4_nextToken_72 f_X4_byteAt f_X4_sortOf (qv (shp u) q) [some (.ref 31)] [.int v2, .ref 31] (shp u) I2 J2)))))) := rfl
set_option maxRecDepth 100000 in
set_option maxHeartbeats 8000000 in
theorem g_X4_nextToken_72 (u : Nat) (f_X4_byteAt : YTi) (f_X4_sortOf : YTi)  (y1 : Int32) (I : ZI) (J : ZJ) (q : YQv) : b_X4_nextToken_72 f_X4_byteAt f_X4_sortOf (qv (shp u) q) [some (.ref 31)] [.int y1, .ref 31] (shp u) I J = ((y1 = (1 : Int32) → b_X4_nextToken_108 f_X4_byteAt f_X4_sortOf (qv (shp u) q) [some (.ref 31)] [] (shp u) (zu (zu I 31 2 y1) 31 4 (if (I 31 1) < ((I 31 3) + 1) then (I 31 1) else ((I 31 3) + 1))) J) ∧ (¬ y1 = (1 : Int32) → ((¬ y1 = (2 : Int32) → b_X4_nextToken_150 f_X4_byteAt f_X4_sortOf (qv (shp u) q) [some (.ref 31)] [] (shp u) (zu (zu I 31 2 y1) 31 4 (if (I 31 1) < ((I 31 3) + 1) then (I 31 1) else ((I 31 3) + 1))) J) ∧ (y1 = (2 : Int32) → b_X4_nextToken_108 f_X4_byteAt f_X4_sortOf (qv (shp u) q) [some (.ref 31)] [] (shp u) (zu (zu I 31 2 y1) 31 4 (if (I 31 1) < ((I 31 3) + 1) then (I 31 1) else ((I 31 3) + 1))) J)))) := rfl
set_option maxRecDepth 100000 in
set_option maxHeartbeats 8000000 in
theorem g_X4_nextToken_108 (u : Nat) (f_X4_byteAt : YTi) (f_X4_sortOf : YTi)  (r108 : ZK)  (I : ZI) (J : ZJ) (q : YQv) : bb_X4_nextToken_108 f_X4_byteAt f_X4_sortOf (qv (shp u) q) r108 [some (.ref 31)] [] (shp u) I J = (((I 31 1) ≤ (I 31 4) → b_X4_nextToken_150 f_X4_byteAt f_X4_sortOf (qv (shp u) q) [some (.ref 31)] [] (shp u) I J) ∧ (¬ (I 31 1) ≤ (I 31 4) → (f_X4_byteAt [.ref 31, .int (I 31 4)] (shp u) I J (fun I1 J1 v1 => (f_X4_sortOf [.int v1] (shp u) I1 J1 (fun I2 J2 v2 => ((¬ v2 = (I2 31 2) → b_X4_nextToken_150 f_X4_byteAt f_X4_sortOf (qv (shp u) q) [some (.ref 31)] [] (shp u) I2 J2) ∧ (v2 = (I2 31 2) → r108 [some (.ref 31)] [] (shp u) (zu I2 31 4 ((I2 31 4) + 1)) J2)))))))) := rfl
set_option maxRecDepth 100000 in
set_option maxHeartbeats 8000000 in
theorem g_X4_nextToken_150 (u : Nat) (f_X4_byteAt : YTi) (f_X4_sortOf : YTi)  (o0 : Option Value) (I : ZI) (J : ZJ) (q : YQv) : b_X4_nextToken_150 f_X4_byteAt f_X4_sortOf (qv (shp u) q) [o0] [] (shp u) I J = ((shp u) = (shp u) ∧ q I J) := rfl
-- J0_isLatin1_aae02 ('1',)
set_option maxRecDepth 100000 in
set_option maxHeartbeats 8000000 in
theorem g_J0_isLatin1_aae02_d (u : Nat)  (I : ZI) (J : ZJ) (q : YQi) : b_J0_isLatin1_aae02_0 (qi (shp u) q) [some (.retAddr 1)] [] (shp u) I J = (((1 : Int32) = 0 → b_J0_isLatin1_aae02_17 (qi (shp u) q) [some (.retAddr 1)] [] (shp u) I J) ∧ (¬ (1 : Int32) = 0 → ((¬ (0 : Int32) = 0 → b_J0_isLatin1_aae02_17 (qi (shp u) q) [some (.retAddr 1)] [] (shp u) I J) ∧ ((0 : Int32) = 0 → b_J0_isLatin1_aae02_18 (qi (shp u) q) [some (.retAddr 1)] [.int 1] (shp u) I J)))) := rfl
set_option maxRecDepth 100000 in
set_option maxHeartbeats 8000000 in
theorem e_J0_isLatin1_aae02_d (u : Nat)  (I : ZI) (J : ZJ) (q : YQi) : u_J0_isLatin1_aae02 [.retAddr 1] (shp u) I J q = (((1 : Int32) = 0 → b_J0_isLatin1_aae02_17 (qi (shp u) q) [some (.retAddr 1)] [] (shp u) I J) ∧ (¬ (1 : Int32) = 0 → ((¬ (0 : Int32) = 0 → b_J0_isLatin1_aae02_17 (qi (shp u) q) [some (.retAddr 1)] [] (shp u) I J) ∧ ((0 : Int32) = 0 → b_J0_isLatin1_aae02_18 (qi (shp u) q) [some (.retAddr 1)] [.int 1] (shp u) I J)))) := g_J0_isLatin1_aae02_d u  I J q
set_option maxRecDepth 100000 in
set_option maxHeartbeats 8000000 in
theorem g_J0_isLatin1_aae02_d_17 (u : Nat)  (o0 : Option Value) (I : ZI) (J : ZJ) (q : YQi) : b_J0_isLatin1_aae02_17 (qi (shp u) q) [o0] [] (shp u) I J = (b_J0_isLatin1_aae02_18 (qi (shp u) q) [none] [.int 0] (shp u) I J) := rfl
set_option maxRecDepth 100000 in
set_option maxHeartbeats 8000000 in
theorem g_J0_isLatin1_aae02_d_18 (u : Nat)  (o0 : Option Value) (y0 : Int32) (I : ZI) (J : ZJ) (q : YQi) : b_J0_isLatin1_aae02_18 (qi (shp u) q) [o0] [.int y0] (shp u) I J = ((y0 = 0 ∨ y0 = 1) ∧ ((shp u) = (shp u) ∧ q I J y0)) := rfl
-- J0_isLatin1_aae02 ('2',)
set_option maxRecDepth 100000 in
set_option maxHeartbeats 8000000 in
theorem g_J0_isLatin1_aae02_e (u : Nat)  (I : ZI) (J : ZJ) (q : YQi) : b_J0_isLatin1_aae02_0 (qi (shp u) q) [some (.retAddr 2)] [] (shp u) I J = (((1 : Int32) = 0 → b_J0_isLatin1_aae02_17 (qi (shp u) q) [some (.retAddr 2)] [] (shp u) I J) ∧ (¬ (1 : Int32) = 0 → ((¬ (0 : Int32) = 0 → b_J0_isLatin1_aae02_17 (qi (shp u) q) [some (.retAddr 2)] [] (shp u) I J) ∧ ((0 : Int32) = 0 → b_J0_isLatin1_aae02_18 (qi (shp u) q) [some (.retAddr 2)] [.int 1] (shp u) I J)))) := rfl
set_option maxRecDepth 100000 in
set_option maxHeartbeats 8000000 in
theorem e_J0_isLatin1_aae02_e (u : Nat)  (I : ZI) (J : ZJ) (q : YQi) : u_J0_isLatin1_aae02 [.retAddr 2] (shp u) I J q = (((1 : Int32) = 0 → b_J0_isLatin1_aae02_17 (qi (shp u) q) [some (.retAddr 2)] [] (shp u) I J) ∧ (¬ (1 : Int32) = 0 → ((¬ (0 : Int32) = 0 → b_J0_isLatin1_aae02_17 (qi (shp u) q) [some (.retAddr 2)] [] (shp u) I J) ∧ ((0 : Int32) = 0 → b_J0_isLatin1_aae02_18 (qi (shp u) q) [some (.retAddr 2)] [.int 1] (shp u) I J)))) := g_J0_isLatin1_aae02_e u  I J q
set_option maxRecDepth 100000 in
set_option maxHeartbeats 8000000 in
theorem g_J0_isLatin1_aae02_e_17 (u : Nat)  (o0 : Option Value) (I : ZI) (J : ZJ) (q : YQi) : b_J0_isLatin1_aae02_17 (qi (shp u) q) [o0] [] (shp u) I J = (b_J0_isLatin1_aae02_18 (qi (shp u) q) [none] [.int 0] (shp u) I J) := rfl
set_option maxRecDepth 100000 in
set_option maxHeartbeats 8000000 in
theorem g_J0_isLatin1_aae02_e_18 (u : Nat)  (o0 : Option Value) (y0 : Int32) (I : ZI) (J : ZJ) (q : YQi) : b_J0_isLatin1_aae02_18 (qi (shp u) q) [o0] [.int y0] (shp u) I J = ((y0 = 0 ∨ y0 = 1) ∧ ((shp u) = (shp u) ∧ q I J y0)) := rfl
-- J0_isLatin1_aae02 ('3',)
set_option maxRecDepth 100000 in
set_option maxHeartbeats 8000000 in
theorem g_J0_isLatin1_aae02_f (u : Nat)  (I : ZI) (J : ZJ) (q : YQi) : b_J0_isLatin1_aae02_0 (qi (shp u) q) [some (.retAddr 3)] [] (shp u) I J = (((1 : Int32) = 0 → b_J0_isLatin1_aae02_17 (qi (shp u) q) [some (.retAddr 3)] [] (shp u) I J) ∧ (¬ (1 : Int32) = 0 → ((¬ (0 : Int32) = 0 → b_J0_isLatin1_aae02_17 (qi (shp u) q) [some (.retAddr 3)] [] (shp u) I J) ∧ ((0 : Int32) = 0 → b_J0_isLatin1_aae02_18 (qi (shp u) q) [some (.retAddr 3)] [.int 1] (shp u) I J)))) := rfl
set_option maxRecDepth 100000 in
set_option maxHeartbeats 8000000 in
theorem e_J0_isLatin1_aae02_f (u : Nat)  (I : ZI) (J : ZJ) (q : YQi) : u_J0_isLatin1_aae02 [.retAddr 3] (shp u) I J q = (((1 : Int32) = 0 → b_J0_isLatin1_aae02_17 (qi (shp u) q) [some (.retAddr 3)] [] (shp u) I J) ∧ (¬ (1 : Int32) = 0 → ((¬ (0 : Int32) = 0 → b_J0_isLatin1_aae02_17 (qi (shp u) q) [some (.retAddr 3)] [] (shp u) I J) ∧ ((0 : Int32) = 0 → b_J0_isLatin1_aae02_18 (qi (shp u) q) [some (.retAddr 3)] [.int 1] (shp u) I J)))) := g_J0_isLatin1_aae02_f u  I J q
set_option maxRecDepth 100000 in
set_option maxHeartbeats 8000000 in
theorem g_J0_isLatin1_aae02_f_17 (u : Nat)  (o0 : Option Value) (I : ZI) (J : ZJ) (q : YQi) : b_J0_isLatin1_aae02_17 (qi (shp u) q) [o0] [] (shp u) I J = (b_J0_isLatin1_aae02_18 (qi (shp u) q) [none] [.int 0] (shp u) I J) := rfl
set_option maxRecDepth 100000 in
set_option maxHeartbeats 8000000 in
theorem g_J0_isLatin1_aae02_f_18 (u : Nat)  (o0 : Option Value) (y0 : Int32) (I : ZI) (J : ZJ) (q : YQi) : b_J0_isLatin1_aae02_18 (qi (shp u) q) [o0] [.int y0] (shp u) I J = ((y0 = 0 ∨ y0 = 1) ∧ ((shp u) = (shp u) ∧ q I J y0)) := rfl
-- J0_isLatin1_aae02 ('4',)
set_option maxRecDepth 100000 in
set_option maxHeartbeats 8000000 in
theorem g_J0_isLatin1_aae02 (u : Nat)  (I : ZI) (J : ZJ) (q : YQi) : b_J0_isLatin1_aae02_0 (qi (shp u) q) [some (.retAddr 4)] [] (shp u) I J = (((1 : Int32) = 0 → b_J0_isLatin1_aae02_17 (qi (shp u) q) [some (.retAddr 4)] [] (shp u) I J) ∧ (¬ (1 : Int32) = 0 → ((¬ (0 : Int32) = 0 → b_J0_isLatin1_aae02_17 (qi (shp u) q) [some (.retAddr 4)] [] (shp u) I J) ∧ ((0 : Int32) = 0 → b_J0_isLatin1_aae02_18 (qi (shp u) q) [some (.retAddr 4)] [.int 1] (shp u) I J)))) := rfl
set_option maxRecDepth 100000 in
set_option maxHeartbeats 8000000 in
theorem e_J0_isLatin1_aae02 (u : Nat)  (I : ZI) (J : ZJ) (q : YQi) : u_J0_isLatin1_aae02 [.retAddr 4] (shp u) I J q = (((1 : Int32) = 0 → b_J0_isLatin1_aae02_17 (qi (shp u) q) [some (.retAddr 4)] [] (shp u) I J) ∧ (¬ (1 : Int32) = 0 → ((¬ (0 : Int32) = 0 → b_J0_isLatin1_aae02_17 (qi (shp u) q) [some (.retAddr 4)] [] (shp u) I J) ∧ ((0 : Int32) = 0 → b_J0_isLatin1_aae02_18 (qi (shp u) q) [some (.retAddr 4)] [.int 1] (shp u) I J)))) := g_J0_isLatin1_aae02 u  I J q
set_option maxRecDepth 100000 in
set_option maxHeartbeats 8000000 in
theorem g_J0_isLatin1_aae02_17 (u : Nat)  (o0 : Option Value) (I : ZI) (J : ZJ) (q : YQi) : b_J0_isLatin1_aae02_17 (qi (shp u) q) [o0] [] (shp u) I J = (b_J0_isLatin1_aae02_18 (qi (shp u) q) [none] [.int 0] (shp u) I J) := rfl
set_option maxRecDepth 100000 in
set_option maxHeartbeats 8000000 in
theorem g_J0_isLatin1_aae02_18 (u : Nat)  (o0 : Option Value) (y0 : Int32) (I : ZI) (J : ZJ) (q : YQi) : b_J0_isLatin1_aae02_18 (qi (shp u) q) [o0] [.int y0] (shp u) I J = ((y0 = 0 ∨ y0 = 1) ∧ ((shp u) = (shp u) ∧ q I J y0)) := rfl
-- J0_isLatin1_aae02 ('5',)
set_option maxRecDepth 100000 in
set_option maxHeartbeats 8000000 in
theorem g_J0_isLatin1_aae02_a (u : Nat)  (I : ZI) (J : ZJ) (q : YQi) : b_J0_isLatin1_aae02_0 (qi (shp u) q) [some (.retAddr 5)] [] (shp u) I J = (((1 : Int32) = 0 → b_J0_isLatin1_aae02_17 (qi (shp u) q) [some (.retAddr 5)] [] (shp u) I J) ∧ (¬ (1 : Int32) = 0 → ((¬ (0 : Int32) = 0 → b_J0_isLatin1_aae02_17 (qi (shp u) q) [some (.retAddr 5)] [] (shp u) I J) ∧ ((0 : Int32) = 0 → b_J0_isLatin1_aae02_18 (qi (shp u) q) [some (.retAddr 5)] [.int 1] (shp u) I J)))) := rfl
set_option maxRecDepth 100000 in
set_option maxHeartbeats 8000000 in
theorem e_J0_isLatin1_aae02_a (u : Nat)  (I : ZI) (J : ZJ) (q : YQi) : u_J0_isLatin1_aae02 [.retAddr 5] (shp u) I J q = (((1 : Int32) = 0 → b_J0_isLatin1_aae02_17 (qi (shp u) q) [some (.retAddr 5)] [] (shp u) I J) ∧ (¬ (1 : Int32) = 0 → ((¬ (0 : Int32) = 0 → b_J0_isLatin1_aae02_17 (qi (shp u) q) [some (.retAddr 5)] [] (shp u) I J) ∧ ((0 : Int32) = 0 → b_J0_isLatin1_aae02_18 (qi (shp u) q) [some (.retAddr 5)] [.int 1] (shp u) I J)))) := g_J0_isLatin1_aae02_a u  I J q
set_option maxRecDepth 100000 in
set_option maxHeartbeats 8000000 in
theorem g_J0_isLatin1_aae02_a_17 (u : Nat)  (o0 : Option Value) (I : ZI) (J : ZJ) (q : YQi) : b_J0_isLatin1_aae02_17 (qi (shp u) q) [o0] [] (shp u) I J = (b_J0_isLatin1_aae02_18 (qi (shp u) q) [none] [.int 0] (shp u) I J) := rfl
set_option maxRecDepth 100000 in
set_option maxHeartbeats 8000000 in
theorem g_J0_isLatin1_aae02_a_18 (u : Nat)  (o0 : Option Value) (y0 : Int32) (I : ZI) (J : ZJ) (q : YQi) : b_J0_isLatin1_aae02_18 (qi (shp u) q) [o0] [.int y0] (shp u) I J = ((y0 = 0 ∨ y0 = 1) ∧ ((shp u) = (shp u) ∧ q I J y0)) := rfl
-- J0_isLatin1_aae02 ('6',)
set_option maxRecDepth 100000 in
set_option maxHeartbeats 8000000 in
theorem g_J0_isLatin1_aae02_c (u : Nat)  (I : ZI) (J : ZJ) (q : YQi) : b_J0_isLatin1_aae02_0 (qi (shp u) q) [some (.retAddr 6)] [] (shp u) I J = (((1 : Int32) = 0 → b_J0_isLatin1_aae02_17 (qi (shp u) q) [some (.retAddr 6)] [] (shp u) I J) ∧ (¬ (1 : Int32) = 0 → ((¬ (0 : Int32) = 0 → b_J0_isLatin1_aae02_17 (qi (shp u) q) [some (.retAddr 6)] [] (shp u) I J) ∧ ((0 : Int32) = 0 → b_J0_isLatin1_aae02_18 (qi (shp u) q) [some (.retAddr 6)] [.int 1] (shp u) I J)))) := rfl
set_option maxRecDepth 100000 in
set_option maxHeartbeats 8000000 in
theorem e_J0_isLatin1_aae02_c (u : Nat)  (I : ZI) (J : ZJ) (q : YQi) : u_J0_isLatin1_aae02 [.retAddr 6] (shp u) I J q = (((1 : Int32) = 0 → b_J0_isLatin1_aae02_17 (qi (shp u) q) [some (.retAddr 6)] [] (shp u) I J) ∧ (¬ (1 : Int32) = 0 → ((¬ (0 : Int32) = 0 → b_J0_isLatin1_aae02_17 (qi (shp u) q) [some (.retAddr 6)] [] (shp u) I J) ∧ ((0 : Int32) = 0 → b_J0_isLatin1_aae02_18 (qi (shp u) q) [some (.retAddr 6)] [.int 1] (shp u) I J)))) := g_J0_isLatin1_aae02_c u  I J q
set_option maxRecDepth 100000 in
set_option maxHeartbeats 8000000 in
theorem g_J0_isLatin1_aae02_c_17 (u : Nat)  (o0 : Option Value) (I : ZI) (J : ZJ) (q : YQi) : b_J0_isLatin1_aae02_17 (qi (shp u) q) [o0] [] (shp u) I J = (b_J0_isLatin1_aae02_18 (qi (shp u) q) [none] [.int 0] (shp u) I J) := rfl
set_option maxRecDepth 100000 in
set_option maxHeartbeats 8000000 in
theorem g_J0_isLatin1_aae02_c_18 (u : Nat)  (o0 : Option Value) (y0 : Int32) (I : ZI) (J : ZJ) (q : YQi) : b_J0_isLatin1_aae02_18 (qi (shp u) q) [o0] [.int y0] (shp u) I J = ((y0 = 0 ∨ y0 = 1) ∧ ((shp u) = (shp u) ∧ q I J y0)) := rfl
-- J0_isLatin1_aae02 ('7',)
set_option maxRecDepth 100000 in
set_option maxHeartbeats 8000000 in
theorem g_J0_isLatin1_aae02_b (u : Nat)  (I : ZI) (J : ZJ) (q : YQi) : b_J0_isLatin1_aae02_0 (qi (shp u) q) [some (.retAddr 7)] [] (shp u) I J = (((1 : Int32) = 0 → b_J0_isLatin1_aae02_17 (qi (shp u) q) [some (.retAddr 7)] [] (shp u) I J) ∧ (¬ (1 : Int32) = 0 → ((¬ (0 : Int32) = 0 → b_J0_isLatin1_aae02_17 (qi (shp u) q) [some (.retAddr 7)] [] (shp u) I J) ∧ ((0 : Int32) = 0 → b_J0_isLatin1_aae02_18 (qi (shp u) q) [some (.retAddr 7)] [.int 1] (shp u) I J)))) := rfl
set_option maxRecDepth 100000 in
set_option maxHeartbeats 8000000 in
theorem e_J0_isLatin1_aae02_b (u : Nat)  (I : ZI) (J : ZJ) (q : YQi) : u_J0_isLatin1_aae02 [.retAddr 7] (shp u) I J q = (((1 : Int32) = 0 → b_J0_isLatin1_aae02_17 (qi (shp u) q) [some (.retAddr 7)] [] (shp u) I J) ∧ (¬ (1 : Int32) = 0 → ((¬ (0 : Int32) = 0 → b_J0_isLatin1_aae02_17 (qi (shp u) q) [some (.retAddr 7)] [] (shp u) I J) ∧ ((0 : Int32) = 0 → b_J0_isLatin1_aae02_18 (qi (shp u) q) [some (.retAddr 7)] [.int 1] (shp u) I J)))) := g_J0_isLatin1_aae02_b u  I J q
set_option maxRecDepth 100000 in
set_option maxHeartbeats 8000000 in
theorem g_J0_isLatin1_aae02_b_17 (u : Nat)  (o0 : Option Value) (I : ZI) (J : ZJ) (q : YQi) : b_J0_isLatin1_aae02_17 (qi (shp u) q) [o0] [] (shp u) I J = (b_J0_isLatin1_aae02_18 (qi (shp u) q) [none] [.int 0] (shp u) I J) := rfl
set_option maxRecDepth 100000 in
set_option maxHeartbeats 8000000 in
theorem g_J0_isLatin1_aae02_b_18 (u : Nat)  (o0 : Option Value) (y0 : Int32) (I : ZI) (J : ZJ) (q : YQi) : b_J0_isLatin1_aae02_18 (qi (shp u) q) [o0] [.int y0] (shp u) I J = ((y0 = 0 ∨ y0 = 1) ∧ ((shp u) = (shp u) ∧ q I J y0)) := rfl
-- J0_charAt_5068e ('1', 'i')
set_option maxRecDepth 100000 in
set_option maxHeartbeats 8000000 in
theorem g_J0_charAt_5068e_d (u : Nat) (f_J0_isLatin1_aae02 : YTi) (f_J1_charAt_3b067 : YTi) (x1 : Int32) (I : ZI) (J : ZJ) (q : YQi) : b_J0_charAt_5068e_0 f_J0_isLatin1_aae02 f_J1_charAt_3b067 (qi (shp u) q) [some (.retAddr 1), some (.int x1)] [] (shp u) I J = (f_J0_isLatin1_aae02 [.retAddr 1] (shp u) I J (fun I1 J1 v1 => ((v1 = 0 → False) ∧ (¬ v1 = 0 → (f_J1_charAt_3b067 [.retAddr 101, .int x1] (shp u) I1 J1 (fun I2 J2 v2 => (narrow .char (.int v2) = .int v2 ∧ ((shp u) = (shp u) ∧ q I2 J2 v2)))))))) := rfl
set_option maxRecDepth 100000 in
set_option maxHeartbeats 8000000 in
theorem e_J0_charAt_5068e_d (u : Nat) (x1 : Int32) (I : ZI) (J : ZJ) (q : YQi) : u_J0_charAt_5068e [.retAddr 1, .int x1] (shp u) I J q = (u_J0_isLatin1_aae02 [.retAddr 1] (shp u) I J (fun I1 J1 v1 => ((v1 = 0 → False) ∧ (¬ v1 = 0 → (u_J1_charAt_3b067 [.retAddr 101, .int x1] (shp u) I1 J1 (fun I2 J2 v2 => (narrow .char (.int v2) = .int v2 ∧ ((shp u) = (shp u) ∧ q I2 J2 v2)))))))) := g_J0_charAt_5068e_d u u_J0_isLatin1_aae02 u_J1_charAt_3b067 x1 I J q
-- J0_charAt_5068e ('2', 'i')
set_option maxRecDepth 100000 in
set_option maxHeartbeats 8000000 in
theorem g_J0_charAt_5068e_e (u : Nat) (f_J0_isLatin1_aae02 : YTi) (f_J1_charAt_3b067 : YTi) (x1 : Int32) (I : ZI) (J : ZJ) (q : YQi) : b_J0_charAt_5068e_0 f_J0_isLatin1_aae02 f_J1_charAt_3b067 (qi (shp u) q) [some (.retAddr 2), some (.int x1)] [] (shp u) I J = (f_J0_isLatin1_aae02 [.retAddr 2] (shp u) I J (fun I1 J1 v1 => ((v1 = 0 → False) ∧ (¬ v1 = 0 → (f_J1_charAt_3b067 [.retAddr 102, .int x1] (shp u) I1 J1 (fun I2 J2 v2 => (narrow .char (.int v2) = .int v2 ∧ ((shp u) = (shp u) ∧ q I2 J2 v2)))))))) := rfl
set_option maxRecDepth 100000 in
set_option maxHeartbeats 8000000 in
theorem e_J0_charAt_5068e_e (u : Nat) (x1 : Int32) (I : ZI) (J : ZJ) (q : YQi) : u_J0_charAt_5068e [.retAddr 2, .int x1] (shp u) I J q = (u_J0_isLatin1_aae02 [.retAddr 2] (shp u) I J (fun I1 J1 v1 => ((v1 = 0 → False) ∧ (¬ v1 = 0 → (u_J1_charAt_3b067 [.retAddr 102, .int x1] (shp u) I1 J1 (fun I2 J2 v2 => (narrow .char (.int v2) = .int v2 ∧ ((shp u) = (shp u) ∧ q I2 J2 v2)))))))) := g_J0_charAt_5068e_e u u_J0_isLatin1_aae02 u_J1_charAt_3b067 x1 I J q
-- J0_charAt_5068e ('3', 'i')
set_option maxRecDepth 100000 in
set_option maxHeartbeats 8000000 in
theorem g_J0_charAt_5068e_b (u : Nat) (f_J0_isLatin1_aae02 : YTi) (f_J1_charAt_3b067 : YTi) (x1 : Int32) (I : ZI) (J : ZJ) (q : YQi) : b_J0_charAt_5068e_0 f_J0_isLatin1_aae02 f_J1_charAt_3b067 (qi (shp u) q) [some (.retAddr 3), some (.int x1)] [] (shp u) I J = (f_J0_isLatin1_aae02 [.retAddr 3] (shp u) I J (fun I1 J1 v1 => ((v1 = 0 → False) ∧ (¬ v1 = 0 → (f_J1_charAt_3b067 [.retAddr 103, .int x1] (shp u) I1 J1 (fun I2 J2 v2 => (narrow .char (.int v2) = .int v2 ∧ ((shp u) = (shp u) ∧ q I2 J2 v2)))))))) := rfl
set_option maxRecDepth 100000 in
set_option maxHeartbeats 8000000 in
theorem e_J0_charAt_5068e_b (u : Nat) (x1 : Int32) (I : ZI) (J : ZJ) (q : YQi) : u_J0_charAt_5068e [.retAddr 3, .int x1] (shp u) I J q = (u_J0_isLatin1_aae02 [.retAddr 3] (shp u) I J (fun I1 J1 v1 => ((v1 = 0 → False) ∧ (¬ v1 = 0 → (u_J1_charAt_3b067 [.retAddr 103, .int x1] (shp u) I1 J1 (fun I2 J2 v2 => (narrow .char (.int v2) = .int v2 ∧ ((shp u) = (shp u) ∧ q I2 J2 v2)))))))) := g_J0_charAt_5068e_b u u_J0_isLatin1_aae02 u_J1_charAt_3b067 x1 I J q
-- J0_charAt_5068e ('4', 'i')
set_option maxRecDepth 100000 in
set_option maxHeartbeats 8000000 in
theorem g_J0_charAt_5068e (u : Nat) (f_J0_isLatin1_aae02 : YTi) (f_J1_charAt_3b067 : YTi) (x1 : Int32) (I : ZI) (J : ZJ) (q : YQi) : b_J0_charAt_5068e_0 f_J0_isLatin1_aae02 f_J1_charAt_3b067 (qi (shp u) q) [some (.retAddr 4), some (.int x1)] [] (shp u) I J = (f_J0_isLatin1_aae02 [.retAddr 4] (shp u) I J (fun I1 J1 v1 => ((v1 = 0 → False) ∧ (¬ v1 = 0 → (f_J1_charAt_3b067 [.retAddr 104, .int x1] (shp u) I1 J1 (fun I2 J2 v2 => (narrow .char (.int v2) = .int v2 ∧ ((shp u) = (shp u) ∧ q I2 J2 v2)))))))) := rfl
set_option maxRecDepth 100000 in
set_option maxHeartbeats 8000000 in
theorem e_J0_charAt_5068e (u : Nat) (x1 : Int32) (I : ZI) (J : ZJ) (q : YQi) : u_J0_charAt_5068e [.retAddr 4, .int x1] (shp u) I J q = (u_J0_isLatin1_aae02 [.retAddr 4] (shp u) I J (fun I1 J1 v1 => ((v1 = 0 → False) ∧ (¬ v1 = 0 → (u_J1_charAt_3b067 [.retAddr 104, .int x1] (shp u) I1 J1 (fun I2 J2 v2 => (narrow .char (.int v2) = .int v2 ∧ ((shp u) = (shp u) ∧ q I2 J2 v2)))))))) := g_J0_charAt_5068e u u_J0_isLatin1_aae02 u_J1_charAt_3b067 x1 I J q
-- J0_charAt_5068e ('5', 'i')
set_option maxRecDepth 100000 in
set_option maxHeartbeats 8000000 in
theorem g_J0_charAt_5068e_f (u : Nat) (f_J0_isLatin1_aae02 : YTi) (f_J1_charAt_3b067 : YTi) (x1 : Int32) (I : ZI) (J : ZJ) (q : YQi) : b_J0_charAt_5068e_0 f_J0_isLatin1_aae02 f_J1_charAt_3b067 (qi (shp u) q) [some (.retAddr 5), some (.int x1)] [] (shp u) I J = (f_J0_isLatin1_aae02 [.retAddr 5] (shp u) I J (fun I1 J1 v1 => ((v1 = 0 → False) ∧ (¬ v1 = 0 → (f_J1_charAt_3b067 [.retAddr 105, .int x1] (shp u) I1 J1 (fun I2 J2 v2 => (narrow .char (.int v2) = .int v2 ∧ ((shp u) = (shp u) ∧ q I2 J2 v2)))))))) := rfl
set_option maxRecDepth 100000 in
set_option maxHeartbeats 8000000 in
theorem e_J0_charAt_5068e_f (u : Nat) (x1 : Int32) (I : ZI) (J : ZJ) (q : YQi) : u_J0_charAt_5068e [.retAddr 5, .int x1] (shp u) I J q = (u_J0_isLatin1_aae02 [.retAddr 5] (shp u) I J (fun I1 J1 v1 => ((v1 = 0 → False) ∧ (¬ v1 = 0 → (u_J1_charAt_3b067 [.retAddr 105, .int x1] (shp u) I1 J1 (fun I2 J2 v2 => (narrow .char (.int v2) = .int v2 ∧ ((shp u) = (shp u) ∧ q I2 J2 v2)))))))) := g_J0_charAt_5068e_f u u_J0_isLatin1_aae02 u_J1_charAt_3b067 x1 I J q
-- J0_charAt_5068e ('6', 'i')
set_option maxRecDepth 100000 in
set_option maxHeartbeats 8000000 in
theorem g_J0_charAt_5068e_c (u : Nat) (f_J0_isLatin1_aae02 : YTi) (f_J1_charAt_3b067 : YTi) (x1 : Int32) (I : ZI) (J : ZJ) (q : YQi) : b_J0_charAt_5068e_0 f_J0_isLatin1_aae02 f_J1_charAt_3b067 (qi (shp u) q) [some (.retAddr 6), some (.int x1)] [] (shp u) I J = (f_J0_isLatin1_aae02 [.retAddr 6] (shp u) I J (fun I1 J1 v1 => ((v1 = 0 → False) ∧ (¬ v1 = 0 → (f_J1_charAt_3b067 [.retAddr 106, .int x1] (shp u) I1 J1 (fun I2 J2 v2 => (narrow .char (.int v2) = .int v2 ∧ ((shp u) = (shp u) ∧ q I2 J2 v2)))))))) := rfl
set_option maxRecDepth 100000 in
set_option maxHeartbeats 8000000 in
theorem e_J0_charAt_5068e_c (u : Nat) (x1 : Int32) (I : ZI) (J : ZJ) (q : YQi) : u_J0_charAt_5068e [.retAddr 6, .int x1] (shp u) I J q = (u_J0_isLatin1_aae02 [.retAddr 6] (shp u) I J (fun I1 J1 v1 => ((v1 = 0 → False) ∧ (¬ v1 = 0 → (u_J1_charAt_3b067 [.retAddr 106, .int x1] (shp u) I1 J1 (fun I2 J2 v2 => (narrow .char (.int v2) = .int v2 ∧ ((shp u) = (shp u) ∧ q I2 J2 v2)))))))) := g_J0_charAt_5068e_c u u_J0_isLatin1_aae02 u_J1_charAt_3b067 x1 I J q
-- J0_charAt_5068e ('7', 'i')
set_option maxRecDepth 100000 in
set_option maxHeartbeats 8000000 in
theorem g_J0_charAt_5068e_a (u : Nat) (f_J0_isLatin1_aae02 : YTi) (f_J1_charAt_3b067 : YTi) (x1 : Int32) (I : ZI) (J : ZJ) (q : YQi) : b_J0_charAt_5068e_0 f_J0_isLatin1_aae02 f_J1_charAt_3b067 (qi (shp u) q) [some (.retAddr 7), some (.int x1)] [] (shp u) I J = (f_J0_isLatin1_aae02 [.retAddr 7] (shp u) I J (fun I1 J1 v1 => ((v1 = 0 → False) ∧ (¬ v1 = 0 → (f_J1_charAt_3b067 [.retAddr 107, .int x1] (shp u) I1 J1 (fun I2 J2 v2 => (narrow .char (.int v2) = .int v2 ∧ ((shp u) = (shp u) ∧ q I2 J2 v2)))))))) := rfl
set_option maxRecDepth 100000 in
set_option maxHeartbeats 8000000 in
theorem e_J0_charAt_5068e_a (u : Nat) (x1 : Int32) (I : ZI) (J : ZJ) (q : YQi) : u_J0_charAt_5068e [.retAddr 7, .int x1] (shp u) I J q = (u_J0_isLatin1_aae02 [.retAddr 7] (shp u) I J (fun I1 J1 v1 => ((v1 = 0 → False) ∧ (¬ v1 = 0 → (u_J1_charAt_3b067 [.retAddr 107, .int x1] (shp u) I1 J1 (fun I2 J2 v2 => (narrow .char (.int v2) = .int v2 ∧ ((shp u) = (shp u) ∧ q I2 J2 v2)))))))) := g_J0_charAt_5068e_a u u_J0_isLatin1_aae02 u_J1_charAt_3b067 x1 I J q
-- X4_isWord (31, '1')
set_option maxRecDepth 100000 in
set_option maxHeartbeats 8000000 in
theorem g_X4_isWord_d (u : Nat) (f_J0_length_8abf5 : YTi) (f_X4_byteAt : YTi) (f_J0_charAt_5068e : YTi)  (I : ZI) (J : ZJ) (q : YQi) : b_X4_isWord_0 f_J0_length_8abf5 f_X4_byteAt f_J0_charAt_5068e (qi (shp u) q) [some (.ref 31), some (.retAddr 1), none] [] (shp u) I J = ((¬ (I 31 2) = (1 : Int32) → b_X4_isWord_24 f_J0_length_8abf5 f_X4_byteAt f_J0_charAt_5068e (qi (shp u) q) [some (.ref 31), some (.retAddr 1), none] [] (shp u) I J) ∧ ((I 31 2) = (1 : Int32) → (f_J0_length_8abf5 [.retAddr 1] (shp u) I J (fun I1 J1 v1 => ((((I 31 4) - (I 31 3)) = v1 → b_X4_isWord_28 f_J0_length_8abf5 f_X4_byteAt f_J0_charAt_5068e (qi (shp u) q) [some (.ref 31), some (.retAddr 1), some (.int 0)] [] (shp u) I1 J1) ∧ (¬ ((I 31 4) - (I 31 3)) = v1 → b_X4_isWord_24 f_J0_length_8abf5 f_X4_byteAt f_J0_charAt_5068e (qi (shp u) q) [some (.ref 31), some (.retAddr 1), none] [] (shp u) I1 J1)))))) := rfl
set_option maxRecDepth 100000 in
set_option maxHeartbeats 8000000 in
theorem e_X4_isWord_d (u : Nat)  (I : ZI) (J : ZJ) (q : YQi) : u_X4_isWord [.ref 31, .retAddr 1] (shp u) I J q = ((¬ (I 31 2) = (1 : Int32) → b_X4_isWord_24 u_J0_length_8abf5 u_X4_byteAt u_J0_charAt_5068e (qi (shp u) q) [some (.ref 31), some (.retAddr 1), none] [] (shp u) I J) ∧ ((I 31 2) = (1 : Int32) → (u_J0_length_8abf5 [.retAddr 1] (shp u) I J (fun I1 J1 v1 => ((((I 31 4) - (I 31 3)) = v1 → b_X4_isWord_28 u_J0_length_8abf5 u_X4_byteAt u_J0_charAt_5068e (qi (shp u) q) [some (.ref 31), some (.retAddr 1), some (.int 0)] [] (shp u) I1 J1) ∧ (¬ ((I 31 4) - (I 31 3)) = v1 → b_X4_isWord_24 u_J0_length_8abf5 u_X4_byteAt u_J0_charAt_5068e (qi (shp u) q) [some (.ref 31), some (.retAddr 1), none] [] (shp u) I1 J1)))))) := g_X4_isWord_d u u_J0_length_8abf5 u_X4_byteAt u_J0_charAt_5068e  I J q
set_option maxRecDepth 100000 in
set_option maxHeartbeats 8000000 in
theorem g_X4_isWord_d_24 (u : Nat) (f_J0_length_8abf5 : YTi) (f_X4_byteAt : YTi) (f_J0_charAt_5068e : YTi)  (o0 : Option Value) (o1 : Option Value) (o2 : Option Value) (I : ZI) (J : ZJ) (q : YQi) : b_X4_isWord_24 f_J0_length_8abf5 f_X4_byteAt f_J0_charAt_5068e (qi (shp u) q) [o0, o1, o2] [] (shp u) I J = (((0 : Int32) = 0 ∨ (0 : Int32) = 1) ∧ ((shp u) = (shp u) ∧ q I J 0)) := rfl
set_option maxRecDepth 100000 in
set_option maxHeartbeats 8000000 in
theorem g_X4_isWord_d_28 (u : Nat) (f_J0_length_8abf5 : YTi) (f_X4_byteAt : YTi) (f_J0_charAt_5068e : YTi)  (r28 : ZK) (x2 : Int32) (I : ZI) (J : ZJ) (q : YQi) : bb_X4_isWord_28 f_J0_length_8abf5 f_X4_byteAt f_J0_charAt_5068e (qi (shp u) q) r28 [some (.ref 31), some (.retAddr 1), some (.int x2)] [] (shp u) I J = (f_J0_length_8abf5 [.retAddr 1] (shp u) I J (fun I1 J1 v1 => ((v1 ≤ x2 → (((1 : Int32) = 0 ∨ (1 : Int32) = 1) ∧ ((shp u) = (shp u) ∧ q I1 J1 1))) ∧ (¬ v1 ≤ x2 → (f_X4_byteAt [.ref 31, .int ((I1 31 3) + x2)] (shp u) I1 J1 (fun I2 J2 v2 => (f_J0_charAt_5068e [.retAddr 1, .int x2] (shp u) I2 J2 (fun I3 J3 v3 => ((v2 = v3 → r28 [some (.ref 31), some (.retAddr 1), some (.int (x2 + 1))] [] (shp u) I3 J3) ∧ (¬ v2 = v3 → (((0 : Int32) = 0 ∨ (0 : Int32) = 1) ∧ ((shp u) = (shp u) ∧ q I3 J3 0)))))))))))) := rfl
-- X4_isWord (31, '2')
set_option maxRecDepth 100000 in
set_option maxHeartbeats 8000000 in
theorem g_X4_isWord_e (u : Nat) (f_J0_length_8abf5 : YTi) (f_X4_byteAt : YTi) (f_J0_charAt_5068e : YTi)  (I : ZI) (J : ZJ) (q : YQi) : b_X4_isWord_0 f_J0_length_8abf5 f_X4_byteAt f_J0_charAt_5068e (qi (shp u) q) [some (.ref 31), some (.retAddr 2), none] [] (shp u) I J = ((¬ (I 31 2) = (1 : Int32) → b_X4_isWord_24 f_J0_length_8abf5 f_X4_byteAt f_J0_charAt_5068e (qi (shp u) q) [some (.ref 31), some (.retAddr 2), none] [] (shp u) I J) ∧ ((I 31 2) = (1 : Int32) → (f_J0_length_8abf5 [.retAddr 2] (shp u) I J (fun I1 J1 v1 => ((((I 31 4) - (I 31 3)) = v1 → b_X4_isWord_28 f_J0_length_8abf5 f_X4_byteAt f_J0_charAt_5068e (qi (shp u) q) [some (.ref 31), some (.retAddr 2), some (.int 0)] [] (shp u) I1 J1) ∧ (¬ ((I 31 4) - (I 31 3)) = v1 → b_X4_isWord_24 f_J0_length_8abf5 f_X4_byteAt f_J0_charAt_5068e (qi (shp u) q) [some (.ref 31), some (.retAddr 2), none] [] (shp u) I1 J1)))))) := rfl
set_option maxRecDepth 100000 in
set_option maxHeartbeats 8000000 in
theorem e_X4_isWord_e (u : Nat)  (I : ZI) (J : ZJ) (q : YQi) : u_X4_isWord [.ref 31, .retAddr 2] (shp u) I J q = ((¬ (I 31 2) = (1 : Int32) → b_X4_isWord_24 u_J0_length_8abf5 u_X4_byteAt u_J0_charAt_5068e (qi (shp u) q) [some (.ref 31), some (.retAddr 2), none] [] (shp u) I J) ∧ ((I 31 2) = (1 : Int32) → (u_J0_length_8abf5 [.retAddr 2] (shp u) I J (fun I1 J1 v1 => ((((I 31 4) - (I 31 3)) = v1 → b_X4_isWord_28 u_J0_length_8abf5 u_X4_byteAt u_J0_charAt_5068e (qi (shp u) q) [some (.ref 31), some (.retAddr 2), some (.int 0)] [] (shp u) I1 J1) ∧ (¬ ((I 31 4) - (I 31 3)) = v1 → b_X4_isWord_24 u_J0_length_8abf5 u_X4_byteAt u_J0_charAt_5068e (qi (shp u) q) [some (.ref 31), some (.retAddr 2), none] [] (shp u) I1 J1)))))) := g_X4_isWord_e u u_J0_length_8abf5 u_X4_byteAt u_J0_charAt_5068e  I J q
set_option maxRecDepth 100000 in
set_option maxHeartbeats 8000000 in
theorem g_X4_isWord_e_24 (u : Nat) (f_J0_length_8abf5 : YTi) (f_X4_byteAt : YTi) (f_J0_charAt_5068e : YTi)  (o0 : Option Value) (o1 : Option Value) (o2 : Option Value) (I : ZI) (J : ZJ) (q : YQi) : b_X4_isWord_24 f_J0_length_8abf5 f_X4_byteAt f_J0_charAt_5068e (qi (shp u) q) [o0, o1, o2] [] (shp u) I J = (((0 : Int32) = 0 ∨ (0 : Int32) = 1) ∧ ((shp u) = (shp u) ∧ q I J 0)) := rfl
set_option maxRecDepth 100000 in
set_option maxHeartbeats 8000000 in
theorem g_X4_isWord_e_28 (u : Nat) (f_J0_length_8abf5 : YTi) (f_X4_byteAt : YTi) (f_J0_charAt_5068e : YTi)  (r28 : ZK) (x2 : Int32) (I : ZI) (J : ZJ) (q : YQi) : bb_X4_isWord_28 f_J0_length_8abf5 f_X4_byteAt f_J0_charAt_5068e (qi (shp u) q) r28 [some (.ref 31), some (.retAddr 2), some (.int x2)] [] (shp u) I J = (f_J0_length_8abf5 [.retAddr 2] (shp u) I J (fun I1 J1 v1 => ((v1 ≤ x2 → (((1 : Int32) = 0 ∨ (1 : Int32) = 1) ∧ ((shp u) = (shp u) ∧ q I1 J1 1))) ∧ (¬ v1 ≤ x2 → (f_X4_byteAt [.ref 31, .int ((I1 31 3) + x2)] (shp u) I1 J1 (fun I2 J2 v2 => (f_J0_charAt_5068e [.retAddr 2, .int x2] (shp u) I2 J2 (fun I3 J3 v3 => ((v2 = v3 → r28 [some (.ref 31), some (.retAddr 2), some (.int (x2 + 1))] [] (shp u) I3 J3) ∧ (¬ v2 = v3 → (((0 : Int32) = 0 ∨ (0 : Int32) = 1) ∧ ((shp u) = (shp u) ∧ q I3 J3 0)))))))))))) := rfl
-- X4_isWord (31, '3')
set_option maxRecDepth 100000 in
set_option maxHeartbeats 8000000 in
theorem g_X4_isWord_f (u : Nat) (f_J0_length_8abf5 : YTi) (f_X4_byteAt : YTi) (f_J0_charAt_5068e : YTi)  (I : ZI) (J : ZJ) (q : YQi) : b_X4_isWord_0 f_J0_length_8abf5 f_X4_byteAt f_J0_charAt_5068e (qi (shp u) q) [some (.ref 31), some (.retAddr 3), none] [] (shp u) I J = ((¬ (I 31 2) = (1 : Int32) → b_X4_isWord_24 f_J0_length_8abf5 f_X4_byteAt f_J0_charAt_5068e (qi (shp u) q) [some (.ref 31), some (.retAddr 3), none] [] (shp u) I J) ∧ ((I 31 2) = (1 : Int32) → (f_J0_length_8abf5 [.retAddr 3] (shp u) I J (fun I1 J1 v1 => ((((I 31 4) - (I 31 3)) = v1 → b_X4_isWord_28 f_J0_length_8abf5 f_X4_byteAt f_J0_charAt_5068e (qi (shp u) q) [some (.ref 31), some (.retAddr 3), some (.int 0)] [] (shp u) I1 J1) ∧ (¬ ((I 31 4) - (I 31 3)) = v1 → b_X4_isWord_24 f_J0_length_8abf5 f_X4_byteAt f_J0_charAt_5068e (qi (shp u) q) [some (.ref 31), some (.retAddr 3), none] [] (shp u) I1 J1)))))) := rfl
set_option maxRecDepth 100000 in
set_option maxHeartbeats 8000000 in
theorem e_X4_isWord_f (u : Nat)  (I : ZI) (J : ZJ) (q : YQi) : u_X4_isWord [.ref 31, .retAddr 3] (shp u) I J q = ((¬ (I 31 2) = (1 : Int32) → b_X4_isWord_24 u_J0_length_8abf5 u_X4_byteAt u_J0_charAt_5068e (qi (shp u) q) [some (.ref 31), some (.retAddr 3), none] [] (shp u) I J) ∧ ((I 31 2) = (1 : Int32) → (u_J0_length_8abf5 [.retAddr 3] (shp u) I J (fun I1 J1 v1 => ((((I 31 4) - (I 31 3)) = v1 → b_X4_isWord_28 u_J0_length_8abf5 u_X4_byteAt u_J0_charAt_5068e (qi (shp u) q) [some (.ref 31), some (.retAddr 3), some (.int 0)] [] (shp u) I1 J1) ∧ (¬ ((I 31 4) - (I 31 3)) = v1 → b_X4_isWord_24 u_J0_length_8abf5 u_X4_byteAt u_J0_charAt_5068e (qi (shp u) q) [some (.ref 31), some (.retAddr 3), none] [] (shp u) I1 J1)))))) := g_X4_isWord_f u u_J0_length_8abf5 u_X4_byteAt u_J0_charAt_5068e  I J q
set_option maxRecDepth 100000 in
set_option maxHeartbeats 8000000 in
theorem g_X4_isWord_f_24 (u : Nat) (f_J0_length_8abf5 : YTi) (f_X4_byteAt : YTi) (f_J0_charAt_5068e : YTi)  (o0 : Option Value) (o1 : Option Value) (o2 : Option Value) (I : ZI) (J : ZJ) (q : YQi) : b_X4_isWord_24 f_J0_length_8abf5 f_X4_byteAt f_J0_charAt_5068e (qi (shp u) q) [o0, o1, o2] [] (shp u) I J = (((0 : Int32) = 0 ∨ (0 : Int32) = 1) ∧ ((shp u) = (shp u) ∧ q I J 0)) := rfl
set_option maxRecDepth 100000 in
set_option maxHeartbeats 8000000 in
theorem g_X4_isWord_f_28 (u : Nat) (f_J0_length_8abf5 : YTi) (f_X4_byteAt : YTi) (f_J0_charAt_5068e : YTi)  (r28 : ZK) (x2 : Int32) (I : ZI) (J : ZJ) (q : YQi) : bb_X4_isWord_28 f_J0_length_8abf5 f_X4_byteAt f_J0_charAt_5068e (qi (shp u) q) r28 [some (.ref 31), some (.retAddr 3), some (.int x2)] [] (shp u) I J = (f_J0_length_8abf5 [.retAddr 3] (shp u) I J (fun I1 J1 v1 => ((v1 ≤ x2 → (((1 : Int32) = 0 ∨ (1 : Int32) = 1) ∧ ((shp u) = (shp u) ∧ q I1 J1 1))) ∧ (¬ v1 ≤ x2 → (f_X4_byteAt [.ref 31, .int ((I1 31 3) + x2)] (shp u) I1 J1 (fun I2 J2 v2 => (f_J0_charAt_5068e [.retAddr 3, .int x2] (shp u) I2 J2 (fun I3 J3 v3 => ((v2 = v3 → r28 [some (.ref 31), some (.retAddr 3), some (.int (x2 + 1))] [] (shp u) I3 J3) ∧ (¬ v2 = v3 → (((0 : Int32) = 0 ∨ (0 : Int32) = 1) ∧ ((shp u) = (shp u) ∧ q I3 J3 0)))))))))))) := rfl
-- X4_isWord (31, '4')
set_option maxRecDepth 100000 in
set_option maxHeartbeats 8000000 in
theorem g_X4_isWord (u : Nat) (f_J0_length_8abf5 : YTi) (f_X4_byteAt : YTi) (f_J0_charAt_5068e : YTi)  (I : ZI) (J : ZJ) (q : YQi) : b_X4_isWord_0 f_J0_length_8abf5 f_X4_byteAt f_J0_charAt_5068e (qi (shp u) q) [some (.ref 31), some (.retAddr 4), none] [] (shp u) I J = ((¬ (I 31 2) = (1 : Int32) → b_X4_isWord_24 f_J0_length_8abf5 f_X4_byteAt f_J0_charAt_5068e (qi (shp u) q) [some (.ref 31), some (.retAddr 4), none] [] (shp u) I J) ∧ ((I 31 2) = (1 : Int32) → (f_J0_length_8abf5 [.retAddr 4] (shp u) I J (fun I1 J1 v1 => ((((I 31 4) - (I 31 3)) = v1 → b_X4_isWord_28 f_J0_length_8abf5 f_X4_byteAt f_J0_charAt_5068e (qi (shp u) q) [some (.ref 31), some (.retAddr 4), some (.int 0)] [] (shp u) I1 J1) ∧ (¬ ((I 31 4) - (I 31 3)) = v1 → b_X4_isWord_24 f_J0_length_8abf5 f_X4_byteAt f_J0_charAt_5068e (qi (shp u) q) [some (.ref 31), some (.retAddr 4), none] [] (shp u) I1 J1)))))) := rfl
set_option maxRecDepth 100000 in
set_option maxHeartbeats 8000000 in
theorem e_X4_isWord (u : Nat)  (I : ZI) (J : ZJ) (q : YQi) : u_X4_isWord [.ref 31, .retAddr 4] (shp u) I J q = ((¬ (I 31 2) = (1 : Int32) → b_X4_isWord_24 u_J0_length_8abf5 u_X4_byteAt u_J0_charAt_5068e (qi (shp u) q) [some (.ref 31), some (.retAddr 4), none] [] (shp u) I J) ∧ ((I 31 2) = (1 : Int32) → (u_J0_length_8abf5 [.retAddr 4] (shp u) I J (fun I1 J1 v1 => ((((I 31 4) - (I 31 3)) = v1 → b_X4_isWord_28 u_J0_length_8abf5 u_X4_byteAt u_J0_charAt_5068e (qi (shp u) q) [some (.ref 31), some (.retAddr 4), some (.int 0)] [] (shp u) I1 J1) ∧ (¬ ((I 31 4) - (I 31 3)) = v1 → b_X4_isWord_24 u_J0_length_8abf5 u_X4_byteAt u_J0_charAt_5068e (qi (shp u) q) [some (.ref 31), some (.retAddr 4), none] [] (shp u) I1 J1)))))) := g_X4_isWord u u_J0_length_8abf5 u_X4_byteAt u_J0_charAt_5068e  I J q
set_option maxRecDepth 100000 in
set_option maxHeartbeats 8000000 in
theorem g_X4_isWord_24 (u : Nat) (f_J0_length_8abf5 : YTi) (f_X4_byteAt : YTi) (f_J0_charAt_5068e : YTi)  (o0 : Option Value) (o1 : Option Value) (o2 : Option Value) (I : ZI) (J : ZJ) (q : YQi) : b_X4_isWord_24 f_J0_length_8abf5 f_X4_byteAt f_J0_charAt_5068e (qi (shp u) q) [o0, o1, o2] [] (shp u) I J = (((0 : Int32) = 0 ∨ (0 : Int32) = 1) ∧ ((shp u) = (shp u) ∧ q I J 0)) := rfl
set_option maxRecDepth 100000 in
set_option maxHeartbeats 8000000 in
theorem g_X4_isWord_28 (u : Nat) (f_J0_length_8abf5 : YTi) (f_X4_byteAt : YTi) (f_J0_charAt_5068e : YTi)  (r28 : ZK) (x2 : Int32) (I : ZI) (J : ZJ) (q : YQi) : bb_X4_isWord_28 f_J0_length_8abf5 f_X4_byteAt f_J0_charAt_5068e (qi (shp u) q) r28 [some (.ref 31), some (.retAddr 4), some (.int x2)] [] (shp u) I J = (f_J0_length_8abf5 [.retAddr 4] (shp u) I J (fun I1 J1 v1 => ((v1 ≤ x2 → (((1 : Int32) = 0 ∨ (1 : Int32) = 1) ∧ ((shp u) = (shp u) ∧ q I1 J1 1))) ∧ (¬ v1 ≤ x2 → (f_X4_byteAt [.ref 31, .int ((I1 31 3) + x2)] (shp u) I1 J1 (fun I2 J2 v2 => (f_J0_charAt_5068e [.retAddr 4, .int x2] (shp u) I2 J2 (fun I3 J3 v3 => ((v2 = v3 → r28 [some (.ref 31), some (.retAddr 4), some (.int (x2 + 1))] [] (shp u) I3 J3) ∧ (¬ v2 = v3 → (((0 : Int32) = 0 ∨ (0 : Int32) = 1) ∧ ((shp u) = (shp u) ∧ q I3 J3 0)))))))))))) := rfl
-- X4_isWord (31, '5')
set_option maxRecDepth 100000 in
set_option maxHeartbeats 8000000 in
theorem g_X4_isWord_a (u : Nat) (f_J0_length_8abf5 : YTi) (f_X4_byteAt : YTi) (f_J0_charAt_5068e : YTi)  (I : ZI) (J : ZJ) (q : YQi) : b_X4_isWord_0 f_J0_length_8abf5 f_X4_byteAt f_J0_charAt_5068e (qi (shp u) q) [some (.ref 31), some (.retAddr 5), none] [] (shp u) I J = ((¬ (I 31 2) = (1 : Int32) → b_X4_isWord_24 f_J0_length_8abf5 f_X4_byteAt f_J0_charAt_5068e (qi (shp u) q) [some (.ref 31), some (.retAddr 5), none] [] (shp u) I J) ∧ ((I 31 2) = (1 : Int32) → (f_J0_length_8abf5 [.retAddr 5] (shp u) I J (fun I1 J1 v1 => ((((I 31 4) - (I 31 3)) = v1 → b_X4_isWord_28 f_J0_length_8abf5 f_X4_byteAt f_J0_charAt_5068e (qi (shp u) q) [some (.ref 31), some (.retAddr 5), some (.int 0)] [] (shp u) I1 J1) ∧ (¬ ((I 31 4) - (I 31 3)) = v1 → b_X4_isWord_24 f_J0_length_8abf5 f_X4_byteAt f_J0_charAt_5068e (qi (shp u) q) [some (.ref 31), some (.retAddr 5), none] [] (shp u) I1 J1)))))) := rfl
set_option maxRecDepth 100000 in
set_option maxHeartbeats 8000000 in
theorem e_X4_isWord_a (u : Nat)  (I : ZI) (J : ZJ) (q : YQi) : u_X4_isWord [.ref 31, .retAddr 5] (shp u) I J q = ((¬ (I 31 2) = (1 : Int32) → b_X4_isWord_24 u_J0_length_8abf5 u_X4_byteAt u_J0_charAt_5068e (qi (shp u) q) [some (.ref 31), some (.retAddr 5), none] [] (shp u) I J) ∧ ((I 31 2) = (1 : Int32) → (u_J0_length_8abf5 [.retAddr 5] (shp u) I J (fun I1 J1 v1 => ((((I 31 4) - (I 31 3)) = v1 → b_X4_isWord_28 u_J0_length_8abf5 u_X4_byteAt u_J0_charAt_5068e (qi (shp u) q) [some (.ref 31), some (.retAddr 5), some (.int 0)] [] (shp u) I1 J1) ∧ (¬ ((I 31 4) - (I 31 3)) = v1 → b_X4_isWord_24 u_J0_length_8abf5 u_X4_byteAt u_J0_charAt_5068e (qi (shp u) q) [some (.ref 31), some (.retAddr 5), none] [] (shp u) I1 J1)))))) := g_X4_isWord_a u u_J0_length_8abf5 u_X4_byteAt u_J0_charAt_5068e  I J q
set_option maxRecDepth 100000 in
set_option maxHeartbeats 8000000 in
theorem g_X4_isWord_a_24 (u : Nat) (f_J0_length_8abf5 : YTi) (f_X4_byteAt : YTi) (f_J0_charAt_5068e : YTi)  (o0 : Option Value) (o1 : Option Value) (o2 : Option Value) (I : ZI) (J : ZJ) (q : YQi) : b_X4_isWord_24 f_J0_length_8abf5 f_X4_byteAt f_J0_charAt_5068e (qi (shp u) q) [o0, o1, o2] [] (shp u) I J = (((0 : Int32) = 0 ∨ (0 : Int32) = 1) ∧ ((shp u) = (shp u) ∧ q I J 0)) := rfl
set_option maxRecDepth 100000 in
set_option maxHeartbeats 8000000 in
theorem g_X4_isWord_a_28 (u : Nat) (f_J0_length_8abf5 : YTi) (f_X4_byteAt : YTi) (f_J0_charAt_5068e : YTi)  (r28 : ZK) (x2 : Int32) (I : ZI) (J : ZJ) (q : YQi) : bb_X4_isWord_28 f_J0_length_8abf5 f_X4_byteAt f_J0_charAt_5068e (qi (shp u) q) r28 [some (.ref 31), some (.retAddr 5), some (.int x2)] [] (shp u) I J = (f_J0_length_8abf5 [.retAddr 5] (shp u) I J (fun I1 J1 v1 => ((v1 ≤ x2 → (((1 : Int32) = 0 ∨ (1 : Int32) = 1) ∧ ((shp u) = (shp u) ∧ q I1 J1 1))) ∧ (¬ v1 ≤ x2 → (f_X4_byteAt [.ref 31, .int ((I1 31 3) + x2)] (shp u) I1 J1 (fun I2 J2 v2 => (f_J0_charAt_5068e [.retAddr 5, .int x2] (shp u) I2 J2 (fun I3 J3 v3 => ((v2 = v3 → r28 [some (.ref 31), some (.retAddr 5), some (.int (x2 + 1))] [] (shp u) I3 J3) ∧ (¬ v2 = v3 → (((0 : Int32) = 0 ∨ (0 : Int32) = 1) ∧ ((shp u) = (shp u) ∧ q I3 J3 0)))))))))))) := rfl
-- X4_isWord (31, '6')
set_option maxRecDepth 100000 in
set_option maxHeartbeats 8000000 in
theorem g_X4_isWord_c (u : Nat) (f_J0_length_8abf5 : YTi) (f_X4_byteAt : YTi) (f_J0_charAt_5068e : YTi)  (I : ZI) (J : ZJ) (q : YQi) : b_X4_isWord_0 f_J0_length_8abf5 f_X4_byteAt f_J0_charAt_5068e (qi (shp u) q) [some (.ref 31), some (.retAddr 6), none] [] (shp u) I J = ((¬ (I 31 2) = (1 : Int32) → b_X4_isWord_24 f_J0_length_8abf5 f_X4_byteAt f_J0_charAt_5068e (qi (shp u) q) [some (.ref 31), some (.retAddr 6), none] [] (shp u) I J) ∧ ((I 31 2) = (1 : Int32) → (f_J0_length_8abf5 [.retAddr 6] (shp u) I J (fun I1 J1 v1 => ((((I 31 4) - (I 31 3)) = v1 → b_X4_isWord_28 f_J0_length_8abf5 f_X4_byteAt f_J0_charAt_5068e (qi (shp u) q) [some (.ref 31), some (.retAddr 6), some (.int 0)] [] (shp u) I1 J1) ∧ (¬ ((I 31 4) - (I 31 3)) = v1 → b_X4_isWord_24 f_J0_length_8abf5 f_X4_byteAt f_J0_charAt_5068e (qi (shp u) q) [some (.ref 31), some (.retAddr 6), none] [] (shp u) I1 J1)))))) := rfl
set_option maxRecDepth 100000 in
set_option maxHeartbeats 8000000 in
theorem e_X4_isWord_c (u : Nat)  (I : ZI) (J : ZJ) (q : YQi) : u_X4_isWord [.ref 31, .retAddr 6] (shp u) I J q = ((¬ (I 31 2) = (1 : Int32) → b_X4_isWord_24 u_J0_length_8abf5 u_X4_byteAt u_J0_charAt_5068e (qi (shp u) q) [some (.ref 31), some (.retAddr 6), none] [] (shp u) I J) ∧ ((I 31 2) = (1 : Int32) → (u_J0_length_8abf5 [.retAddr 6] (shp u) I J (fun I1 J1 v1 => ((((I 31 4) - (I 31 3)) = v1 → b_X4_isWord_28 u_J0_length_8abf5 u_X4_byteAt u_J0_charAt_5068e (qi (shp u) q) [some (.ref 31), some (.retAddr 6), some (.int 0)] [] (shp u) I1 J1) ∧ (¬ ((I 31 4) - (I 31 3)) = v1 → b_X4_isWord_24 u_J0_length_8abf5 u_X4_byteAt u_J0_charAt_5068e (qi (shp u) q) [some (.ref 31), some (.retAddr 6), none] [] (shp u) I1 J1)))))) := g_X4_isWord_c u u_J0_length_8abf5 u_X4_byteAt u_J0_charAt_5068e  I J q
set_option maxRecDepth 100000 in
set_option maxHeartbeats 8000000 in
theorem g_X4_isWord_c_24 (u : Nat) (f_J0_length_8abf5 : YTi) (f_X4_byteAt : YTi) (f_J0_charAt_5068e : YTi)  (o0 : Option Value) (o1 : Option Value) (o2 : Option Value) (I : ZI) (J : ZJ) (q : YQi) : b_X4_isWord_24 f_J0_length_8abf5 f_X4_byteAt f_J0_charAt_5068e (qi (shp u) q) [o0, o1, o2] [] (shp u) I J = (((0 : Int32) = 0 ∨ (0 : Int32) = 1) ∧ ((shp u) = (shp u) ∧ q I J 0)) := rfl
set_option maxRecDepth 100000 in
set_option maxHeartbeats 8000000 in
theorem g_X4_isWord_c_28 (u : Nat) (f_J0_length_8abf5 : YTi) (f_X4_byteAt : YTi) (f_J0_charAt_5068e : YTi)  (r28 : ZK) (x2 : Int32) (I : ZI) (J : ZJ) (q : YQi) : bb_X4_isWord_28 f_J0_length_8abf5 f_X4_byteAt f_J0_charAt_5068e (qi (shp u) q) r28 [some (.ref 31), some (.retAddr 6), some (.int x2)] [] (shp u) I J = (f_J0_length_8abf5 [.retAddr 6] (shp u) I J (fun I1 J1 v1 => ((v1 ≤ x2 → (((1 : Int32) = 0 ∨ (1 : Int32) = 1) ∧ ((shp u) = (shp u) ∧ q I1 J1 1))) ∧ (¬ v1 ≤ x2 → (f_X4_byteAt [.ref 31, .int ((I1 31 3) + x2)] (shp u) I1 J1 (fun I2 J2 v2 => (f_J0_charAt_5068e [.retAddr 6, .int x2] (shp u) I2 J2 (fun I3 J3 v3 => ((v2 = v3 → r28 [some (.ref 31), some (.retAddr 6), some (.int (x2 + 1))] [] (shp u) I3 J3) ∧ (¬ v2 = v3 → (((0 : Int32) = 0 ∨ (0 : Int32) = 1) ∧ ((shp u) = (shp u) ∧ q I3 J3 0)))))))))))) := rfl
-- X4_isWord (31, '7')
set_option maxRecDepth 100000 in
set_option maxHeartbeats 8000000 in
theorem g_X4_isWord_b (u : Nat) (f_J0_length_8abf5 : YTi) (f_X4_byteAt : YTi) (f_J0_charAt_5068e : YTi)  (I : ZI) (J : ZJ) (q : YQi) : b_X4_isWord_0 f_J0_length_8abf5 f_X4_byteAt f_J0_charAt_5068e (qi (shp u) q) [some (.ref 31), some (.retAddr 7), none] [] (shp u) I J = ((¬ (I 31 2) = (1 : Int32) → b_X4_isWord_24 f_J0_length_8abf5 f_X4_byteAt f_J0_charAt_5068e (qi (shp u) q) [some (.ref 31), some (.retAddr 7), none] [] (shp u) I J) ∧ ((I 31 2) = (1 : Int32) → (f_J0_length_8abf5 [.retAddr 7] (shp u) I J (fun I1 J1 v1 => ((((I 31 4) - (I 31 3)) = v1 → b_X4_isWord_28 f_J0_length_8abf5 f_X4_byteAt f_J0_charAt_5068e (qi (shp u) q) [some (.ref 31), some (.retAddr 7), some (.int 0)] [] (shp u) I1 J1) ∧ (¬ ((I 31 4) - (I 31 3)) = v1 → b_X4_isWord_24 f_J0_length_8abf5 f_X4_byteAt f_J0_charAt_5068e (qi (shp u) q) [some (.ref 31), some (.retAddr 7), none] [] (shp u) I1 J1)))))) := rfl
set_option maxRecDepth 100000 in
set_option maxHeartbeats 8000000 in
theorem e_X4_isWord_b (u : Nat)  (I : ZI) (J : ZJ) (q : YQi) : u_X4_isWord [.ref 31, .retAddr 7] (shp u) I J q = ((¬ (I 31 2) = (1 : Int32) → b_X4_isWord_24 u_J0_length_8abf5 u_X4_byteAt u_J0_charAt_5068e (qi (shp u) q) [some (.ref 31), some (.retAddr 7), none] [] (shp u) I J) ∧ ((I 31 2) = (1 : Int32) → (u_J0_length_8abf5 [.retAddr 7] (shp u) I J (fun I1 J1 v1 => ((((I 31 4) - (I 31 3)) = v1 → b_X4_isWord_28 u_J0_length_8abf5 u_X4_byteAt u_J0_charAt_5068e (qi (shp u) q) [some (.ref 31), some (.retAddr 7), some (.int 0)] [] (shp u) I1 J1) ∧ (¬ ((I 31 4) - (I 31 3)) = v1 → b_X4_isWord_24 u_J0_length_8abf5 u_X4_byteAt u_J0_charAt_5068e (qi (shp u) q) [some (.ref 31), some (.retAddr 7), none] [] (shp u) I1 J1)))))) := g_X4_isWord_b u u_J0_length_8abf5 u_X4_byteAt u_J0_charAt_5068e  I J q
set_option maxRecDepth 100000 in
set_option maxHeartbeats 8000000 in
theorem g_X4_isWord_b_24 (u : Nat) (f_J0_length_8abf5 : YTi) (f_X4_byteAt : YTi) (f_J0_charAt_5068e : YTi)  (o0 : Option Value) (o1 : Option Value) (o2 : Option Value) (I : ZI) (J : ZJ) (q : YQi) : b_X4_isWord_24 f_J0_length_8abf5 f_X4_byteAt f_J0_charAt_5068e (qi (shp u) q) [o0, o1, o2] [] (shp u) I J = (((0 : Int32) = 0 ∨ (0 : Int32) = 1) ∧ ((shp u) = (shp u) ∧ q I J 0)) := rfl
set_option maxRecDepth 100000 in
set_option maxHeartbeats 8000000 in
theorem g_X4_isWord_b_28 (u : Nat) (f_J0_length_8abf5 : YTi) (f_X4_byteAt : YTi) (f_J0_charAt_5068e : YTi)  (r28 : ZK) (x2 : Int32) (I : ZI) (J : ZJ) (q : YQi) : bb_X4_isWord_28 f_J0_length_8abf5 f_X4_byteAt f_J0_charAt_5068e (qi (shp u) q) r28 [some (.ref 31), some (.retAddr 7), some (.int x2)] [] (shp u) I J = (f_J0_length_8abf5 [.retAddr 7] (shp u) I J (fun I1 J1 v1 => ((v1 ≤ x2 → (((1 : Int32) = 0 ∨ (1 : Int32) = 1) ∧ ((shp u) = (shp u) ∧ q I1 J1 1))) ∧ (¬ v1 ≤ x2 → (f_X4_byteAt [.ref 31, .int ((I1 31 3) + x2)] (shp u) I1 J1 (fun I2 J2 v2 => (f_J0_charAt_5068e [.retAddr 7, .int x2] (shp u) I2 J2 (fun I3 J3 v3 => ((v2 = v3 → r28 [some (.ref 31), some (.retAddr 7), some (.int (x2 + 1))] [] (shp u) I3 J3) ∧ (¬ v2 = v3 → (((0 : Int32) = 0 ∨ (0 : Int32) = 1) ∧ ((shp u) = (shp u) ∧ q I3 J3 0)))))))))))) := rfl
-- X4_nextNumber (31, 'i', 'i')
set_option maxRecDepth 100000 in
set_option maxHeartbeats 8000000 in
theorem g_X4_nextNumber (u : Nat) (f_X4_nextToken : YTv) (f_X4_byteAt : YTi) (f_X11_within : YTi) (x1 : Int32) (x2 : Int32) (I : ZI) (J : ZJ) (q : YQi) : b_X4_nextNumber_0 f_X4_nextToken f_X4_byteAt f_X11_within (qi (shp u) q) [some (.ref 31), some (.int x1), some (.int x2), none, none] [] (shp u) I J = (f_X4_nextToken [.ref 31] (shp u) I J (fun I1 J1 => ((¬ (I1 31 2) = (2 : Int32) → b_X4_nextNumber_25 f_X4_nextToken f_X4_byteAt f_X11_within (qi (shp u) q) [some (.ref 31), some (.int x1), some (.int x2), none, none] [] (shp u) I1 J1) ∧ ((I1 31 2) = (2 : Int32) → ((((I1 31 4) - (I1 31 3)) ≤ (2 : Int32) → b_X4_nextNumber_35 f_X4_nextToken f_X4_byteAt f_X11_within (qi (shp u) q) [some (.ref 31), some (.int x1), some (.int x2), some (.int 0), some (.int (I1 31 3))] [] (shp u) I1 J1) ∧ (¬ ((I1 31 4) - (I1 31 3)) ≤ (2 : Int32) → b_X4_nextNumber_25 f_X4_nextToken f_X4_byteAt f_X11_within (qi (shp u) q) [some (.ref 31), some (.int x1), some (.int x2), none, none] [] (shp u) I1 J1)))))) := rfl
set_option maxRecDepth 100000 in
set_option maxHeartbeats 8000000 in
theorem e_X4_nextNumber (u : Nat) (x1 : Int32) (x2 : Int32) (I : ZI) (J : ZJ) (q : YQi) : u_X4_nextNumber [.ref 31, .int x1, .int x2] (shp u) I J q = (u_X4_nextToken [.ref 31] (shp u) I J (fun I1 J1 => ((¬ (I1 31 2) = (2 : Int32) → b_X4_nextNumber_25 u_X4_nextToken u_X4_byteAt u_X11_within (qi (shp u) q) [some (.ref 31), some (.int x1), some (.int x2), none, none] [] (shp u) I1 J1) ∧ ((I1 31 2) = (2 : Int32) → ((((I1 31 4) - (I1 31 3)) ≤ (2 : Int32) → b_X4_nextNumber_35 u_X4_nextToken u_X4_byteAt u_X11_within (qi (shp u) q) [some (.ref 31), some (.int x1), some (.int x2), some (.int 0), some (.int (I1 31 3))] [] (shp u) I1 J1) ∧ (¬ ((I1 31 4) - (I1 31 3)) ≤ (2 : Int32) → b_X4_nextNumber_25 u_X4_nextToken u_X4_byteAt u_X11_within (qi (shp u) q) [some (.ref 31), some (.int x1), some (.int x2), none, none] [] (shp u) I1 J1)))))) := g_X4_nextNumber u u_X4_nextToken u_X4_byteAt u_X11_within x1 x2 I J q
set_option maxRecDepth 100000 in
set_option maxHeartbeats 8000000 in
theorem g_X4_nextNumber_25 (u : Nat) (f_X4_nextToken : YTv) (f_X4_byteAt : YTi) (f_X11_within : YTi)  (o0 : Option Value) (o1 : Option Value) (o2 : Option Value) (o3 : Option Value) (o4 : Option Value) (I : ZI) (J : ZJ) (q : YQi) : b_X4_nextNumber_25 f_X4_nextToken f_X4_byteAt f_X11_within (qi (shp u) q) [o0, o1, o2, o3, o4] [] (shp u) I J = ((shp u) = (shp u) ∧ q I J (-1)) := rfl
set_option maxRecDepth 100000 in
set_option maxHeartbeats 8000000 in
theorem g_X4_nextNumber_35 (u : Nat) (f_X4_nextToken : YTv) (f_X4_byteAt : YTi) (f_X11_within : YTi)  (r35 : ZK) (x1 : Int32) (x2 : Int32) (x3 : Int32) (x4 : Int32) (I : ZI) (J : ZJ) (q : YQi) : bb_X4_nextNumber_35 f_X4_nextToken f_X4_byteAt f_X11_within (qi (shp u) q) r35 [some (.ref 31), some (.int x1), some (.int x2), some (.int x3), some (.int x4)] [] (shp u) I J = (((I 31 4) ≤ x4 → (f_X11_within [.int x3, .int x1, .int x2] (shp u) I J (fun I1 J1 v1 => ((v1 = 0 → b_X4_nextNumber_79 f_X4_nextToken f_X4_byteAt f_X11_within (qi (shp u) q) [some (.ref 31), some (.int x1), some (.int x2), some (.int x3), some (.int x4)] [.int (-1)] (shp u) I1 J1) ∧ (¬ v1 = 0 → b_X4_nextNumber_79 f_X4_nextToken f_X4_byteAt f_X11_within (qi (shp u) q) [some (.ref 31), some (.int x1), some (.int x2), some (.int x3), some (.int x4)] [.int x3] (shp u) I1 J1))))) ∧ (¬ (I 31 4) ≤ x4 → (f_X4_byteAt [.ref 31, .int x4] (shp u) I J (fun I2 J2 v2 => r35 [some (.ref 31), some (.int x1), some (.int x2), some (.int (((x3 * 10) + v2) - 48)), some (.int (x4 + 1))] [] (shp u) I2 J2)))) := rfl
set_option maxRecDepth 100000 in
set_option maxHeartbeats 8000000 in
theorem g_X4_nextNumber_79 (u : Nat) (f_X4_nextToken : YTv) (f_X4_byteAt : YTi) (f_X11_within : YTi)  (o0 : Option Value) (o1 : Option Value) (o2 : Option Value) (o3 : Option Value) (o4 : Option Value) (y0 : Int32) (I : ZI) (J : ZJ) (q : YQi) : b_X4_nextNumber_79 f_X4_nextToken f_X4_byteAt f_X11_within (qi (shp u) q) [o0, o1, o2, o3, o4] [.int y0] (shp u) I J = ((shp u) = (shp u) ∧ q I J y0) := rfl
-- X4_nextIsEnd (31,)
set_option maxRecDepth 100000 in
set_option maxHeartbeats 8000000 in
theorem g_X4_nextIsEnd (u : Nat) (f_X4_nextToken : YTv)  (I : ZI) (J : ZJ) (q : YQi) : b_X4_nextIsEnd_0 f_X4_nextToken (qi (shp u) q) [some (.ref 31)] [] (shp u) I J = (f_X4_nextToken [.ref 31] (shp u) I J (fun I1 J1 => ((¬ (I1 31 2) = (3 : Int32) → b_X4_nextIsEnd_17 f_X4_nextToken (qi (shp u) q) [some (.ref 31)] [.int 0] (shp u) I1 J1) ∧ ((I1 31 2) = (3 : Int32) → b_X4_nextIsEnd_17 f_X4_nextToken (qi (shp u) q) [some (.ref 31)] [.int 1] (shp u) I1 J1)))) := rfl
set_option maxRecDepth 100000 in
set_option maxHeartbeats 8000000 in
theorem e_X4_nextIsEnd (u : Nat)  (I : ZI) (J : ZJ) (q : YQi) : u_X4_nextIsEnd [.ref 31] (shp u) I J q = (u_X4_nextToken [.ref 31] (shp u) I J (fun I1 J1 => ((¬ (I1 31 2) = (3 : Int32) → b_X4_nextIsEnd_17 u_X4_nextToken (qi (shp u) q) [some (.ref 31)] [.int 0] (shp u) I1 J1) ∧ ((I1 31 2) = (3 : Int32) → b_X4_nextIsEnd_17 u_X4_nextToken (qi (shp u) q) [some (.ref 31)] [.int 1] (shp u) I1 J1)))) := g_X4_nextIsEnd u u_X4_nextToken  I J q
set_option maxRecDepth 100000 in
set_option maxHeartbeats 8000000 in
theorem g_X4_nextIsEnd_17 (u : Nat) (f_X4_nextToken : YTv)  (o0 : Option Value) (y0 : Int32) (I : ZI) (J : ZJ) (q : YQi) : b_X4_nextIsEnd_17 f_X4_nextToken (qi (shp u) q) [o0] [.int y0] (shp u) I J = ((y0 = 0 ∨ y0 = 1) ∧ ((shp u) = (shp u) ∧ q I J y0)) := rfl
-- X4_tellRoad (31, 16)
set_option maxRecDepth 100000 in
set_option maxHeartbeats 8000000 in
theorem g_X4_tellRoad (u : Nat) (f_X4_isWord : YTi) (f_X4_nextNumber : YTi) (f_X4_nextIsEnd : YTi) (f_X10_beginAnew : YTv)  (I : ZI) (J : ZJ) (q : YQi) : b_X4_tellRoad_0 f_X4_isWord f_X4_nextNumber f_X4_nextIsEnd f_X10_beginAnew (qi (shp u) q) [some (.ref 31), some (.ref 16), none, none] [] (shp u) I J = (f_X4_isWord [.ref 31, .retAddr 1] (shp u) I J (fun I1 J1 v1 => ((¬ v1 = 0 → (f_X4_nextNumber [.ref 31, .int 1, .int 15] (shp u) I1 J1 (fun I2 J2 v2 => ((¬ v2 = (-1 : Int32) → (f_X4_nextNumber [.ref 31, .int 1, .int 12] (shp u) I2 J2 (fun I3 J3 v3 => b_X4_tellRoad_35 f_X4_isWord f_X4_nextNumber f_X4_nextIsEnd f_X10_beginAnew (qi (shp u) q) [some (.ref 31), some (.ref 16), some (.int v2), none] [.int v3] (shp u) I3 J3))) ∧ (v2 = (-1 : Int32) → b_X4_tellRoad_35 f_X4_isWord f_X4_nextNumber f_X4_nextIsEnd f_X10_beginAnew (qi (shp u) q) [some (.ref 31), some (.ref 16), some (.int v2), none] [.int (-1)] (shp u) I2 J2))))) ∧ (v1 = 0 → (((0 : Int32) = 0 ∨ (0 : Int32) = 1) ∧ ((shp u) = (shp u) ∧ q I1 J1 0)))))) := rfl
set_option maxRecDepth 100000 in
set_option maxHeartbeats 8000000 in
theorem e_X4_tellRoad (u : Nat)  (I : ZI) (J : ZJ) (q : YQi) : u_X4_tellRoad [.ref 31, .ref 16] (shp u) I J q = (u_X4_isWord [.ref 31, .retAddr 1] (shp u) I J (fun I1 J1 v1 => ((¬ v1 = 0 → (u_X4_nextNumber [.ref 31, .int 1, .int 15] (shp u) I1 J1 (fun I2 J2 v2 => ((¬ v2 = (-1 : Int32) → (u_X4_nextNumber [.ref 31, .int 1, .int 12] (shp u) I2 J2 (fun I3 J3 v3 => b_X4_tellRoad_35 u_X4_isWord u_X4_nextNumber u_X4_nextIsEnd u_X10_beginAnew (qi (shp u) q) [some (.ref 31), some (.ref 16), some (.int v2), none] [.int v3] (shp u) I3 J3))) ∧ (v2 = (-1 : Int32) → b_X4_tellRoad_35 u_X4_isWord u_X4_nextNumber u_X4_nextIsEnd u_X10_beginAnew (qi (shp u) q) [some (.ref 31), some (.ref 16), some (.int v2), none] [.int (-1)] (shp u) I2 J2))))) ∧ (v1 = 0 → (((0 : Int32) = 0 ∨ (0 : Int32) = 1) ∧ ((shp u) = (shp u) ∧ q I1 J1 0)))))) := g_X4_tellRoad u u_X4_isWord u_X4_nextNumber u_X4_nextIsEnd u_X10_beginAnew  I J q
set_option maxRecDepth 100000 in
set_option maxHeartbeats 8000000 in
theorem g_X4_tellRoad_35 (u : Nat) (f_X4_isWord : YTi) (f_X4_nextNumber : YTi) (f_X4_nextIsEnd : YTi) (f_X10_beginAnew : YTv)  (x2 : Int32) (o3 : Option Value) (y0 : Int32) (I : ZI) (J : ZJ) (q : YQi) : b_X4_tellRoad_35 f_X4_isWord f_X4_nextNumber f_X4_nextIsEnd f_X10_beginAnew (qi (shp u) q) [some (.ref 31), some (.ref 16), some (.int x2), o3] [.int y0] (shp u) I J = ((y0 = (-1 : Int32) → b_X4_tellRoad_48 f_X4_isWord f_X4_nextNumber f_X4_nextIsEnd f_X10_beginAnew (qi (shp u) q) [some (.ref 31), some (.ref 16), some (.int x2), some (.int y0)] [] (shp u) I J) ∧ (¬ y0 = (-1 : Int32) → (f_X4_nextIsEnd [.ref 31] (shp u) I J (fun I1 J1 v1 => ((¬ v1 = 0 → (f_X10_beginAnew [.ref 16, .int x2, .int y0] (shp u) I1 J1 (fun I2 J2 => (((1 : Int32) = 0 ∨ (1 : Int32) = 1) ∧ ((shp u) = (shp u) ∧ q I2 J2 1))))) ∧ (v1 = 0 → b_X4_tellRoad_48 f_X4_isWord f_X4_nextNumber f_X4_nextIsEnd f_X10_beginAnew (qi (shp u) q) [some (.ref 31), some (.ref 16), some (.int x2), some (.int y0)] [] (shp u) I1 J1)))))) := rfl
set_option maxRecDepth 100000 in
set_option maxHeartbeats 8000000 in
theorem g_X4_tellRoad_48 (u : Nat) (f_X4_isWord : YTi) (f_X4_nextNumber : YTi) (f_X4_nextIsEnd : YTi) (f_X10_beginAnew : YTv)  (o0 : Option Value) (o1 : Option Value) (o2 : Option Value) (o3 : Option Value) (I : ZI) (J : ZJ) (q : YQi) : b_X4_tellRoad_48 f_X4_isWord f_X4_nextNumber f_X4_nextIsEnd f_X10_beginAnew (qi (shp u) q) [o0, o1, o2, o3] [] (shp u) I J = (((0 : Int32) = 0 ∨ (0 : Int32) = 1) ∧ ((shp u) = (shp u) ∧ q I J 0)) := rfl
-- X4_tellCobble (31, 16, 'i')
set_option maxRecDepth 100000 in
set_option maxHeartbeats 8000000 in
theorem g_X4_tellCobble (u : Nat) (f_X4_nextNumber : YTi) (f_X4_nextIsEnd : YTi) (f_X5_layCobble : YTv) (x2 : Int32) (I : ZI) (J : ZJ) (q : YQi) : b_X4_tellCobble_0 f_X4_nextNumber f_X4_nextIsEnd f_X5_layCobble (qi (shp u) q) [some (.ref 31), some (.ref 16), some (.int x2), none, none] [] (shp u) I J = (f_X4_nextNumber [.ref 31, .int 0, .int (I 17 0)] (shp u) I J (fun I1 J1 v1 => ((¬ v1 = (-1 : Int32) → (f_X4_nextNumber [.ref 31, .int 0, .int 4] (shp u) I1 J1 (fun I2 J2 v2 => b_X4_tellCobble_28 f_X4_nextNumber f_X4_nextIsEnd f_X5_layCobble (qi (shp u) q) [some (.ref 31), some (.ref 16), some (.int x2), some (.int v1), none] [.int v2] (shp u) I2 J2))) ∧ (v1 = (-1 : Int32) → b_X4_tellCobble_28 f_X4_nextNumber f_X4_nextIsEnd f_X5_layCobble (qi (shp u) q) [some (.ref 31), some (.ref 16), some (.int x2), some (.int v1), none] [.int (-1)] (shp u) I1 J1)))) := rfl
set_option maxRecDepth 100000 in
set_option maxHeartbeats 8000000 in
theorem e_X4_tellCobble (u : Nat) (x2 : Int32) (I : ZI) (J : ZJ) (q : YQi) : u_X4_tellCobble [.ref 31, .ref 16, .int x2] (shp u) I J q = (u_X4_nextNumber [.ref 31, .int 0, .int (I 17 0)] (shp u) I J (fun I1 J1 v1 => ((¬ v1 = (-1 : Int32) → (u_X4_nextNumber [.ref 31, .int 0, .int 4] (shp u) I1 J1 (fun I2 J2 v2 => b_X4_tellCobble_28 u_X4_nextNumber u_X4_nextIsEnd u_X5_layCobble (qi (shp u) q) [some (.ref 31), some (.ref 16), some (.int x2), some (.int v1), none] [.int v2] (shp u) I2 J2))) ∧ (v1 = (-1 : Int32) → b_X4_tellCobble_28 u_X4_nextNumber u_X4_nextIsEnd u_X5_layCobble (qi (shp u) q) [some (.ref 31), some (.ref 16), some (.int x2), some (.int v1), none] [.int (-1)] (shp u) I1 J1)))) := g_X4_tellCobble u u_X4_nextNumber u_X4_nextIsEnd u_X5_layCobble x2 I J q
set_option maxRecDepth 100000 in
set_option maxHeartbeats 8000000 in
theorem g_X4_tellCobble_28 (u : Nat) (f_X4_nextNumber : YTi) (f_X4_nextIsEnd : YTi) (f_X5_layCobble : YTv)  (x2 : Int32) (x3 : Int32) (o4 : Option Value) (y0 : Int32) (I : ZI) (J : ZJ) (q : YQi) : b_X4_tellCobble_28 f_X4_nextNumber f_X4_nextIsEnd f_X5_layCobble (qi (shp u) q) [some (.ref 31), some (.ref 16), some (.int x2), some (.int x3), o4] [.int y0] (shp u) I J = ((y0 = (-1 : Int32) → b_X4_tellCobble_43 f_X4_nextNumber f_X4_nextIsEnd f_X5_layCobble (qi (shp u) q) [some (.ref 31), some (.ref 16), some (.int x2), some (.int x3), some (.int y0)] [] (shp u) I J) ∧ (¬ y0 = (-1 : Int32) → (f_X4_nextIsEnd [.ref 31] (shp u) I J (fun I1 J1 v1 => ((¬ v1 = 0 → (f_X5_layCobble [.ref 17, .int x3, .int (x2 * y0)] (shp u) I1 J1 (fun I2 J2 => (((1 : Int32) = 0 ∨ (1 : Int32) = 1) ∧ ((shp u) = (shp u) ∧ q I2 J2 1))))) ∧ (v1 = 0 → b_X4_tellCobble_43 f_X4_nextNumber f_X4_nextIsEnd f_X5_layCobble (qi (shp u) q) [some (.ref 31), some (.ref 16), some (.int x2), some (.int x3), some (.int y0)] [] (shp u) I1 J1)))))) := rfl
set_option maxRecDepth 100000 in
set_option maxHeartbeats 8000000 in
theorem g_X4_tellCobble_43 (u : Nat) (f_X4_nextNumber : YTi) (f_X4_nextIsEnd : YTi) (f_X5_layCobble : YTv)  (o0 : Option Value) (o1 : Option Value) (o2 : Option Value) (o3 : Option Value) (o4 : Option Value) (I : ZI) (J : ZJ) (q : YQi) : b_X4_tellCobble_43 f_X4_nextNumber f_X4_nextIsEnd f_X5_layCobble (qi (shp u) q) [o0, o1, o2, o3, o4] [] (shp u) I J = (((0 : Int32) = 0 ∨ (0 : Int32) = 1) ∧ ((shp u) = (shp u) ∧ q I J 0)) := rfl
-- X4_tellWind (31, 16, 'i')
set_option maxRecDepth 100000 in
set_option maxHeartbeats 8000000 in
theorem g_X4_tellWind (u : Nat) (f_X4_nextNumber : YTi) (f_X4_nextIsEnd : YTi) (f_X5_setWind : YTv) (x2 : Int32) (I : ZI) (J : ZJ) (q : YQi) : b_X4_tellWind_0 f_X4_nextNumber f_X4_nextIsEnd f_X5_setWind (qi (shp u) q) [some (.ref 31), some (.ref 16), some (.int x2), none, none] [] (shp u) I J = (f_X4_nextNumber [.ref 31, .int 0, .int 5] (shp u) I J (fun I1 J1 v1 => ((¬ v1 = (-1 : Int32) → (f_X4_nextNumber [.ref 31, .int 0, .int 3] (shp u) I1 J1 (fun I2 J2 v2 => b_X4_tellWind_22 f_X4_nextNumber f_X4_nextIsEnd f_X5_setWind (qi (shp u) q) [some (.ref 31), some (.ref 16), some (.int x2), some (.int v1), none] [.int v2] (shp u) I2 J2))) ∧ (v1 = (-1 : Int32) → b_X4_tellWind_22 f_X4_nextNumber f_X4_nextIsEnd f_X5_setWind (qi (shp u) q) [some (.ref 31), some (.ref 16), some (.int x2), some (.int v1), none] [.int (-1)] (shp u) I1 J1)))) := rfl
set_option maxRecDepth 100000 in
set_option maxHeartbeats 8000000 in
theorem e_X4_tellWind (u : Nat) (x2 : Int32) (I : ZI) (J : ZJ) (q : YQi) : u_X4_tellWind [.ref 31, .ref 16, .int x2] (shp u) I J q = (u_X4_nextNumber [.ref 31, .int 0, .int 5] (shp u) I J (fun I1 J1 v1 => ((¬ v1 = (-1 : Int32) → (u_X4_nextNumber [.ref 31, .int 0, .int 3] (shp u) I1 J1 (fun I2 J2 v2 => b_X4_tellWind_22 u_X4_nextNumber u_X4_nextIsEnd u_X5_setWind (qi (shp u) q) [some (.ref 31), some (.ref 16), some (.int x2), some (.int v1), none] [.int v2] (shp u) I2 J2))) ∧ (v1 = (-1 : Int32) → b_X4_tellWind_22 u_X4_nextNumber u_X4_nextIsEnd u_X5_setWind (qi (shp u) q) [some (.ref 31), some (.ref 16), some (.int x2), some (.int v1), none] [.int (-1)] (shp u) I1 J1)))) := g_X4_tellWind u u_X4_nextNumber u_X4_nextIsEnd u_X5_setWind x2 I J q
set_option maxRecDepth 100000 in
set_option maxHeartbeats 8000000 in
theorem g_X4_tellWind_22 (u : Nat) (f_X4_nextNumber : YTi) (f_X4_nextIsEnd : YTi) (f_X5_setWind : YTv)  (x2 : Int32) (x3 : Int32) (o4 : Option Value) (y0 : Int32) (I : ZI) (J : ZJ) (q : YQi) : b_X4_tellWind_22 f_X4_nextNumber f_X4_nextIsEnd f_X5_setWind (qi (shp u) q) [some (.ref 31), some (.ref 16), some (.int x2), some (.int x3), o4] [.int y0] (shp u) I J = ((y0 = (-1 : Int32) → b_X4_tellWind_37 f_X4_nextNumber f_X4_nextIsEnd f_X5_setWind (qi (shp u) q) [some (.ref 31), some (.ref 16), some (.int x2), some (.int x3), some (.int y0)] [] (shp u) I J) ∧ (¬ y0 = (-1 : Int32) → (f_X4_nextIsEnd [.ref 31] (shp u) I J (fun I1 J1 v1 => ((¬ v1 = 0 → (f_X5_setWind [.ref 17, .int x3, .int (x2 * y0)] (shp u) I1 J1 (fun I2 J2 => (((1 : Int32) = 0 ∨ (1 : Int32) = 1) ∧ ((shp u) = (shp u) ∧ q I2 J2 1))))) ∧ (v1 = 0 → b_X4_tellWind_37 f_X4_nextNumber f_X4_nextIsEnd f_X5_setWind (qi (shp u) q) [some (.ref 31), some (.ref 16), some (.int x2), some (.int x3), some (.int y0)] [] (shp u) I1 J1)))))) := rfl
set_option maxRecDepth 100000 in
set_option maxHeartbeats 8000000 in
theorem g_X4_tellWind_37 (u : Nat) (f_X4_nextNumber : YTi) (f_X4_nextIsEnd : YTi) (f_X5_setWind : YTv)  (o0 : Option Value) (o1 : Option Value) (o2 : Option Value) (o3 : Option Value) (o4 : Option Value) (I : ZI) (J : ZJ) (q : YQi) : b_X4_tellWind_37 f_X4_nextNumber f_X4_nextIsEnd f_X5_setWind (qi (shp u) q) [o0, o1, o2, o3, o4] [] (shp u) I J = (((0 : Int32) = 0 ∨ (0 : Int32) = 1) ∧ ((shp u) = (shp u) ∧ q I J 0)) := rfl
-- X4_tellHead (31, 16, 'i')
set_option maxRecDepth 100000 in
set_option maxHeartbeats 8000000 in
theorem g_X4_tellHead (u : Nat) (f_X4_nextNumber : YTi) (f_X4_nextIsEnd : YTi) (f_X10_addHead : YTv) (x2 : Int32) (I : ZI) (J : ZJ) (q : YQi) : b_X4_tellHead_0 f_X4_nextNumber f_X4_nextIsEnd f_X10_addHead (qi (shp u) q) [some (.ref 31), some (.ref 16), some (.int x2), none, none] [] (shp u) I J = (((I 16 2) < (5 : Int32) → (f_X4_nextNumber [.ref 31, .int 0, .int 5] (shp u) I J (fun I1 J1 v1 => ((¬ v1 = (-1 : Int32) → (f_X4_nextNumber [.ref 31, .int 0, .int 12] (shp u) I1 J1 (fun I2 J2 v2 => b_X4_tellHead_33 f_X4_nextNumber f_X4_nextIsEnd f_X10_addHead (qi (shp u) q) [some (.ref 31), some (.ref 16), some (.int x2), some (.int v1), none] [.int v2] (shp u) I2 J2))) ∧ (v1 = (-1 : Int32) → b_X4_tellHead_33 f_X4_nextNumber f_X4_nextIsEnd f_X10_addHead (qi (shp u) q) [some (.ref 31), some (.ref 16), some (.int x2), some (.int v1), none] [.int (-1)] (shp u) I1 J1))))) ∧ (¬ (I 16 2) < (5 : Int32) → (((0 : Int32) = 0 ∨ (0 : Int32) = 1) ∧ ((shp u) = (shp u) ∧ q I J 0)))) := rfl
set_option maxRecDepth 100000 in
set_option maxHeartbeats 8000000 in
theorem e_X4_tellHead (u : Nat) (x2 : Int32) (I : ZI) (J : ZJ) (q : YQi) : u_X4_tellHead [.ref 31, .ref 16, .int x2] (shp u) I J q = (((I 16 2) < (5 : Int32) → (u_X4_nextNumber [.ref 31, .int 0, .int 5] (shp u) I J (fun I1 J1 v1 => ((¬ v1 = (-1 : Int32) → (u_X4_nextNumber [.ref 31, .int 0, .int 12] (shp u) I1 J1 (fun I2 J2 v2 => b_X4_tellHead_33 u_X4_nextNumber u_X4_nextIsEnd u_X10_addHead (qi (shp u) q) [some (.ref 31), some (.ref 16), some (.int x2), some (.int v1), none] [.int v2] (shp u) I2 J2))) ∧ (v1 = (-1 : Int32) → b_X4_tellHead_33 u_X4_nextNumber u_X4_nextIsEnd u_X10_addHead (qi (shp u) q) [some (.ref 31), some (.ref 16), some (.int x2), some (.int v1), none] [.int (-1)] (shp u) I1 J1))))) ∧ (¬ (I 16 2) < (5 : Int32) → (((0 : Int32) = 0 ∨ (0 : Int32) = 1) ∧ ((shp u) = (shp u) ∧ q I J 0)))) := g_X4_tellHead u u_X4_nextNumber u_X4_nextIsEnd u_X10_addHead x2 I J q
set_option maxRecDepth 100000 in
set_option maxHeartbeats 8000000 in
theorem g_X4_tellHead_33 (u : Nat) (f_X4_nextNumber : YTi) (f_X4_nextIsEnd : YTi) (f_X10_addHead : YTv)  (x2 : Int32) (x3 : Int32) (o4 : Option Value) (y0 : Int32) (I : ZI) (J : ZJ) (q : YQi) : b_X4_tellHead_33 f_X4_nextNumber f_X4_nextIsEnd f_X10_addHead (qi (shp u) q) [some (.ref 31), some (.ref 16), some (.int x2), some (.int x3), o4] [.int y0] (shp u) I J = ((y0 = (-1 : Int32) → b_X4_tellHead_48 f_X4_nextNumber f_X4_nextIsEnd f_X10_addHead (qi (shp u) q) [some (.ref 31), some (.ref 16), some (.int x2), some (.int x3), some (.int y0)] [] (shp u) I J) ∧ (¬ y0 = (-1 : Int32) → (f_X4_nextIsEnd [.ref 31] (shp u) I J (fun I1 J1 v1 => ((¬ v1 = 0 → (f_X10_addHead [.ref 16, .int x3, .int (x2 * y0)] (shp u) I1 J1 (fun I2 J2 => (((1 : Int32) = 0 ∨ (1 : Int32) = 1) ∧ ((shp u) = (shp u) ∧ q I2 J2 1))))) ∧ (v1 = 0 → b_X4_tellHead_48 f_X4_nextNumber f_X4_nextIsEnd f_X10_addHead (qi (shp u) q) [some (.ref 31), some (.ref 16), some (.int x2), some (.int x3), some (.int y0)] [] (shp u) I1 J1)))))) := rfl
set_option maxRecDepth 100000 in
set_option maxHeartbeats 8000000 in
theorem g_X4_tellHead_48 (u : Nat) (f_X4_nextNumber : YTi) (f_X4_nextIsEnd : YTi) (f_X10_addHead : YTv)  (o0 : Option Value) (o1 : Option Value) (o2 : Option Value) (o3 : Option Value) (o4 : Option Value) (I : ZI) (J : ZJ) (q : YQi) : b_X4_tellHead_48 f_X4_nextNumber f_X4_nextIsEnd f_X10_addHead (qi (shp u) q) [o0, o1, o2, o3, o4] [] (shp u) I J = (((0 : Int32) = 0 ∨ (0 : Int32) = 1) ∧ ((shp u) = (shp u) ∧ q I J 0)) := rfl
-- X4_tellItem (31, 16)
set_option maxRecDepth 100000 in
set_option maxHeartbeats 8000000 in
theorem g_X4_tellItem (u : Nat) (f_X4_isWord : YTi) (f_X4_tellCobble : YTi) (f_X4_tellWind : YTi) (f_X4_tellHead : YTi)  (I : ZI) (J : ZJ) (q : YQi) : b_X4_tellItem_0 f_X4_isWord f_X4_tellCobble f_X4_tellWind f_X4_tellHead (qi (shp u) q) [some (.ref 31), some (.ref 16)] [] (shp u) I J = (f_X4_isWord [.ref 31, .retAddr 2] (shp u) I J (fun I1 J1 v1 => ((v1 = 0 → (f_X4_isWord [.ref 31, .retAddr 3] (shp u) I1 J1 (fun I2 J2 v2 => ((v2 = 0 → (f_X4_isWord [.ref 31, .retAddr 4] (shp u) I2 J2 (fun I3 J3 v3 => ((v3 = 0 → (f_X4_isWord [.ref 31, .retAddr 5] (shp u) I3 J3 (fun I4 J4 v4 => ((v4 = 0 → (f_X4_isWord [.ref 31, .retAddr 6] (shp u) I4 J4 (fun I5 J5 v5 => ((v5 = 0 → (f_X4_isWord [.ref 31, .retAddr 7] (shp u) I5 J5 (fun I6 J6 v6 => ((v6 = 0 → b_X4_tellItem_102 f_X4_isWord f_X4_tellCobble f_X4_tellWind f_X4_tellHead (qi (shp u) q) [some (.ref 31), some (.ref 16)] [] (shp u) I6 J6) ∧ (¬ v6 = 0 → (f_X4_tellHead [.ref 31, .ref 16, .int (-1)] (shp u) I6 J6 (fun I7 J7 v7 => ((v7 = 0 → b_X4_tellItem_102 f_X4_isWord f_X4_tellCobble f_X4_tellWind f_X4_tellHead (qi (shp u) q) [some (.ref 31), some (.ref 16)] [] (shp u) I7 J7) ∧ (¬ v7 = 0 → b_X4_tellItem_103 f_X4_isWord f_X4_tellCobble f_X4_tellWind f_X4_tellHead (qi (shp u) q) [some (.ref 31), some (.ref 16)] [.int 1] (shp u) I7 J7))))))))) ∧ (¬ v5 = 0 → (f_X4_tellHead [.ref 31, .ref 16, .int 1] (shp u) I5 J5 (fun I8 J8 v8 => ((v8 = 0 ∨ v8 = 1) ∧ ((shp u) = (shp u) ∧ q I8 J8 v8))))))))) ∧ (¬ v4 = 0 → (f_X4_tellWind [.ref 31, .ref 16, .int (-1)] (shp u) I4 J4 (fun I9 J9 v9 => ((v9 = 0 ∨ v9 = 1) ∧ ((shp u) = (shp u) ∧ q I9 J9 v9))))))))) ∧ (¬ v3 = 0 → (f_X4_tellWind [.ref 31, .ref 16, .int 1] (shp u) I3 J3 (fun I10 J10 v10 => ((v10 = 0 ∨ v10 = 1) ∧ ((shp u) = (shp u) ∧ q I10 J10 v10))))))))) ∧ (¬ v2 = 0 → (f_X4_tellCobble [.ref 31, .ref 16, .int (-1)] (shp u) I2 J2 (fun I11 J11 v11 => ((v11 = 0 ∨ v11 = 1) ∧ ((shp u) = (shp u) ∧ q I11 J11 v11))))))))) ∧ (¬ v1 = 0 → (f_X4_tellCobble [.ref 31, .ref 16, .int 1] (shp u) I1 J1 (fun I12 J12 v12 => ((v12 = 0 ∨ v12 = 1) ∧ ((shp u) = (shp u) ∧ q I12 J12 v12)))))))) := rfl
set_option maxRecDepth 100000 in
set_option maxHeartbeats 8000000 in
theorem e_X4_tellItem (u : Nat)  (I : ZI) (J : ZJ) (q : YQi) : u_X4_tellItem [.ref 31, .ref 16] (shp u) I J q = (u_X4_isWord [.ref 31, .retAddr 2] (shp u) I J (fun I1 J1 v1 => ((v1 = 0 → (u_X4_isWord [.ref 31, .retAddr 3] (shp u) I1 J1 (fun I2 J2 v2 => ((v2 = 0 → (u_X4_isWord [.ref 31, .retAddr 4] (shp u) I2 J2 (fun I3 J3 v3 => ((v3 = 0 → (u_X4_isWord [.ref 31, .retAddr 5] (shp u) I3 J3 (fun I4 J4 v4 => ((v4 = 0 → (u_X4_isWord [.ref 31, .retAddr 6] (shp u) I4 J4 (fun I5 J5 v5 => ((v5 = 0 → (u_X4_isWord [.ref 31, .retAddr 7] (shp u) I5 J5 (fun I6 J6 v6 => ((v6 = 0 → b_X4_tellItem_102 u_X4_isWord u_X4_tellCobble u_X4_tellWind u_X4_tellHead (qi (shp u) q) [some (.ref 31), some (.ref 16)] [] (shp u) I6 J6) ∧ (¬ v6 = 0 → (u_X4_tellHead [.ref 31, .ref 16, .int (-1)] (shp u) I6 J6 (fun I7 J7 v7 => ((v7 = 0 → b_X4_tellItem_102 u_X4_isWord u_X4_tellCobble u_X4_tellWind u_X4_tellHead (qi (shp u) q) [some (.ref 31), some (.ref 16)] [] (shp u) I7 J7) ∧ (¬ v7 = 0 → b_X4_tellItem_103 u_X4_isWord u_X4_tellCobble u_X4_tellWind u_X4_tellHead (qi (shp u) q) [some (.ref 31), some (.ref 16)] [.int 1] (shp u) I7 J7))))))))) ∧ (¬ v5 = 0 → (u_X4_tellHead [.ref 31, .ref 16, .int 1] (shp u) I5 J5 (fun I8 J8 v8 => ((v8 = 0 ∨ v8 = 1) ∧ ((shp u) = (shp u) ∧ q I8 J8 v8))))))))) ∧ (¬ v4 = 0 → (u_X4_tellWind [.ref 31, .ref 16, .int (-1)] (shp u) I4 J4 (fun I9 J9 v9 => ((v9 = 0 ∨ v9 = 1) ∧ ((shp u) = (shp u) ∧ q I9 J9 v9))))))))) ∧ (¬ v3 = 0 → (u_X4_tellWind [.ref 31, .ref 16, .int 1] (shp u) I3 J3 (fun I10 J10 v10 => ((v10 = 0 ∨ v10 = 1) ∧ ((shp u) = (shp u) ∧ q I10 J10 v10))))))))) ∧ (¬ v2 = 0 → (u_X4_tellCobble [.ref 31, .ref 16, .int (-1)] (shp u) I2 J2 (fun I11 J11 v11 => ((v11 = 0 ∨ v11 = 1) ∧ ((shp u) = (shp u) ∧ q I11 J11 v11))))))))) ∧ (¬ v1 = 0 → (u_X4_tellCobble [.ref 31, .ref 16, .int 1] (shp u) I1 J1 (fun I12 J12 v12 => ((v12 = 0 ∨ v12 = 1) ∧ ((shp u) = (shp u) ∧ q I12 J12 v12)))))))) := g_X4_tellItem u u_X4_isWord u_X4_tellCobble u_X4_tellWind u_X4_tellHead  I J q
set_option maxRecDepth 100000 in
set_option maxHeartbeats 8000000 in
theorem g_X4_tellItem_102 (u : Nat) (f_X4_isWord : YTi) (f_X4_tellCobble : YTi) (f_X4_tellWind : YTi) (f_X4_tellHead : YTi)  (o0 : Option Value) (o1 : Option Value) (I : ZI) (J : ZJ) (q : YQi) : b_X4_tellItem_102 f_X4_isWord f_X4_tellCobble f_X4_tellWind f_X4_tellHead (qi (shp u) q) [o0, o1] [] (shp u) I J = (b_X4_tellItem_103 f_X4_isWord f_X4_tellCobble f_X4_tellWind f_X4_tellHead (qi (shp u) q) [none, none] [.int 0] (shp u) I J) := rfl
set_option maxRecDepth 100000 in
set_option maxHeartbeats 8000000 in
theorem g_X4_tellItem_103 (u : Nat) (f_X4_isWord : YTi) (f_X4_tellCobble : YTi) (f_X4_tellWind : YTi) (f_X4_tellHead : YTi)  (o0 : Option Value) (o1 : Option Value) (y0 : Int32) (I : ZI) (J : ZJ) (q : YQi) : b_X4_tellItem_103 f_X4_isWord f_X4_tellCobble f_X4_tellWind f_X4_tellHead (qi (shp u) q) [o0, o1] [.int y0] (shp u) I J = ((y0 = 0 ∨ y0 = 1) ∧ ((shp u) = (shp u) ∧ q I J y0)) := rfl
-- X4_tell (31, 16)
set_option maxRecDepth 100000 in
set_option maxHeartbeats 8000000 in
theorem g_X4_tell (u : Nat) (f_X4_nextToken : YTv) (f_X4_tellRoad : YTi) (f_X4_tellItem : YTi)  (I : ZI) (J : ZJ) (q : YQi) : b_X4_tell_0 f_X4_nextToken f_X4_tellRoad f_X4_tellItem (qi (shp u) q) [some (.ref 31), some (.ref 16), none, none] [] (shp u) I J = (b_X4_tell_7 f_X4_nextToken f_X4_tellRoad f_X4_tellItem (qi (shp u) q) [some (.ref 31), some (.ref 16), some (.int 0), none] [] (shp u) (zu I 31 4 0) J) := rfl
set_option maxRecDepth 100000 in
set_option maxHeartbeats 8000000 in
theorem e_X4_tell (u : Nat)  (I : ZI) (J : ZJ) (q : YQi) : u_X4_tell [.ref 31, .ref 16] (shp u) I J q = (b_X4_tell_7 u_X4_nextToken u_X4_tellRoad u_X4_tellItem (qi (shp u) q) [some (.ref 31), some (.ref 16), some (.int 0), none] [] (shp u) (zu I 31 4 0) J) := g_X4_tell u u_X4_nextToken u_X4_tellRoad u_X4_tellItem  I J q
set_option maxRecDepth 100000 in
set_option maxHeartbeats 8000000 in
theorem g_X4_tell_7 (u : Nat) (f_X4_nextToken : YTv) (f_X4_tellRoad : YTi) (f_X4_tellItem : YTi)  (r7 : ZK) (x2 : Int32) (o3 : Option Value) (I : ZI) (J : ZJ) (q : YQi) : bb_X4_tell_7 f_X4_nextToken f_X4_tellRoad f_X4_tellItem (qi (shp u) q) r7 [some (.ref 31), some (.ref 16), some (.int x2), o3] [] (shp u) I J = (((150 : Int32) ≤ x2 → ((shp u) = (shp u) ∧ q I J (-1))) ∧ (¬ (150 : Int32) ≤ x2 → (f_X4_nextToken [.ref 31] (shp u) I J (fun I1 J1 => ((¬ (I1 31 2) = 0 → b_X4_tell_31 f_X4_nextToken f_X4_tellRoad f_X4_tellItem (qi (shp u) q) r7 [some (.ref 31), some (.ref 16), some (.int x2), none] [] (shp u) I1 J1) ∧ ((I1 31 2) = 0 → ((x2 ≤ 0 → b_X4_tell_31 f_X4_nextToken f_X4_tellRoad f_X4_tellItem (qi (shp u) q) r7 [some (.ref 31), some (.ref 16), some (.int x2), none] [] (shp u) I1 J1) ∧ (¬ x2 ≤ 0 → ((shp u) = (shp u) ∧ q I1 J1 x2))))))))) := rfl
set_option maxRecDepth 100000 in
set_option maxHeartbeats 8000000 in
theorem g_X4_tell_31 (u : Nat) (f_X4_nextToken : YTv) (f_X4_tellRoad : YTi) (f_X4_tellItem : YTi) (r7 : ZK) (x2 : Int32) (o3 : Option Value) (I : ZI) (J : ZJ) (q : YQi) : b_X4_tell_31 f_X4_nextToken f_X4_tellRoad f_X4_tellItem (qi (shp u) q) r7 [some (.ref 31), some (.ref 16), some (.int x2), o3] [] (shp u) I J = ((¬ x2 = 0 → (f_X4_tellItem [.ref 31, .ref 16] (shp u) I J (fun I1 J1 v1 => b_X4_tell_48 f_X4_nextToken f_X4_tellRoad f_X4_tellItem (qi (shp u) q) r7 [some (.ref 31), some (.ref 16), some (.int x2), none] [.int v1] (shp u) I1 J1))) ∧ (x2 = 0 → (f_X4_tellRoad [.ref 31, .ref 16] (shp u) I J (fun I2 J2 v2 => b_X4_tell_48 f_X4_nextToken f_X4_tellRoad f_X4_tellItem (qi (shp u) q) r7 [some (.ref 31), some (.ref 16), some (.int x2), none] [.int v2] (shp u) I2 J2)))) := rfl
set_option maxRecDepth 100000 in
set_option maxHeartbeats 8000000 in
theorem g_X4_tell_48 (u : Nat) (f_X4_nextToken : YTv) (f_X4_tellRoad : YTi) (f_X4_tellItem : YTi) (r7 : ZK) (x2 : Int32) (o3 : Option Value) (y0 : Int32) (I : ZI) (J : ZJ) (q : YQi) : b_X4_tell_48 f_X4_nextToken f_X4_tellRoad f_X4_tellItem (qi (shp u) q) r7 [some (.ref 31), some (.ref 16), some (.int x2), o3] [.int y0] (shp u) I J = ((¬ y0 = 0 → r7 [some (.ref 31), some (.ref 16), some (.int (x2 + 1)), some (.int y0)] [] (shp u) I J) ∧ (y0 = 0 → ((shp u) = (shp u) ∧ q I J (-1)))) := rfl
-- X5_copyFrom (3, 17)
set_option maxRecDepth 100000 in
set_option maxHeartbeats 8000000 in
theorem g_X5_copyFrom (u : Nat)  (I : ZI) (J : ZJ) (q : YQv) : b_X5_copyFrom_0 (qv (shp u) q) [some (.ref 3), some (.ref 17)] [] (shp u) I J = ((¬ (0 : Int32) < 0 ∧ ¬ (0 : Int32) < 0 ∧ ¬ (16 : Int32) < 0 ∧ (0 : Int32).toNatClampNeg + (16 : Int32).toNatClampNeg ≤ 16 ∧ (0 : Int32).toNatClampNeg + (16 : Int32).toNatClampNeg ≤ 16) ∧ ((¬ (0 : Int32) < 0 ∧ ¬ (0 : Int32) < 0 ∧ ¬ (6 : Int32) < 0 ∧ (0 : Int32).toNatClampNeg + (6 : Int32).toNatClampNeg ≤ 6 ∧ (0 : Int32).toNatClampNeg + (6 : Int32).toNatClampNeg ≤ 6) ∧ ((shp u) = (shp u) ∧ q (zcp (zcp (zu (zu I 3 0 (I 17 0)) 3 1 (I 17 1)) 18 4 0 0 16) 19 5 0 0 6) J))) := rfl
set_option maxRecDepth 100000 in
set_option maxHeartbeats 8000000 in
theorem e_X5_copyFrom (u : Nat)  (I : ZI) (J : ZJ) (q : YQv) : u_X5_copyFrom [.ref 3, .ref 17] (shp u) I J q = ((¬ (0 : Int32) < 0 ∧ ¬ (0 : Int32) < 0 ∧ ¬ (16 : Int32) < 0 ∧ (0 : Int32).toNatClampNeg + (16 : Int32).toNatClampNeg ≤ 16 ∧ (0 : Int32).toNatClampNeg + (16 : Int32).toNatClampNeg ≤ 16) ∧ ((¬ (0 : Int32) < 0 ∧ ¬ (0 : Int32) < 0 ∧ ¬ (6 : Int32) < 0 ∧ (0 : Int32).toNatClampNeg + (6 : Int32).toNatClampNeg ≤ 6 ∧ (0 : Int32).toNatClampNeg + (6 : Int32).toNatClampNeg ≤ 6) ∧ ((shp u) = (shp u) ∧ q (zcp (zcp (zu (zu I 3 0 (I 17 0)) 3 1 (I 17 1)) 18 4 0 0 16) 19 5 0 0 6) J))) := g_X5_copyFrom u  I J q
-- X8_copyFrom (6, 20)
set_option maxRecDepth 100000 in
set_option maxHeartbeats 8000000 in
theorem g_X8_copyFrom (u : Nat)  (I : ZI) (J : ZJ) (q : YQv) : b_X8_copyFrom_0 (qv (shp u) q) [some (.ref 6), some (.ref 20)] [] (shp u) I J = ((¬ (0 : Int32) < 0 ∧ ¬ (0 : Int32) < 0 ∧ ¬ (8 : Int32) < 0 ∧ (0 : Int32).toNatClampNeg + (8 : Int32).toNatClampNeg ≤ 8 ∧ (0 : Int32).toNatClampNeg + (8 : Int32).toNatClampNeg ≤ 8) ∧ ((¬ (0 : Int32) < 0 ∧ ¬ (0 : Int32) < 0 ∧ ¬ (8 : Int32) < 0 ∧ (0 : Int32).toNatClampNeg + (8 : Int32).toNatClampNeg ≤ 8 ∧ (0 : Int32).toNatClampNeg + (8 : Int32).toNatClampNeg ≤ 8) ∧ ((¬ (0 : Int32) < 0 ∧ ¬ (0 : Int32) < 0 ∧ ¬ (8 : Int32) < 0 ∧ (0 : Int32).toNatClampNeg + (8 : Int32).toNatClampNeg ≤ 8 ∧ (0 : Int32).toNatClampNeg + (8 : Int32).toNatClampNeg ≤ 8) ∧ ((shp u) = (shp u) ∧ q (zcp (zcp (zcp (zu (zu (zu (zu (zu I 6 0 (I 20 0)) 6 1 (I 20 1)) 6 2 (I 20 2)) 6 3 (I 20 3)) 6 4 (I 20 4)) 21 7 0 0 8) 22 8 0 0 8) 23 9 0 0 8) J)))) := rfl
set_option maxRecDepth 100000 in
set_option maxHeartbeats 8000000 in
theorem e_X8_copyFrom (u : Nat)  (I : ZI) (J : ZJ) (q : YQv) : u_X8_copyFrom [.ref 6, .ref 20] (shp u) I J q = ((¬ (0 : Int32) < 0 ∧ ¬ (0 : Int32) < 0 ∧ ¬ (8 : Int32) < 0 ∧ (0 : Int32).toNatClampNeg + (8 : Int32).toNatClampNeg ≤ 8 ∧ (0 : Int32).toNatClampNeg + (8 : Int32).toNatClampNeg ≤ 8) ∧ ((¬ (0 : Int32) < 0 ∧ ¬ (0 : Int32) < 0 ∧ ¬ (8 : Int32) < 0 ∧ (0 : Int32).toNatClampNeg + (8 : Int32).toNatClampNeg ≤ 8 ∧ (0 : Int32).toNatClampNeg + (8 : Int32).toNatClampNeg ≤ 8) ∧ ((¬ (0 : Int32) < 0 ∧ ¬ (0 : Int32) < 0 ∧ ¬ (8 : Int32) < 0 ∧ (0 : Int32).toNatClampNeg + (8 : Int32).toNatClampNeg ≤ 8 ∧ (0 : Int32).toNatClampNeg + (8 : Int32).toNatClampNeg ≤ 8) ∧ ((shp u) = (shp u) ∧ q (zcp (zcp (zcp (zu (zu (zu (zu (zu I 6 0 (I 20 0)) 6 1 (I 20 1)) 6 2 (I 20 2)) 6 3 (I 20 3)) 6 4 (I 20 4)) 21 7 0 0 8) 22 8 0 0 8) 23 9 0 0 8) J)))) := g_X8_copyFrom u  I J q
-- X10_copyFrom (2, 16)
set_option maxRecDepth 100000 in
set_option maxHeartbeats 8000000 in
theorem g_X10_copyFrom_a (u : Nat) (f_X5_copyFrom : YTv) (f_X8_copyFrom : YTv)  (I : ZI) (J : ZJ) (q : YQv) : b_X10_copyFrom_0 f_X5_copyFrom f_X8_copyFrom (qv (shp u) q) [some (.ref 2), some (.ref 16)] [] (shp u) I J = (f_X5_copyFrom [.ref 3, .ref 17] (shp u) I J (fun I1 J1 => (f_X8_copyFrom [.ref 6, .ref 20] (shp u) I1 J1 (fun I2 J2 => ((¬ (0 : Int32) < 0 ∧ ¬ (0 : Int32) < 0 ∧ ¬ (5 : Int32) < 0 ∧ (0 : Int32).toNatClampNeg + (5 : Int32).toNatClampNeg ≤ 5 ∧ (0 : Int32).toNatClampNeg + (5 : Int32).toNatClampNeg ≤ 5) ∧ ((¬ (0 : Int32) < 0 ∧ ¬ (0 : Int32) < 0 ∧ ¬ (5 : Int32) < 0 ∧ (0 : Int32).toNatClampNeg + (5 : Int32).toNatClampNeg ≤ 5 ∧ (0 : Int32).toNatClampNeg + (5 : Int32).toNatClampNeg ≤ 5) ∧ ((¬ (0 : Int32) < 0 ∧ ¬ (0 : Int32) < 0 ∧ ¬ (6 : Int32) < 0 ∧ (0 : Int32).toNatClampNeg + (6 : Int32).toNatClampNeg ≤ 6 ∧ (0 : Int32).toNatClampNeg + (6 : Int32).toNatClampNeg ≤ 6) ∧ ((¬ (0 : Int32) < 0 ∧ ¬ (0 : Int32) < 0 ∧ ¬ (6 : Int32) < 0 ∧ (0 : Int32).toNatClampNeg + (6 : Int32).toNatClampNeg ≤ 6 ∧ (0 : Int32).toNatClampNeg + (6 : Int32).toNatClampNeg ≤ 6) ∧ ((¬ (0 : Int32) < 0 ∧ ¬ (0 : Int32) < 0 ∧ ¬ (6 : Int32) < 0 ∧ (0 : Int32).toNatClampNeg + (6 : Int32).toNatClampNeg ≤ 6 ∧ (0 : Int32).toNatClampNeg + (6 : Int32).toNatClampNeg ≤ 6) ∧ ((¬ (0 : Int32) < 0 ∧ ¬ (0 : Int32) < 0 ∧ ¬ (6 : Int32) < 0 ∧ (0 : Int32).toNatClampNeg + (6 : Int32).toNatClampNeg ≤ 6 ∧ (0 : Int32).toNatClampNeg + (6 : Int32).toNatClampNeg ≤ 6) ∧ ((shp u) = (shp u) ∧ q (zcp (zcp (zcp (zcp (zu (zcp (zcp (zu I2 2 2 (I2 16 2)) 24 10 0 0 5) 25 11 0 0 5) 2 5 (I2 16 5)) 26 12 0 0 6) 27 13 0 0 6) 28 14 0 0 6) 29 15 0 0 6) J2))))))))))) := rfl
set_option maxRecDepth 100000 in
set_option maxHeartbeats 8000000 in
theorem e_X10_copyFrom_a (u : Nat)  (I : ZI) (J : ZJ) (q : YQv) : u_X10_copyFrom [.ref 2, .ref 16] (shp u) I J q = (u_X5_copyFrom [.ref 3, .ref 17] (shp u) I J (fun I1 J1 => (u_X8_copyFrom [.ref 6, .ref 20] (shp u) I1 J1 (fun I2 J2 => ((¬ (0 : Int32) < 0 ∧ ¬ (0 : Int32) < 0 ∧ ¬ (5 : Int32) < 0 ∧ (0 : Int32).toNatClampNeg + (5 : Int32).toNatClampNeg ≤ 5 ∧ (0 : Int32).toNatClampNeg + (5 : Int32).toNatClampNeg ≤ 5) ∧ ((¬ (0 : Int32) < 0 ∧ ¬ (0 : Int32) < 0 ∧ ¬ (5 : Int32) < 0 ∧ (0 : Int32).toNatClampNeg + (5 : Int32).toNatClampNeg ≤ 5 ∧ (0 : Int32).toNatClampNeg + (5 : Int32).toNatClampNeg ≤ 5) ∧ ((¬ (0 : Int32) < 0 ∧ ¬ (0 : Int32) < 0 ∧ ¬ (6 : Int32) < 0 ∧ (0 : Int32).toNatClampNeg + (6 : Int32).toNatClampNeg ≤ 6 ∧ (0 : Int32).toNatClampNeg + (6 : Int32).toNatClampNeg ≤ 6) ∧ ((¬ (0 : Int32) < 0 ∧ ¬ (0 : Int32) < 0 ∧ ¬ (6 : Int32) < 0 ∧ (0 : Int32).toNatClampNeg + (6 : Int32).toNatClampNeg ≤ 6 ∧ (0 : Int32).toNatClampNeg + (6 : Int32).toNatClampNeg ≤ 6) ∧ ((¬ (0 : Int32) < 0 ∧ ¬ (0 : Int32) < 0 ∧ ¬ (6 : Int32) < 0 ∧ (0 : Int32).toNatClampNeg + (6 : Int32).toNatClampNeg ≤ 6 ∧ (0 : Int32).toNatClampNeg + (6 : Int32).toNatClampNeg ≤ 6) ∧ ((¬ (0 : Int32) < 0 ∧ ¬ (0 : Int32) < 0 ∧ ¬ (6 : Int32) < 0 ∧ (0 : Int32).toNatClampNeg + (6 : Int32).toNatClampNeg ≤ 6 ∧ (0 : Int32).toNatClampNeg + (6 : Int32).toNatClampNeg ≤ 6) ∧ ((shp u) = (shp u) ∧ q (zcp (zcp (zcp (zcp (zu (zcp (zcp (zu I2 2 2 (I2 16 2)) 24 10 0 0 5) 25 11 0 0 5) 2 5 (I2 16 5)) 26 12 0 0 6) 27 13 0 0 6) 28 14 0 0 6) 29 15 0 0 6) J2))))))))))) := g_X10_copyFrom_a u u_X5_copyFrom u_X8_copyFrom  I J q
