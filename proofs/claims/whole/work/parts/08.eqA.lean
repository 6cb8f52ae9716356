-- X12_read (48,)
set_option maxRecDepth 100000 in
set_option maxHeartbeats 8000000 in
theorem g_X12_read (u : Nat) (f_X12_lookAt : YTv) (f_X12_takesRoad : YTi) (f_X12_goBehind : YTv) (f_X12_takesItem : YTi)  (I : ZI) (J : ZJ) (q : YQi) : b_X12_read_0 f_X12_lookAt f_X12_takesRoad f_X12_goBehind f_X12_takesItem (qi (shp u) q) [some (.ref 48), none, none] [] (shp u) I J = (f_X12_lookAt [.ref 48, .int 0] (shp u) I J (fun I1 J1 => (f_X12_takesRoad [.ref 48] (shp u) I1 J1 (fun I2 J2 v2 => ((¬ v2 = 0 → (f_X12_goBehind [.ref 48] (shp u) I2 J2 (fun I3 J3 => b_X12_read_26 f_X12_lookAt f_X12_takesRoad f_X12_goBehind f_X12_takesItem (qi (shp u) q) [some (.ref 48), some (.int 1), none] [] (shp u) I3 J3))) ∧ (v2 = 0 → ((shp u) = (shp u) ∧ q I2 J2 ((-10 : Int32) - (I2 48 16))))))))) := rfl
set_option maxRecDepth 100000 in
set_option maxHeartbeats 8000000 in
theorem e_X12_read (u : Nat)  (I : ZI) (J : ZJ) (q : YQi) : u_X12_read [.ref 48] (shp u) I J q = (u_X12_lookAt [.ref 48, .int 0] (shp u) I J (fun I1 J1 => (u_X12_takesRoad [.ref 48] (shp u) I1 J1 (fun I2 J2 v2 => ((¬ v2 = 0 → (u_X12_goBehind [.ref 48] (shp u) I2 J2 (fun I3 J3 => b_X12_read_26 u_X12_lookAt u_X12_takesRoad u_X12_goBehind u_X12_takesItem (qi (shp u) q) [some (.ref 48), some (.int 1), none] [] (shp u) I3 J3))) ∧ (v2 = 0 → ((shp u) = (shp u) ∧ q I2 J2 ((-10 : Int32) - (I2 48 16))))))))) := g_X12_read u u_X12_lookAt u_X12_takesRoad u_X12_goBehind u_X12_takesItem  I J q
set_option maxRecDepth 100000 in
set_option maxHeartbeats 8000000 in
theorem g_X12_read_26 (u : Nat) (f_X12_lookAt : YTv) (f_X12_takesRoad : YTi) (f_X12_goBehind : YTv) (f_X12_takesItem : YTi)  (r26 : ZK) (x1 : Int32) (o2 : Option Value) (I : ZI) (J : ZJ) (q : YQi) : bb_X12_read_26 f_X12_lookAt f_X12_takesRoad f_X12_goBehind f_X12_takesItem (qi (shp u) q) r26 [some (.ref 48), some (.int x1), o2] [] (shp u) I J = (((I 48 18) = 0 → b_X12_read_68 f_X12_lookAt f_X12_takesRoad f_X12_goBehind f_X12_takesItem (qi (shp u) q) [some (.ref 48), some (.int x1), some (.int 0)] [] (shp u) I J) ∧ (¬ (I 48 18) = 0 → (f_X12_takesItem [.ref 48] (shp u) I J (fun I1 J1 v1 => ((v1 = 0 → b_X12_read_48 f_X12_lookAt f_X12_takesRoad f_X12_goBehind f_X12_takesItem (qi (shp u) q) [some (.ref 48), some (.int x1), none] [] (shp u) I1 J1) ∧ (¬ v1 = 0 → (((I1 48 18) = (3 : Int32) → (f_X12_goBehind [.ref 48] (shp u) I1 J1 (fun I2 J2 => r26 [some (.ref 48), some (.int (x1 + 1)), none] [] (shp u) I2 J2))) ∧ (¬ (I1 48 18) = (3 : Int32) → b_X12_read_48 f_X12_lookAt f_X12_takesRoad f_X12_goBehind f_X12_takesItem (qi (shp u) q) [some (.ref 48), some (.int x1), none] [] (shp u) I1 J1)))))))) := rfl
set_option maxRecDepth 100000 in
set_option maxHeartbeats 8000000 in
theorem g_X12_read_48 (u : Nat) (f_X12_lookAt : YTv) (f_X12_takesRoad : YTi) (f_X12_goBehind : YTv) (f_X12_takesItem : YTi)  (o1 : Option Value) (o2 : Option Value) (I : ZI) (J : ZJ) (q : YQi) : b_X12_read_48 f_X12_lookAt f_X12_takesRoad f_X12_goBehind f_X12_takesItem (qi (shp u) q) [some (.ref 48), o1, o2] [] (shp u) I J = ((shp u) = (shp u) ∧ q I J ((-10 : Int32) - (I 48 16))) := rfl
set_option maxRecDepth 100000 in
set_option maxHeartbeats 8000000 in
theorem g_X12_read_68 (u : Nat) (f_X12_lookAt : YTv) (f_X12_takesRoad : YTi) (f_X12_goBehind : YTv) (f_X12_takesItem : YTi)  (r68 : ZK) (x1 : Int32) (x2 : Int32) (I : ZI) (J : ZJ) (q : YQi) : bb_X12_read_68 f_X12_lookAt f_X12_takesRoad f_X12_goBehind f_X12_takesItem (qi (shp u) q) r68 [some (.ref 48), some (.int x1), some (.int x2)] [] (shp u) I J = (((66 : Int32) ≤ x2 → ((shp u) = (shp u) ∧ q I J x1)) ∧ (¬ (66 : Int32) ≤ x2 → (vp_in x2 66 ∧ (vp_in x2 98 ∧ r68 [some (.ref 48), some (.int x1), some (.int (x2 + 1))] [] (shp u) (zu I 49 (x2).toNatClampNeg (I 59 (x2).toNatClampNeg)) J)))) := rfl
-- X12_part (48, 'i')
set_option maxRecDepth 100000 in
set_option maxHeartbeats 8000000 in
theorem g_X12_part (u : Nat) (f_X12_bad : YTi) (x1 : Int32) (I : ZI) (J : ZJ) (q : YQl) : b_X12_part_0 f_X12_bad (ql (shp u) q) [some (.ref 48), some (.int x1)] [] (shp u) I J = ((¬ x1 = 0 → ((¬ x1 = (1 : Int32) → (f_X12_bad [.ref 48, .int (-2)] (shp u) I J (fun I1 J1 v1 => b_X12_part_30 f_X12_bad (ql (shp u) q) [some (.ref 48), some (.int x1)] [.long (v1).toInt64] (shp u) I1 J1))) ∧ (x1 = (1 : Int32) → b_X12_part_30 f_X12_bad (ql (shp u) q) [some (.ref 48), some (.int x1)] [.long (J 48 5)] (shp u) I J))) ∧ (x1 = 0 → b_X12_part_30 f_X12_bad (ql (shp u) q) [some (.ref 48), some (.int x1)] [.long (J 48 4)] (shp u) I J)) := rfl
set_option maxRecDepth 100000 in
set_option maxHeartbeats 8000000 in
theorem e_X12_part (u : Nat) (x1 : Int32) (I : ZI) (J : ZJ) (q : YQl) : u_X12_part [.ref 48, .int x1] (shp u) I J q = ((¬ x1 = 0 → ((¬ x1 = (1 : Int32) → (u_X12_bad [.ref 48, .int (-2)] (shp u) I J (fun I1 J1 v1 => b_X12_part_30 u_X12_bad (ql (shp u) q) [some (.ref 48), some (.int x1)] [.long (v1).toInt64] (shp u) I1 J1))) ∧ (x1 = (1 : Int32) → b_X12_part_30 u_X12_bad (ql (shp u) q) [some (.ref 48), some (.int x1)] [.long (J 48 5)] (shp u) I J))) ∧ (x1 = 0 → b_X12_part_30 u_X12_bad (ql (shp u) q) [some (.ref 48), some (.int x1)] [.long (J 48 4)] (shp u) I J)) := g_X12_part u u_X12_bad x1 I J q
set_option maxRecDepth 100000 in
set_option maxHeartbeats 8000000 in
theorem g_X12_part_30 (u : Nat) (f_X12_bad : YTi)  (o0 : Option Value) (o1 : Option Value) (z0 : Int64) (I : ZI) (J : ZJ) (q : YQl) : b_X12_part_30 f_X12_bad (ql (shp u) q) [o0, o1] [.long z0] (shp u) I J = ((shp u) = (shp u) ∧ q I J z0) := rfl
-- X12_image (48, 'i')
set_option maxRecDepth 100000 in
set_option maxHeartbeats 8000000 in
theorem g_X12_image (u : Nat) (f_X12_in : YTi) (f_X12_bad : YTi) (x1 : Int32) (I : ZI) (J : ZJ) (q : YQi) : b_X12_image_0 f_X12_in f_X12_bad (qi (shp u) q) [some (.ref 48), some (.int x1), none] [] (shp u) I J = (f_X12_in [.long (x1).toInt64, .long 0, .long 1] (shp u) I J (fun I1 J1 v1 => ((¬ v1 = 0 → b_X12_image_19 f_X12_in f_X12_bad (qi (shp u) q) [some (.ref 48), some (.int x1), some (.int 0)] [] (shp u) I1 J1) ∧ (v1 = 0 → (f_X12_bad [.ref 48, .int (-2)] (shp u) I1 J1 (fun I2 J2 v2 => ((shp u) = (shp u) ∧ q I2 J2 v2))))))) := rfl
set_option maxRecDepth 100000 in
set_option maxHeartbeats 8000000 in
theorem e_X12_image (u : Nat) (x1 : Int32) (I : ZI) (J : ZJ) (q : YQi) : u_X12_image [.ref 48, .int x1] (shp u) I J q = (u_X12_in [.long (x1).toInt64, .long 0, .long 1] (shp u) I J (fun I1 J1 v1 => ((¬ v1 = 0 → b_X12_image_19 u_X12_in u_X12_bad (qi (shp u) q) [some (.ref 48), some (.int x1), some (.int 0)] [] (shp u) I1 J1) ∧ (v1 = 0 → (u_X12_bad [.ref 48, .int (-2)] (shp u) I1 J1 (fun I2 J2 v2 => ((shp u) = (shp u) ∧ q I2 J2 v2))))))) := g_X12_image u u_X12_in u_X12_bad x1 I J q
set_option maxRecDepth 100000 in
set_option maxHeartbeats 8000000 in
theorem g_X12_image_19 (u : Nat) (f_X12_in : YTi) (f_X12_bad : YTi)  (r19 : ZK) (x1 : Int32) (x2 : Int32) (I : ZI) (J : ZJ) (q : YQi) : bb_X12_image_19 f_X12_in f_X12_bad (qi (shp u) q) r19 [some (.ref 48), some (.int x1), some (.int x2)] [] (shp u) I J = (((98 : Int32) ≤ x2 → ((vp_in x1 2 ∧ vp_nar .boolean 1 = 1) ∧ ((shp u) = (shp u) ∧ q (zu I 51 (x1).toNatClampNeg 1) J 1))) ∧ (¬ (98 : Int32) ≤ x2 → (vp_in x2 98 ∧ (vp_in (((98 : Int32) * x1) + x2) 196 ∧ r19 [some (.ref 48), some (.int x1), some (.int (x2 + 1))] [] (shp u) (zu I 50 ((((98 : Int32) * x1) + x2)).toNatClampNeg (I 49 (x2).toNatClampNeg)) J)))) := rfl
-- X12_from (48, 'i')
set_option maxRecDepth 100000 in
set_option maxHeartbeats 8000000 in
theorem g_X12_from (u : Nat) (f_X12_in : YTi) (f_X12_bad : YTi) (f_X12_no : YTi) (x1 : Int32) (I : ZI) (J : ZJ) (q : YQi) : b_X12_from_0 f_X12_in f_X12_bad f_X12_no (qi (shp u) q) [some (.ref 48), some (.int x1), none] [] (shp u) I J = (f_X12_in [.long (x1).toInt64, .long 0, .long 1] (shp u) I J (fun I1 J1 v1 => ((¬ v1 = 0 → (vp_in x1 2 ∧ ((¬ (I1 51 (x1).toNatClampNeg) = 0 → b_X12_from_35 f_X12_in f_X12_bad f_X12_no (qi (shp u) q) [some (.ref 48), some (.int x1), some (.int 0)] [] (shp u) I1 J1) ∧ ((I1 51 (x1).toNatClampNeg) = 0 → (f_X12_no [.ref 48, .int (-3)] (shp u) I1 J1 (fun I2 J2 v2 => ((shp u) = (shp u) ∧ q I2 J2 v2))))))) ∧ (v1 = 0 → (f_X12_bad [.ref 48, .int (-2)] (shp u) I1 J1 (fun I3 J3 v3 => ((shp u) = (shp u) ∧ q I3 J3 v3))))))) := rfl
set_option maxRecDepth 100000 in
set_option maxHeartbeats 8000000 in
theorem e_X12_from (u : Nat) (x1 : Int32) (I : ZI) (J : ZJ) (q : YQi) : u_X12_from [.ref 48, .int x1] (shp u) I J q = (u_X12_in [.long (x1).toInt64, .long 0, .long 1] (shp u) I J (fun I1 J1 v1 => ((¬ v1 = 0 → (vp_in x1 2 ∧ ((¬ (I1 51 (x1).toNatClampNeg) = 0 → b_X12_from_35 u_X12_in u_X12_bad u_X12_no (qi (shp u) q) [some (.ref 48), some (.int x1), some (.int 0)] [] (shp u) I1 J1) ∧ ((I1 51 (x1).toNatClampNeg) = 0 → (u_X12_no [.ref 48, .int (-3)] (shp u) I1 J1 (fun I2 J2 v2 => ((shp u) = (shp u) ∧ q I2 J2 v2))))))) ∧ (v1 = 0 → (u_X12_bad [.ref 48, .int (-2)] (shp u) I1 J1 (fun I3 J3 v3 => ((shp u) = (shp u) ∧ q I3 J3 v3))))))) := g_X12_from u u_X12_in u_X12_bad u_X12_no x1 I J q
set_option maxRecDepth 100000 in
set_option maxHeartbeats 8000000 in
theorem g_X12_from_35 (u : Nat) (f_X12_in : YTi) (f_X12_bad : YTi) (f_X12_no : YTi)  (r35 : ZK) (x1 : Int32) (x2 : Int32) (I : ZI) (J : ZJ) (q : YQi) : bb_X12_from_35 f_X12_in f_X12_bad f_X12_no (qi (shp u) q) r35 [some (.ref 48), some (.int x1), some (.int x2)] [] (shp u) I J = (((98 : Int32) ≤ x2 → ((shp u) = (shp u) ∧ q I J 1)) ∧ (¬ (98 : Int32) ≤ x2 → (vp_in (((98 : Int32) * x1) + x2) 196 ∧ (vp_in x2 98 ∧ r35 [some (.ref 48), some (.int x1), some (.int (x2 + 1))] [] (shp u) (zu I 49 (x2).toNatClampNeg (I 50 ((((98 : Int32) * x1) + x2)).toNatClampNeg)) J)))) := rfl
-- X12_status (48, 'i')
set_option maxRecDepth 100000 in
set_option maxHeartbeats 8000000 in
theorem g_X12_status (u : Nat) (f_X12_in : YTi) (f_X12_bad : YTi) (x1 : Int32) (I : ZI) (J : ZJ) (q : YQi) : b_X12_status_0 f_X12_in f_X12_bad (qi (shp u) q) [some (.ref 48), some (.int x1)] [] (shp u) I J = (f_X12_in [.long (x1).toInt64, .long 0, .long 2] (shp u) I J (fun I1 J1 v1 => ((v1 = 0 → (f_X12_bad [.ref 48, .int (-1)] (shp u) I1 J1 (fun I2 J2 v2 => b_X12_status_26 f_X12_in f_X12_bad (qi (shp u) q) [some (.ref 48), some (.int x1)] [.int v2] (shp u) I2 J2))) ∧ (¬ v1 = 0 → (vp_in x1 3 ∧ b_X12_status_26 f_X12_in f_X12_bad (qi (shp u) q) [some (.ref 48), some (.int x1)] [.int (I1 52 (x1).toNatClampNeg)] (shp u) I1 J1))))) := rfl
set_option maxRecDepth 100000 in
set_option maxHeartbeats 8000000 in
theorem e_X12_status (u : Nat) (x1 : Int32) (I : ZI) (J : ZJ) (q : YQi) : u_X12_status [.ref 48, .int x1] (shp u) I J q = (u_X12_in [.long (x1).toInt64, .long 0, .long 2] (shp u) I J (fun I1 J1 v1 => ((v1 = 0 → (u_X12_bad [.ref 48, .int (-1)] (shp u) I1 J1 (fun I2 J2 v2 => b_X12_status_26 u_X12_in u_X12_bad (qi (shp u) q) [some (.ref 48), some (.int x1)] [.int v2] (shp u) I2 J2))) ∧ (¬ v1 = 0 → (vp_in x1 3 ∧ b_X12_status_26 u_X12_in u_X12_bad (qi (shp u) q) [some (.ref 48), some (.int x1)] [.int (I1 52 (x1).toNatClampNeg)] (shp u) I1 J1))))) := g_X12_status u u_X12_in u_X12_bad x1 I J q
set_option maxRecDepth 100000 in
set_option maxHeartbeats 8000000 in
theorem g_X12_status_26 (u : Nat) (f_X12_in : YTi) (f_X12_bad : YTi)  (o0 : Option Value) (o1 : Option Value) (y0 : Int32) (I : ZI) (J : ZJ) (q : YQi) : b_X12_status_26 f_X12_in f_X12_bad (qi (shp u) q) [o0, o1] [.int y0] (shp u) I J = ((shp u) = (shp u) ∧ q I J y0) := rfl
-- X12_counted (48, 'i')
set_option maxRecDepth 100000 in
set_option maxHeartbeats 8000000 in
theorem g_X12_counted (u : Nat) (x1 : Int32) (I : ZI) (J : ZJ) (q : YQi) : b_X12_counted_0 (qi (shp u) q) [some (.ref 48), some (.int x1)] [] (shp u) I J = ((x1 = 0 → ((shp u) = (shp u) ∧ q I J (I 49 2))) ∧ (¬ x1 = 0 → ((x1 = 1 → ((shp u) = (shp u) ∧ q I J (I 49 0))) ∧ (¬ x1 = 1 → ((x1 = 2 → ((shp u) = (shp u) ∧ q I J (I 49 1))) ∧ (¬ x1 = 2 → ((x1 = 3 → ((shp u) = (shp u) ∧ q I J (I 49 3))) ∧ (¬ x1 = 3 → ((x1 = 4 → ((shp u) = (shp u) ∧ q I J (I 49 4))) ∧ (¬ x1 = 4 → ((shp u) = (shp u) ∧ q I J (I 48 15)))))))))))) := rfl
set_option maxRecDepth 100000 in
set_option maxHeartbeats 8000000 in
theorem e_X12_counted (u : Nat) (x1 : Int32) (I : ZI) (J : ZJ) (q : YQi) : u_X12_counted [.ref 48, .int x1] (shp u) I J q = ((x1 = 0 → ((shp u) = (shp u) ∧ q I J (I 49 2))) ∧ (¬ x1 = 0 → ((x1 = 1 → ((shp u) = (shp u) ∧ q I J (I 49 0))) ∧ (¬ x1 = 1 → ((x1 = 2 → ((shp u) = (shp u) ∧ q I J (I 49 1))) ∧ (¬ x1 = 2 → ((x1 = 3 → ((shp u) = (shp u) ∧ q I J (I 49 3))) ∧ (¬ x1 = 3 → ((x1 = 4 → ((shp u) = (shp u) ∧ q I J (I 49 4))) ∧ (¬ x1 = 4 → ((shp u) = (shp u) ∧ q I J (I 48 15)))))))))))) := g_X12_counted u x1 I J q
-- X12_count (48, 'i')
set_option maxRecDepth 100000 in
set_option maxHeartbeats 8000000 in
theorem g_X12_count (u : Nat) (f_X12_in : YTi) (f_X12_counted : YTi) (f_X12_bad : YTi) (x1 : Int32) (I : ZI) (J : ZJ) (q : YQi) : b_X12_count_0 f_X12_in f_X12_counted f_X12_bad (qi (shp u) q) [some (.ref 48), some (.int x1)] [] (shp u) I J = (f_X12_in [.long (x1).toInt64, .long 0, .long 5] (shp u) I J (fun I1 J1 v1 => ((v1 = 0 → (f_X12_bad [.ref 48, .int (-2)] (shp u) I1 J1 (fun I2 J2 v2 => b_X12_count_26 f_X12_in f_X12_counted f_X12_bad (qi (shp u) q) [some (.ref 48), some (.int x1)] [.int v2] (shp u) I2 J2))) ∧ (¬ v1 = 0 → (f_X12_counted [.ref 48, .int x1] (shp u) I1 J1 (fun I3 J3 v3 => b_X12_count_26 f_X12_in f_X12_counted f_X12_bad (qi (shp u) q) [some (.ref 48), some (.int x1)] [.int v3] (shp u) I3 J3)))))) := rfl
set_option maxRecDepth 100000 in
set_option maxHeartbeats 8000000 in
theorem e_X12_count (u : Nat) (x1 : Int32) (I : ZI) (J : ZJ) (q : YQi) : u_X12_count [.ref 48, .int x1] (shp u) I J q = (u_X12_in [.long (x1).toInt64, .long 0, .long 5] (shp u) I J (fun I1 J1 v1 => ((v1 = 0 → (u_X12_bad [.ref 48, .int (-2)] (shp u) I1 J1 (fun I2 J2 v2 => b_X12_count_26 u_X12_in u_X12_counted u_X12_bad (qi (shp u) q) [some (.ref 48), some (.int x1)] [.int v2] (shp u) I2 J2))) ∧ (¬ v1 = 0 → (u_X12_counted [.ref 48, .int x1] (shp u) I1 J1 (fun I3 J3 v3 => b_X12_count_26 u_X12_in u_X12_counted u_X12_bad (qi (shp u) q) [some (.ref 48), some (.int x1)] [.int v3] (shp u) I3 J3)))))) := g_X12_count u u_X12_in u_X12_counted u_X12_bad x1 I J q
set_option maxRecDepth 100000 in
set_option maxHeartbeats 8000000 in
theorem g_X12_count_26 (u : Nat) (f_X12_in : YTi) (f_X12_counted : YTi) (f_X12_bad : YTi)  (o0 : Option Value) (o1 : Option Value) (y0 : Int32) (I : ZI) (J : ZJ) (q : YQi) : b_X12_count_26 f_X12_in f_X12_counted f_X12_bad (qi (shp u) q) [o0, o1] [.int y0] (shp u) I J = ((shp u) = (shp u) ∧ q I J y0) := rfl
-- X12_sums (48, 'l', 'i', 'i')
set_option maxRecDepth 100000 in
set_option maxHeartbeats 8000000 in
theorem g_X12_sums (u : Nat) (w1 : Int64) (x3 : Int32) (x4 : Int32) (I : ZI) (J : ZJ) (q : YQl) : b_X12_sums_0 (ql (shp u) q) [some (.ref 48), some (.long w1), none, some (.int x3), some (.int x4), none, none, none] [] (shp u) I J = (b_X12_sums_6 (ql (shp u) q) [some (.ref 48), some (.long w1), none, some (.int x3), some (.int x4), some (.long w1), none, some (.int 0)] [] (shp u) I J) := rfl
set_option maxRecDepth 100000 in
set_option maxHeartbeats 8000000 in
theorem e_X12_sums (u : Nat) (w1 : Int64) (x3 : Int32) (x4 : Int32) (I : ZI) (J : ZJ) (q : YQl) : u_X12_sums [.ref 48, .long w1, .int x3, .int x4] (shp u) I J q = (b_X12_sums_6 (ql (shp u) q) [some (.ref 48), some (.long w1), none, some (.int x3), some (.int x4), some (.long w1), none, some (.int 0)] [] (shp u) I J) := g_X12_sums u w1 x3 x4 I J q
set_option maxRecDepth 100000 in
set_option maxHeartbeats 8000000 in
theorem g_X12_sums_6 (u : Nat)  (r6 : ZK) (o1 : Option Value) (o2 : Option Value) (x3 : Int32) (x4 : Int32) (w5 : Int64) (o6 : Option Value) (x7 : Int32) (I : ZI) (J : ZJ) (q : YQl) : bb_X12_sums_6 (ql (shp u) q) r6 [some (.ref 48), o1, o2, some (.int x3), some (.int x4), some (.long w5), o6, some (.int x7)] [] (shp u) I J = ((x4 ≤ x7 → ((shp u) = (shp u) ∧ q I J w5)) ∧ (¬ x4 ≤ x7 → (vp_in (x3 + x7) 98 ∧ r6 [some (.ref 48), none, none, some (.int x3), some (.int x4), some (.long (((31 : Int64) * w5) + ((I 49 ((x3 + x7)).toNatClampNeg)).toInt64)), none, some (.int (x7 + 1))] [] (shp u) I J))) := rfl
-- X12_digest (48,)
set_option maxRecDepth 100000 in
set_option maxHeartbeats 8000000 in
theorem g_X12_digest (u : Nat) (f_X12_counted : YTi) (f_X12_fountain : YTi) (f_X12_sums : YTl)  (I : ZI) (J : ZJ) (q : YQl) : b_X12_digest_0 f_X12_counted f_X12_fountain f_X12_sums (ql (shp u) q) [some (.ref 48), none, none, none] [] (shp u) I J = (b_X12_digest_6 f_X12_counted f_X12_fountain f_X12_sums (ql (shp u) q) [some (.ref 48), some (.long 1087), none, some (.int 0)] [] (shp u) I J) := rfl
set_option maxRecDepth 100000 in
set_option maxHeartbeats 8000000 in
theorem e_X12_digest (u : Nat)  (I : ZI) (J : ZJ) (q : YQl) : u_X12_digest [.ref 48] (shp u) I J q = (b_X12_digest_6 u_X12_counted u_X12_fountain u_X12_sums (ql (shp u) q) [some (.ref 48), some (.long 1087), none, some (.int 0)] [] (shp u) I J) := g_X12_digest u u_X12_counted u_X12_fountain u_X12_sums  I J q
set_option maxRecDepth 100000 in
set_option maxHeartbeats 8000000 in
theorem g_X12_digest_6 (u : Nat) (f_X12_counted : YTi) (f_X12_fountain : YTi) (f_X12_sums : YTl)  (r6 : ZK) (w1 : Int64) (o2 : Option Value) (x3 : Int32) (I : ZI) (J : ZJ) (q : YQl) : bb_X12_digest_6 f_X12_counted f_X12_fountain f_X12_sums (ql (shp u) q) r6 [some (.ref 48), some (.long w1), o2, some (.int x3)] [] (shp u) I J = (((6 : Int32) ≤ x3 → (f_X12_fountain [.ref 48] (shp u) I J (fun I1 J1 v1 => (f_X12_sums [.ref 48, .long w1, .int 5, .int (v1 + 1)] (shp u) I1 J1 (fun I2 J2 v2 => (f_X12_sums [.ref 48, .long v2, .int 21, .int 6] (shp u) I2 J2 (fun I3 J3 v3 => (f_X12_sums [.ref 48, .long v3, .int 27, .int ((2 : Int32) * (I3 49 2))] (shp u) I3 J3 (fun I4 J4 v4 => (f_X12_sums [.ref 48, .long v4, .int 37, .int 5] (shp u) I4 J4 (fun I5 J5 v5 => (f_X12_sums [.ref 48, .long v5, .int 42, .int ((4 : Int32) * (I5 49 3))] (shp u) I5 J5 (fun I6 J6 v6 => ((shp u) = (shp u) ∧ q I6 J6 (((31 : Int64) * (((31 : Int64) * v6) + (J6 48 4))) + (J6 48 5)))))))))))))))) ∧ (¬ (6 : Int32) ≤ x3 → (f_X12_counted [.ref 48, .int x3] (shp u) I J (fun I7 J7 v7 => r6 [some (.ref 48), some (.long (((31 : Int64) * w1) + (v7).toInt64)), none, some (.int (x3 + 1))] [] (shp u) I7 J7)))) := rfl
