/-! ===== the law: the cases ===== -/
variable {I : ZI} {J : ZJ}
theorem lg_cmp_rf (v : Int64) : lg_cmp v v = 0 := by unfold lg_cmp; simp
abbrev lwL (i : Int32) : ZL := [some (.retAddr 300), some (.ref 0), some (.ref 48), some (.int i)]
theorem eqL_0 (f : YTi) (g : YTi) (u n : Nat) (xs : Nat → Int32) (i : Int32) (k : ZK) : bL_0 f g n xs k (lwL i) [] (shp u) I J = zxg (zix (i + 1) n) (zxg (zix (i + 2) n) (f [.ref 0, .int (xs (i + 1).toNatClampNeg), .int (xs (i + 2).toNatClampNeg)] (shp u) I J (fun I1 J1 v1 => zxg (zix (i + 1) n) (zxg (zix (i + 2) n) (g [.ref 48, .int (xs (i + 1).toNatClampNeg), .int (xs (i + 2).toNatClampNeg)] (shp u) I1 J1 (fun I2 J2 v2 => (v1 = v2 → k (lwL i) [] (shp u) I2 J2) ∧ (¬ v1 = v2 → False))))))) := by rfl
theorem pL_0 {u n : Nat} {xs : Nat → Int32} {i : Int32} {k : ZK} (hR : Rl u I J) (h1 : zix (i + 1) n = true) (h2 : zix (i + 2) n = true) (hk : ∀ u' I' J', Rl u' I' J' → k (lwL i) [] (shp u') I' J') : bL_0 u_X11_road u_X12_road n xs k (lwL i) [] (shp u) I J := by
  rw [eqL_0]
  simp only [h1, h2, zxg_t]
  exact o_road hR (xs (i + 1).toNatClampNeg) (xs (i + 2).toNatClampNeg) (fun I2 J2 v1 v2 => (v1 = v2 → k (lwL i) [] (shp u) I2 J2) ∧ (¬ v1 = v2 → False)) (fun I' J' v hR' => ⟨fun _ => hk _ _ _ hR', fun h => (h rfl).elim⟩)
theorem eqL_1 (f : YTi) (g : YTi) (u n : Nat) (xs : Nat → Int32) (i : Int32) (k : ZK) : bL_1 f g n xs k (lwL i) [] (shp u) I J = zxg (zix (i + 1) n) (zxg (zix (i + 2) n) (f [.ref 0, .int (xs (i + 1).toNatClampNeg), .int (xs (i + 2).toNatClampNeg)] (shp u) I J (fun I1 J1 v1 => zxg (zix (i + 1) n) (zxg (zix (i + 2) n) (g [.ref 48, .int (xs (i + 1).toNatClampNeg), .int (xs (i + 2).toNatClampNeg)] (shp u) I1 J1 (fun I2 J2 v2 => (v1 = v2 → k (lwL i) [] (shp u) I2 J2) ∧ (¬ v1 = v2 → False))))))) := by rfl
theorem pL_1 {u n : Nat} {xs : Nat → Int32} {i : Int32} {k : ZK} (hR : Rl u I J) (h1 : zix (i + 1) n = true) (h2 : zix (i + 2) n = true) (hk : ∀ u' I' J', Rl u' I' J' → k (lwL i) [] (shp u') I' J') : bL_1 u_X11_cobble u_X12_cobble n xs k (lwL i) [] (shp u) I J := by
  rw [eqL_1]
  simp only [h1, h2, zxg_t]
  exact o_cobble hR (xs (i + 1).toNatClampNeg) (xs (i + 2).toNatClampNeg) (fun I2 J2 v1 v2 => (v1 = v2 → k (lwL i) [] (shp u) I2 J2) ∧ (¬ v1 = v2 → False)) (fun I' J' v hR' => ⟨fun _ => hk _ _ _ hR', fun h => (h rfl).elim⟩)
theorem eqL_2 (f : YTi) (g : YTi) (u n : Nat) (xs : Nat → Int32) (i : Int32) (k : ZK) : bL_2 f g n xs k (lwL i) [] (shp u) I J = zxg (zix (i + 1) n) (zxg (zix (i + 2) n) (f [.ref 0, .int (xs (i + 1).toNatClampNeg), .int (xs (i + 2).toNatClampNeg)] (shp u) I J (fun I1 J1 v1 => zxg (zix (i + 1) n) (zxg (zix (i + 2) n) (g [.ref 48, .int (xs (i + 1).toNatClampNeg), .int (xs (i + 2).toNatClampNeg)] (shp u) I1 J1 (fun I2 J2 v2 => (v1 = v2 → k (lwL i) [] (shp u) I2 J2) ∧ (¬ v1 = v2 → False))))))) := by rfl
theorem pL_2 {u n : Nat} {xs : Nat → Int32} {i : Int32} {k : ZK} (hR : Rl u I J) (h1 : zix (i + 1) n = true) (h2 : zix (i + 2) n = true) (hk : ∀ u' I' J', Rl u' I' J' → k (lwL i) [] (shp u') I' J') : bL_2 u_X11_wind u_X12_wind n xs k (lwL i) [] (shp u) I J := by
  rw [eqL_2]
  simp only [h1, h2, zxg_t]
  exact o_wind hR (xs (i + 1).toNatClampNeg) (xs (i + 2).toNatClampNeg) (fun I2 J2 v1 v2 => (v1 = v2 → k (lwL i) [] (shp u) I2 J2) ∧ (¬ v1 = v2 → False)) (fun I' J' v hR' => ⟨fun _ => hk _ _ _ hR', fun h => (h rfl).elim⟩)
theorem eqL_3 (f : YTi) (g : YTi) (u n : Nat) (xs : Nat → Int32) (i : Int32) (k : ZK) : bL_3 f g n xs k (lwL i) [] (shp u) I J = zxg (zix (i + 1) n) (zxg (zix (i + 2) n) (f [.ref 0, .int (xs (i + 1).toNatClampNeg), .int (xs (i + 2).toNatClampNeg)] (shp u) I J (fun I1 J1 v1 => zxg (zix (i + 1) n) (zxg (zix (i + 2) n) (g [.ref 48, .int (xs (i + 1).toNatClampNeg), .int (xs (i + 2).toNatClampNeg)] (shp u) I1 J1 (fun I2 J2 v2 => (v1 = v2 → k (lwL i) [] (shp u) I2 J2) ∧ (¬ v1 = v2 → False))))))) := by rfl
theorem pL_3 {u n : Nat} {xs : Nat → Int32} {i : Int32} {k : ZK} (hR : Rl u I J) (h1 : zix (i + 1) n = true) (h2 : zix (i + 2) n = true) (hk : ∀ u' I' J', Rl u' I' J' → k (lwL i) [] (shp u') I' J') : bL_3 u_X11_head u_X12_head n xs k (lwL i) [] (shp u) I J := by
  rw [eqL_3]
  simp only [h1, h2, zxg_t]
  exact o_head hR (xs (i + 1).toNatClampNeg) (xs (i + 2).toNatClampNeg) (fun I2 J2 v1 v2 => (v1 = v2 → k (lwL i) [] (shp u) I2 J2) ∧ (¬ v1 = v2 → False)) (fun I' J' v hR' => ⟨fun _ => hk _ _ _ hR', fun h => (h rfl).elim⟩)
theorem eqL_4 (f : YTi) (g : YTi) (u n : Nat) (xs : Nat → Int32) (i : Int32) (k : ZK) : bL_4 f g n xs k (lwL i) [] (shp u) I J = zxg (zix (i + 1) n) (f [.ref 0, .int (xs (i + 1).toNatClampNeg)] (shp u) I J (fun I1 J1 v1 => zxg (zix (i + 1) n) (g [.ref 48, .int (xs (i + 1).toNatClampNeg)] (shp u) I1 J1 (fun I2 J2 v2 => (v1 = v2 → k (lwL i) [] (shp u) I2 J2) ∧ (¬ v1 = v2 → False))))) := by rfl
theorem pL_4 {u n : Nat} {xs : Nat → Int32} {i : Int32} {k : ZK} (hR : Rl u I J) (h1 : zix (i + 1) n = true) (hk : ∀ u' I' J', Rl u' I' J' → k (lwL i) [] (shp u') I' J') : bL_4 u_X11_type u_X12_type n xs k (lwL i) [] (shp u) I J := by
  rw [eqL_4]
  simp only [h1, zxg_t]
  exact o_type hR (xs (i + 1).toNatClampNeg) (fun I2 J2 v1 v2 => (v1 = v2 → k (lwL i) [] (shp u) I2 J2) ∧ (¬ v1 = v2 → False)) (fun I' J' v hR' => ⟨fun _ => hk _ _ _ hR', fun h => (h rfl).elim⟩)
theorem eqL_5 (f : YTi) (g : YTi) (u n : Nat) (xs : Nat → Int32) (i : Int32) (k : ZK) : bL_5 f g n xs k (lwL i) [] (shp u) I J = f [.ref 0] (shp u) I J (fun I1 J1 v1 => g [.ref 48] (shp u) I1 J1 (fun I2 J2 v2 => (v1 = v2 → k (lwL i) [] (shp u) I2 J2) ∧ (¬ v1 = v2 → False))) := by rfl
theorem pL_5 {u n : Nat} {xs : Nat → Int32} {i : Int32} {k : ZK} (hR : Rl u I J)  (hk : ∀ u' I' J', Rl u' I' J' → k (lwL i) [] (shp u') I' J') : bL_5 u_X11_clear u_X12_clear n xs k (lwL i) [] (shp u) I J := by
  rw [eqL_5]
  exact o_clear hR (fun I2 J2 v1 v2 => (v1 = v2 → k (lwL i) [] (shp u) I2 J2) ∧ (¬ v1 = v2 → False)) (fun I' J' v hR' => ⟨fun _ => hk _ _ _ hR', fun h => (h rfl).elim⟩)
theorem eqL_6 (f : YTi) (g : YTi) (u n : Nat) (xs : Nat → Int32) (i : Int32) (k : ZK) : bL_6 f g n xs k (lwL i) [] (shp u) I J = f [.ref 0] (shp u) I J (fun I1 J1 v1 => g [.ref 48] (shp u) I1 J1 (fun I2 J2 v2 => (v1 = v2 → k (lwL i) [] (shp u) I2 J2) ∧ (¬ v1 = v2 → False))) := by rfl
theorem pL_6 {u n : Nat} {xs : Nat → Int32} {i : Int32} {k : ZK} (hR : Rl u I J)  (hk : ∀ u' I' J', Rl u' I' J' → k (lwL i) [] (shp u') I' J') : bL_6 u_X11_read u_X12_read n xs k (lwL i) [] (shp u) I J := by
  rw [eqL_6]
  exact o_read hR (fun I2 J2 v1 v2 => (v1 = v2 → k (lwL i) [] (shp u) I2 J2) ∧ (¬ v1 = v2 → False)) (fun I' J' v hR' => ⟨fun _ => hk _ _ _ hR', fun h => (h rfl).elim⟩)
theorem eqL_7 (f : YTi) (g : YTi) (u n : Nat) (xs : Nat → Int32) (i : Int32) (k : ZK) : bL_7 f g n xs k (lwL i) [] (shp u) I J = zxg (zix (i + 1) n) (f [.ref 0, .int (xs (i + 1).toNatClampNeg)] (shp u) I J (fun I1 J1 v1 => zxg (zix (i + 1) n) (g [.ref 48, .int (xs (i + 1).toNatClampNeg)] (shp u) I1 J1 (fun I2 J2 v2 => (v1 = v2 → k (lwL i) [] (shp u) I2 J2) ∧ (¬ v1 = v2 → False))))) := by rfl
theorem pL_7 {u n : Nat} {xs : Nat → Int32} {i : Int32} {k : ZK} (hR : Rl u I J) (h1 : zix (i + 1) n = true) (hk : ∀ u' I' J', Rl u' I' J' → k (lwL i) [] (shp u') I' J') : bL_7 u_X11_walk u_X12_walk n xs k (lwL i) [] (shp u) I J := by
  rw [eqL_7]
  simp only [h1, zxg_t]
  exact o_walk hR (xs (i + 1).toNatClampNeg) (fun I2 J2 v1 v2 => (v1 = v2 → k (lwL i) [] (shp u) I2 J2) ∧ (¬ v1 = v2 → False)) (fun I' J' v hR' => ⟨fun _ => hk _ _ _ hR', fun h => (h rfl).elim⟩)
theorem eqL_8 (f : YTi) (g : YTi) (u n : Nat) (xs : Nat → Int32) (i : Int32) (k : ZK) : bL_8 f g n xs k (lwL i) [] (shp u) I J = zxg (zix (i + 1) n) (f [.ref 0, .int (xs (i + 1).toNatClampNeg)] (shp u) I J (fun I1 J1 v1 => zxg (zix (i + 1) n) (g [.ref 48, .int (xs (i + 1).toNatClampNeg)] (shp u) I1 J1 (fun I2 J2 v2 => (v1 = v2 → k (lwL i) [] (shp u) I2 J2) ∧ (¬ v1 = v2 → False))))) := by rfl
theorem pL_8 {u n : Nat} {xs : Nat → Int32} {i : Int32} {k : ZK} (hR : Rl u I J) (h1 : zix (i + 1) n = true) (hk : ∀ u' I' J', Rl u' I' J' → k (lwL i) [] (shp u') I' J') : bL_8 u_X11_step u_X12_step n xs k (lwL i) [] (shp u) I J := by
  rw [eqL_8]
  simp only [h1, zxg_t]
  exact o_step hR (xs (i + 1).toNatClampNeg) (fun I2 J2 v1 v2 => (v1 = v2 → k (lwL i) [] (shp u) I2 J2) ∧ (¬ v1 = v2 → False)) (fun I' J' v hR' => ⟨fun _ => hk _ _ _ hR', fun h => (h rfl).elim⟩)
theorem eqL_9 (f : YTi) (g : YTi) (u n : Nat) (xs : Nat → Int32) (i : Int32) (k : ZK) : bL_9 f g n xs k (lwL i) [] (shp u) I J = f [.ref 0] (shp u) I J (fun I1 J1 v1 => g [.ref 48] (shp u) I1 J1 (fun I2 J2 v2 => (v1 = v2 → k (lwL i) [] (shp u) I2 J2) ∧ (¬ v1 = v2 → False))) := by rfl
theorem pL_9 {u n : Nat} {xs : Nat → Int32} {i : Int32} {k : ZK} (hR : Rl u I J)  (hk : ∀ u' I' J', Rl u' I' J' → k (lwL i) [] (shp u') I' J') : bL_9 u_X11_hand u_X12_hand n xs k (lwL i) [] (shp u) I J := by
  rw [eqL_9]
  exact o_hand hR (fun I2 J2 v1 v2 => (v1 = v2 → k (lwL i) [] (shp u) I2 J2) ∧ (¬ v1 = v2 → False)) (fun I' J' v hR' => ⟨fun _ => hk _ _ _ hR', fun h => (h rfl).elim⟩)
theorem eqL_10 (f : YTi) (g : YTi) (u n : Nat) (xs : Nat → Int32) (i : Int32) (k : ZK) : bL_10 f g n xs k (lwL i) [] (shp u) I J = f [.ref 0] (shp u) I J (fun I1 J1 v1 => g [.ref 48] (shp u) I1 J1 (fun I2 J2 v2 => (v1 = v2 → k (lwL i) [] (shp u) I2 J2) ∧ (¬ v1 = v2 → False))) := by rfl
theorem pL_10 {u n : Nat} {xs : Nat → Int32} {i : Int32} {k : ZK} (hR : Rl u I J)  (hk : ∀ u' I' J', Rl u' I' J' → k (lwL i) [] (shp u') I' J') : bL_10 u_X11_undo u_X12_undo n xs k (lwL i) [] (shp u) I J := by
  rw [eqL_10]
  exact o_undo hR (fun I2 J2 v1 v2 => (v1 = v2 → k (lwL i) [] (shp u) I2 J2) ∧ (¬ v1 = v2 → False)) (fun I' J' v hR' => ⟨fun _ => hk _ _ _ hR', fun h => (h rfl).elim⟩)
theorem eqL_11 (f : YTi) (g : YTi) (u n : Nat) (xs : Nat → Int32) (i : Int32) (k : ZK) : bL_11 f g n xs k (lwL i) [] (shp u) I J = zxg (zix (i + 1) n) (zxg (zix (i + 2) n) (f [.ref 0, .int (xs (i + 1).toNatClampNeg), .int (xs (i + 2).toNatClampNeg)] (shp u) I J (fun I1 J1 v1 => zxg (zix (i + 1) n) (zxg (zix (i + 2) n) (g [.ref 48, .int (xs (i + 1).toNatClampNeg), .int (xs (i + 2).toNatClampNeg)] (shp u) I1 J1 (fun I2 J2 v2 => (v1 = v2 → k (lwL i) [] (shp u) I2 J2) ∧ (¬ v1 = v2 → False))))))) := by rfl
theorem pL_11 {u n : Nat} {xs : Nat → Int32} {i : Int32} {k : ZK} (hR : Rl u I J) (h1 : zix (i + 1) n = true) (h2 : zix (i + 2) n = true) (hk : ∀ u' I' J', Rl u' I' J' → k (lwL i) [] (shp u') I' J') : bL_11 u_X11_of u_X12_of n xs k (lwL i) [] (shp u) I J := by
  rw [eqL_11]
  simp only [h1, h2, zxg_t]
  exact o_of hR (xs (i + 1).toNatClampNeg) (xs (i + 2).toNatClampNeg) (fun I2 J2 v1 v2 => (v1 = v2 → k (lwL i) [] (shp u) I2 J2) ∧ (¬ v1 = v2 → False)) (fun I' J' v hR' => ⟨fun _ => hk _ _ _ hR', fun h => (h rfl).elim⟩)
theorem eqL_12 (f : YTi) (g : YTi) (u n : Nat) (xs : Nat → Int32) (i : Int32) (k : ZK) : bL_12 f g n xs k (lwL i) [] (shp u) I J = zxg (zix (i + 1) n) (f [.ref 0, .int (xs (i + 1).toNatClampNeg)] (shp u) I J (fun I1 J1 v1 => zxg (zix (i + 1) n) (g [.ref 48, .int (xs (i + 1).toNatClampNeg)] (shp u) I1 J1 (fun I2 J2 v2 => (v1 = v2 → k (lwL i) [] (shp u) I2 J2) ∧ (¬ v1 = v2 → False))))) := by rfl
theorem pL_12 {u n : Nat} {xs : Nat → Int32} {i : Int32} {k : ZK} (hR : Rl u I J) (h1 : zix (i + 1) n = true) (hk : ∀ u' I' J', Rl u' I' J' → k (lwL i) [] (shp u') I' J') : bL_12 u_X11_now u_X12_now n xs k (lwL i) [] (shp u) I J := by
  rw [eqL_12]
  simp only [h1, zxg_t]
  exact o_now hR (xs (i + 1).toNatClampNeg) (fun I2 J2 v1 v2 => (v1 = v2 → k (lwL i) [] (shp u) I2 J2) ∧ (¬ v1 = v2 → False)) (fun I' J' v hR' => ⟨fun _ => hk _ _ _ hR', fun h => (h rfl).elim⟩)
theorem eqL_13 (f : YTi) (g : YTi) (u n : Nat) (xs : Nat → Int32) (i : Int32) (k : ZK) : bL_13 f g n xs k (lwL i) [] (shp u) I J = zxg (zix (i + 1) n) (zxg (zix (i + 2) n) (zxg (zix (i + 3) n) (zxg (zix (i + 4) n) (f [.ref 0, .int (xs (i + 1).toNatClampNeg), .int (xs (i + 2).toNatClampNeg), .int (xs (i + 3).toNatClampNeg), .int (xs (i + 4).toNatClampNeg)] (shp u) I J (fun I1 J1 v1 => zxg (zix (i + 1) n) (zxg (zix (i + 2) n) (zxg (zix (i + 3) n) (zxg (zix (i + 4) n) (g [.ref 48, .int (xs (i + 1).toNatClampNeg), .int (xs (i + 2).toNatClampNeg), .int (xs (i + 3).toNatClampNeg), .int (xs (i + 4).toNatClampNeg)] (shp u) I1 J1 (fun I2 J2 v2 => (v1 = v2 → k (lwL i) [] (shp u) I2 J2) ∧ (¬ v1 = v2 → False))))))))))) := by rfl
theorem pL_13 {u n : Nat} {xs : Nat → Int32} {i : Int32} {k : ZK} (hR : Rl u I J) (h1 : zix (i + 1) n = true) (h2 : zix (i + 2) n = true) (h3 : zix (i + 3) n = true) (h4 : zix (i + 4) n = true) (hk : ∀ u' I' J', Rl u' I' J' → k (lwL i) [] (shp u') I' J') : bL_13 u_X11_paces u_X12_paces n xs k (lwL i) [] (shp u) I J := by
  rw [eqL_13]
  simp only [h1, h2, h3, h4, zxg_t]
  exact o_paces hR (xs (i + 1).toNatClampNeg) (xs (i + 2).toNatClampNeg) (xs (i + 3).toNatClampNeg) (xs (i + 4).toNatClampNeg) (fun I2 J2 v1 v2 => (v1 = v2 → k (lwL i) [] (shp u) I2 J2) ∧ (¬ v1 = v2 → False)) (fun I' J' v hR' => ⟨fun _ => hk _ _ _ hR', fun h => (h rfl).elim⟩)
theorem eqL_14 (f : YTi) (g : YTi) (u n : Nat) (xs : Nat → Int32) (i : Int32) (k : ZK) : bL_14 f g n xs k (lwL i) [] (shp u) I J = zxg (zix (i + 1) n) (zxg (zix (i + 2) n) (zxg (zix (i + 3) n) (f [.ref 0, .int (xs (i + 1).toNatClampNeg), .int (xs (i + 2).toNatClampNeg), .int (xs (i + 3).toNatClampNeg)] (shp u) I J (fun I1 J1 v1 => zxg (zix (i + 1) n) (zxg (zix (i + 2) n) (zxg (zix (i + 3) n) (g [.ref 48, .int (xs (i + 1).toNatClampNeg), .int (xs (i + 2).toNatClampNeg), .int (xs (i + 3).toNatClampNeg)] (shp u) I1 J1 (fun I2 J2 v2 => (v1 = v2 → k (lwL i) [] (shp u) I2 J2) ∧ (¬ v1 = v2 → False))))))))) := by rfl
theorem pL_14 {u n : Nat} {xs : Nat → Int32} {i : Int32} {k : ZK} (hR : Rl u I J) (h1 : zix (i + 1) n = true) (h2 : zix (i + 2) n = true) (h3 : zix (i + 3) n = true) (hk : ∀ u' I' J', Rl u' I' J' → k (lwL i) [] (shp u') I' J') : bL_14 u_X11_soonest u_X12_soonest n xs k (lwL i) [] (shp u) I J := by
  rw [eqL_14]
  simp only [h1, h2, h3, zxg_t]
  exact o_soonest hR (xs (i + 1).toNatClampNeg) (xs (i + 2).toNatClampNeg) (xs (i + 3).toNatClampNeg) (fun I2 J2 v1 v2 => (v1 = v2 → k (lwL i) [] (shp u) I2 J2) ∧ (¬ v1 = v2 → False)) (fun I' J' v hR' => ⟨fun _ => hk _ _ _ hR', fun h => (h rfl).elim⟩)
theorem eqL_15 (f : YTi) (g : YTi) (u n : Nat) (xs : Nat → Int32) (i : Int32) (k : ZK) : bL_15 f g n xs k (lwL i) [] (shp u) I J = zxg (zix (i + 1) n) (f [.ref 0, .int (xs (i + 1).toNatClampNeg)] (shp u) I J (fun I1 J1 v1 => zxg (zix (i + 1) n) (g [.ref 48, .int (xs (i + 1).toNatClampNeg)] (shp u) I1 J1 (fun I2 J2 v2 => (v1 = v2 → k (lwL i) [] (shp u) I2 J2) ∧ (¬ v1 = v2 → False))))) := by rfl
theorem pL_15 {u n : Nat} {xs : Nat → Int32} {i : Int32} {k : ZK} (hR : Rl u I J) (h1 : zix (i + 1) n = true) (hk : ∀ u' I' J', Rl u' I' J' → k (lwL i) [] (shp u') I' J') : bL_15 u_X11_hour u_X12_hour n xs k (lwL i) [] (shp u) I J := by
  rw [eqL_15]
  simp only [h1, zxg_t]
  exact o_hour hR (xs (i + 1).toNatClampNeg) (fun I2 J2 v1 v2 => (v1 = v2 → k (lwL i) [] (shp u) I2 J2) ∧ (¬ v1 = v2 → False)) (fun I' J' v hR' => ⟨fun _ => hk _ _ _ hR', fun h => (h rfl).elim⟩)
theorem eqL_16 (f : YTi) (g : YTi) (u n : Nat) (xs : Nat → Int32) (i : Int32) (k : ZK) : bL_16 f g n xs k (lwL i) [] (shp u) I J = zxg (zix (i + 1) n) (zxg (zix (i + 2) n) (zxg (zix (i + 3) n) (f [.ref 0, .int (xs (i + 1).toNatClampNeg), .int (xs (i + 2).toNatClampNeg), .int (xs (i + 3).toNatClampNeg)] (shp u) I J (fun I1 J1 v1 => zxg (zix (i + 1) n) (zxg (zix (i + 2) n) (zxg (zix (i + 3) n) (g [.ref 48, .int (xs (i + 1).toNatClampNeg), .int (xs (i + 2).toNatClampNeg), .int (xs (i + 3).toNatClampNeg)] (shp u) I1 J1 (fun I2 J2 v2 => (v1 = v2 → k (lwL i) [] (shp u) I2 J2) ∧ (¬ v1 = v2 → False))))))))) := by rfl
theorem pL_16 {u n : Nat} {xs : Nat → Int32} {i : Int32} {k : ZK} (hR : Rl u I J) (h1 : zix (i + 1) n = true) (h2 : zix (i + 2) n = true) (h3 : zix (i + 3) n = true) (hk : ∀ u' I' J', Rl u' I' J' → k (lwL i) [] (shp u') I' J') : bL_16 u_X11_sure u_X12_sure n xs k (lwL i) [] (shp u) I J := by
  rw [eqL_16]
  simp only [h1, h2, h3, zxg_t]
  exact o_sure hR (xs (i + 1).toNatClampNeg) (xs (i + 2).toNatClampNeg) (xs (i + 3).toNatClampNeg) (fun I2 J2 v1 v2 => (v1 = v2 → k (lwL i) [] (shp u) I2 J2) ∧ (¬ v1 = v2 → False)) (fun I' J' v hR' => ⟨fun _ => hk _ _ _ hR', fun h => (h rfl).elim⟩)
theorem eqL_17 (f : YTi) (g : YTi) (u n : Nat) (xs : Nat → Int32) (i : Int32) (k : ZK) : bL_17 f g n xs k (lwL i) [] (shp u) I J = zxg (zix (i + 1) n) (zxg (zix (i + 2) n) (f [.ref 0, .int (xs (i + 1).toNatClampNeg), .int (xs (i + 2).toNatClampNeg)] (shp u) I J (fun I1 J1 v1 => zxg (zix (i + 1) n) (zxg (zix (i + 2) n) (g [.ref 48, .int (xs (i + 1).toNatClampNeg), .int (xs (i + 2).toNatClampNeg)] (shp u) I1 J1 (fun I2 J2 v2 => (v1 = v2 → k (lwL i) [] (shp u) I2 J2) ∧ (¬ v1 = v2 → False))))))) := by rfl
theorem pL_17 {u n : Nat} {xs : Nat → Int32} {i : Int32} {k : ZK} (hR : Rl u I J) (h1 : zix (i + 1) n = true) (h2 : zix (i + 2) n = true) (hk : ∀ u' I' J', Rl u' I' J' → k (lwL i) [] (shp u') I' J') : bL_17 u_X11_flat u_X12_flat n xs k (lwL i) [] (shp u) I J := by
  rw [eqL_17]
  simp only [h1, h2, zxg_t]
  exact o_flat hR (xs (i + 1).toNatClampNeg) (xs (i + 2).toNatClampNeg) (fun I2 J2 v1 v2 => (v1 = v2 → k (lwL i) [] (shp u) I2 J2) ∧ (¬ v1 = v2 → False)) (fun I' J' v hR' => ⟨fun _ => hk _ _ _ hR', fun h => (h rfl).elim⟩)
theorem eqL_18 (f : YTi) (g : YTi) (u n : Nat) (xs : Nat → Int32) (i : Int32) (k : ZK) : bL_18 f g n xs k (lwL i) [] (shp u) I J = zxg (zix (i + 1) n) (zxg (zix (i + 2) n) (zxg (zix (i + 3) n) (zxg (zix (i + 4) n) (f [.ref 0, .int (xs (i + 1).toNatClampNeg), .int (xs (i + 2).toNatClampNeg), .int (xs (i + 3).toNatClampNeg), .int (xs (i + 4).toNatClampNeg)] (shp u) I J (fun I1 J1 v1 => zxg (zix (i + 1) n) (zxg (zix (i + 2) n) (zxg (zix (i + 3) n) (zxg (zix (i + 4) n) (g [.ref 48, .int (xs (i + 1).toNatClampNeg), .int (xs (i + 2).toNatClampNeg), .int (xs (i + 3).toNatClampNeg), .int (xs (i + 4).toNatClampNeg)] (shp u) I1 J1 (fun I2 J2 v2 => (v1 = v2 → k (lwL i) [] (shp u) I2 J2) ∧ (¬ v1 = v2 → False))))))))))) := by rfl
theorem pL_18 {u n : Nat} {xs : Nat → Int32} {i : Int32} {k : ZK} (hR : Rl u I J) (h1 : zix (i + 1) n = true) (h2 : zix (i + 2) n = true) (h3 : zix (i + 3) n = true) (h4 : zix (i + 4) n = true) (hk : ∀ u' I' J', Rl u' I' J' → k (lwL i) [] (shp u') I' J') : bL_18 u_X11_note u_X12_note n xs k (lwL i) [] (shp u) I J := by
  rw [eqL_18]
  simp only [h1, h2, h3, h4, zxg_t]
  exact o_note hR (xs (i + 1).toNatClampNeg) (xs (i + 2).toNatClampNeg) (xs (i + 3).toNatClampNeg) (xs (i + 4).toNatClampNeg) (fun I2 J2 v1 v2 => (v1 = v2 → k (lwL i) [] (shp u) I2 J2) ∧ (¬ v1 = v2 → False)) (fun I' J' v hR' => ⟨fun _ => hk _ _ _ hR', fun h => (h rfl).elim⟩)
theorem eqL_19 (f : YTi) (g : YTi) (u n : Nat) (xs : Nat → Int32) (i : Int32) (k : ZK) : bL_19 f g n xs k (lwL i) [] (shp u) I J = f [.ref 0] (shp u) I J (fun I1 J1 v1 => g [.ref 48] (shp u) I1 J1 (fun I2 J2 v2 => (v1 = v2 → k (lwL i) [] (shp u) I2 J2) ∧ (¬ v1 = v2 → False))) := by rfl
theorem pL_19 {u n : Nat} {xs : Nat → Int32} {i : Int32} {k : ZK} (hR : Rl u I J)  (hk : ∀ u' I' J', Rl u' I' J' → k (lwL i) [] (shp u') I' J') : bL_19 u_X11_forget u_X12_forget n xs k (lwL i) [] (shp u) I J := by
  rw [eqL_19]
  exact o_forget hR (fun I2 J2 v1 v2 => (v1 = v2 → k (lwL i) [] (shp u) I2 J2) ∧ (¬ v1 = v2 → False)) (fun I' J' v hR' => ⟨fun _ => hk _ _ _ hR', fun h => (h rfl).elim⟩)
theorem eqL_20 (f : YTi) (g : YTi) (u n : Nat) (xs : Nat → Int32) (i : Int32) (k : ZK) : bL_20 f g n xs k (lwL i) [] (shp u) I J = zxg (zix (i + 1) n) (f [.ref 0, .int (xs (i + 1).toNatClampNeg)] (shp u) I J (fun I1 J1 v1 => zxg (zix (i + 1) n) (g [.ref 48, .int (xs (i + 1).toNatClampNeg)] (shp u) I1 J1 (fun I2 J2 v2 => (v1 = v2 → k (lwL i) [] (shp u) I2 J2) ∧ (¬ v1 = v2 → False))))) := by rfl
theorem pL_20 {u n : Nat} {xs : Nat → Int32} {i : Int32} {k : ZK} (hR : Rl u I J) (h1 : zix (i + 1) n = true) (hk : ∀ u' I' J', Rl u' I' J' → k (lwL i) [] (shp u') I' J') : bL_20 u_X11_is u_X12_is n xs k (lwL i) [] (shp u) I J := by
  rw [eqL_20]
  simp only [h1, zxg_t]
  exact o_is hR (xs (i + 1).toNatClampNeg) (fun I2 J2 v1 v2 => (v1 = v2 → k (lwL i) [] (shp u) I2 J2) ∧ (¬ v1 = v2 → False)) (fun I' J' v hR' => ⟨fun _ => hk _ _ _ hR', fun h => (h rfl).elim⟩)
theorem eqL_21 (f : YTi) (g : YTi) (u n : Nat) (xs : Nat → Int32) (i : Int32) (k : ZK) : bL_21 f g n xs k (lwL i) [] (shp u) I J = zxg (zix (i + 1) n) (f [.ref 0, .int (xs (i + 1).toNatClampNeg)] (shp u) I J (fun I1 J1 v1 => zxg (zix (i + 1) n) (g [.ref 48, .int (xs (i + 1).toNatClampNeg)] (shp u) I1 J1 (fun I2 J2 v2 => (v1 = v2 → k (lwL i) [] (shp u) I2 J2) ∧ (¬ v1 = v2 → False))))) := by rfl
theorem pL_21 {u n : Nat} {xs : Nat → Int32} {i : Int32} {k : ZK} (hR : Rl u I J) (h1 : zix (i + 1) n = true) (hk : ∀ u' I' J', Rl u' I' J' → k (lwL i) [] (shp u') I' J') : bL_21 u_X11_bowl u_X12_bowl n xs k (lwL i) [] (shp u) I J := by
  rw [eqL_21]
  simp only [h1, zxg_t]
  exact o_bowl hR (xs (i + 1).toNatClampNeg) (fun I2 J2 v1 v2 => (v1 = v2 → k (lwL i) [] (shp u) I2 J2) ∧ (¬ v1 = v2 → False)) (fun I' J' v hR' => ⟨fun _ => hk _ _ _ hR', fun h => (h rfl).elim⟩)
theorem eqL_22 (f : YTi) (g : YTi) (u n : Nat) (xs : Nat → Int32) (i : Int32) (k : ZK) : bL_22 f g n xs k (lwL i) [] (shp u) I J = zxg (zix (i + 1) n) (zxg (zix (i + 2) n) (zxg (zix (i + 3) n) (zxg (zix (i + 4) n) (zxg (zix (i + 5) n) (f [.ref 0, .int (xs (i + 1).toNatClampNeg), .int (xs (i + 2).toNatClampNeg), .int (xs (i + 3).toNatClampNeg), .int (xs (i + 4).toNatClampNeg), .int (xs (i + 5).toNatClampNeg)] (shp u) I J (fun I1 J1 v1 => zxg (zix (i + 1) n) (zxg (zix (i + 2) n) (zxg (zix (i + 3) n) (zxg (zix (i + 4) n) (zxg (zix (i + 5) n) (g [.ref 48, .int (xs (i + 1).toNatClampNeg), .int (xs (i + 2).toNatClampNeg), .int (xs (i + 3).toNatClampNeg), .int (xs (i + 4).toNatClampNeg), .int (xs (i + 5).toNatClampNeg)] (shp u) I1 J1 (fun I2 J2 v2 => (v1 = v2 → k (lwL i) [] (shp u) I2 J2) ∧ (¬ v1 = v2 → False))))))))))))) := by rfl
theorem pL_22 {u n : Nat} {xs : Nat → Int32} {i : Int32} {k : ZK} (hR : Rl u I J) (h1 : zix (i + 1) n = true) (h2 : zix (i + 2) n = true) (h3 : zix (i + 3) n = true) (h4 : zix (i + 4) n = true) (h5 : zix (i + 5) n = true) (hk : ∀ u' I' J', Rl u' I' J' → k (lwL i) [] (shp u') I' J') : bL_22 u_X11_bowed u_X12_bowed n xs k (lwL i) [] (shp u) I J := by
  rw [eqL_22]
  simp only [h1, h2, h3, h4, h5, zxg_t]
  exact o_bowed hR (xs (i + 1).toNatClampNeg) (xs (i + 2).toNatClampNeg) (xs (i + 3).toNatClampNeg) (xs (i + 4).toNatClampNeg) (xs (i + 5).toNatClampNeg) (fun I2 J2 v1 v2 => (v1 = v2 → k (lwL i) [] (shp u) I2 J2) ∧ (¬ v1 = v2 → False)) (fun I' J' v hR' => ⟨fun _ => hk _ _ _ hR', fun h => (h rfl).elim⟩)
theorem eqL_23 (f : YTi) (g : YTi) (u n : Nat) (xs : Nat → Int32) (i : Int32) (k : ZK) : bL_23 f g n xs k (lwL i) [] (shp u) I J = zxg (zix (i + 1) n) (zxg (zix (i + 2) n) (zxg (zix (i + 3) n) (f [.ref 0, .int (xs (i + 1).toNatClampNeg), .int (xs (i + 2).toNatClampNeg), .int (xs (i + 3).toNatClampNeg)] (shp u) I J (fun I1 J1 v1 => zxg (zix (i + 1) n) (zxg (zix (i + 2) n) (zxg (zix (i + 3) n) (g [.ref 48, .int (xs (i + 1).toNatClampNeg), .int (xs (i + 2).toNatClampNeg), .int (xs (i + 3).toNatClampNeg)] (shp u) I1 J1 (fun I2 J2 v2 => (v1 = v2 → k (lwL i) [] (shp u) I2 J2) ∧ (¬ v1 = v2 → False))))))))) := by rfl
theorem pL_23 {u n : Nat} {xs : Nat → Int32} {i : Int32} {k : ZK} (hR : Rl u I J) (h1 : zix (i + 1) n = true) (h2 : zix (i + 2) n = true) (h3 : zix (i + 3) n = true) (hk : ∀ u' I' J', Rl u' I' J' → k (lwL i) [] (shp u') I' J') : bL_23 u_X11_pigeons u_X12_pigeons n xs k (lwL i) [] (shp u) I J := by
  rw [eqL_23]
  simp only [h1, h2, h3, zxg_t]
  exact o_pigeons hR (xs (i + 1).toNatClampNeg) (xs (i + 2).toNatClampNeg) (xs (i + 3).toNatClampNeg) (fun I2 J2 v1 v2 => (v1 = v2 → k (lwL i) [] (shp u) I2 J2) ∧ (¬ v1 = v2 → False)) (fun I' J' v hR' => ⟨fun _ => hk _ _ _ hR', fun h => (h rfl).elim⟩)
theorem eqL_24 (f : YTi) (g : YTi) (u n : Nat) (xs : Nat → Int32) (i : Int32) (k : ZK) : bL_24 f g n xs k (lwL i) [] (shp u) I J = zxg (zix (i + 1) n) (zxg (zix (i + 2) n) (zxg (zix (i + 3) n) (f [.ref 0, .int (xs (i + 1).toNatClampNeg), .int (xs (i + 2).toNatClampNeg), .int (xs (i + 3).toNatClampNeg)] (shp u) I J (fun I1 J1 v1 => zxg (zix (i + 1) n) (zxg (zix (i + 2) n) (zxg (zix (i + 3) n) (g [.ref 48, .int (xs (i + 1).toNatClampNeg), .int (xs (i + 2).toNatClampNeg), .int (xs (i + 3).toNatClampNeg)] (shp u) I1 J1 (fun I2 J2 v2 => (v1 = v2 → k (lwL i) [] (shp u) I2 J2) ∧ (¬ v1 = v2 → False))))))))) := by rfl
theorem pL_24 {u n : Nat} {xs : Nat → Int32} {i : Int32} {k : ZK} (hR : Rl u I J) (h1 : zix (i + 1) n = true) (h2 : zix (i + 2) n = true) (h3 : zix (i + 3) n = true) (hk : ∀ u' I' J', Rl u' I' J' → k (lwL i) [] (shp u') I' J') : bL_24 u_X11_crowned u_X12_crowned n xs k (lwL i) [] (shp u) I J := by
  rw [eqL_24]
  simp only [h1, h2, h3, zxg_t]
  exact o_crowned hR (xs (i + 1).toNatClampNeg) (xs (i + 2).toNatClampNeg) (xs (i + 3).toNatClampNeg) (fun I2 J2 v1 v2 => (v1 = v2 → k (lwL i) [] (shp u) I2 J2) ∧ (¬ v1 = v2 → False)) (fun I' J' v hR' => ⟨fun _ => hk _ _ _ hR', fun h => (h rfl).elim⟩)
theorem eqL_25 (f : YTl) (g : YTl) (u n : Nat) (xs : Nat → Int32) (i : Int32) (k : ZK) : bL_25 f g n xs k (lwL i) [] (shp u) I J = zxg (zix (i + 1) n) (f [.ref 0, .int (xs (i + 1).toNatClampNeg)] (shp u) I J (fun I1 J1 v1 => zxg (zix (i + 1) n) (g [.ref 48, .int (xs (i + 1).toNatClampNeg)] (shp u) I1 J1 (fun I2 J2 v2 => (lg_cmp v1 v2 = 0 → k (lwL i) [] (shp u) I2 J2) ∧ (¬ lg_cmp v1 v2 = 0 → False))))) := by rfl
theorem pL_25 {u n : Nat} {xs : Nat → Int32} {i : Int32} {k : ZK} (hR : Rl u I J) (h1 : zix (i + 1) n = true) (hk : ∀ u' I' J', Rl u' I' J' → k (lwL i) [] (shp u') I' J') : bL_25 u_X11_part u_X12_part n xs k (lwL i) [] (shp u) I J := by
  rw [eqL_25]
  simp only [h1, zxg_t]
  exact o_part hR (xs (i + 1).toNatClampNeg) (fun I2 J2 v1 v2 => (lg_cmp v1 v2 = 0 → k (lwL i) [] (shp u) I2 J2) ∧ (¬ lg_cmp v1 v2 = 0 → False)) (fun I' J' v hR' => ⟨fun _ => hk _ _ _ hR', fun h => h (lg_cmp_rf v)⟩)
theorem eqL_26 (f : ZTi) (g : YTi) (u n : Nat) (xs : Nat → Int32) (i : Int32) (k : ZK) : bL_26 f g n xs k (lwL i) [] (shp u) I J = zxg (zix (i + 1) n) (f [.ref 0, .int (xs (i + 1).toNatClampNeg)] (shp u) I J (fun S1 I1 J1 v1 => bL_26r g n xs k (lwL i) [.int v1] S1 I1 J1)) := by rfl
theorem eqL_26r (g : YTi) (u n : Nat) (xs : Nat → Int32) (i : Int32) (k : ZK) (v1 : Int32) : bL_26r g n xs k (lwL i) [.int v1] (shp u) I J = zxg (zix (i + 1) n) (g [.ref 48, .int (xs (i + 1).toNatClampNeg)] (shp u) I J (fun I2 J2 v2 => (v1 = v2 → k (lwL i) [] (shp u) I2 J2) ∧ (¬ v1 = v2 → False))) := by rfl
theorem pL_26 {u n : Nat} {xs : Nat → Int32} {i : Int32} {k : ZK} (hR : Rl u I J) (h1 : zix (i + 1) n = true) (hk : ∀ u' I' J', Rl u' I' J' → k (lwL i) [] (shp u') I' J') : bL_26 t_X11_image u_X12_image n xs k (lwL i) [] (shp u) I J := by
  rw [eqL_26, h1, zxg_t]
  refine o_imageG hR _ (fun S I2 J2 v1 v2 => (v1 = v2 → k (lwL i) [] S I2 J2) ∧ (¬ v1 = v2 → False)) (fun u' I' J' v hR' => ⟨fun _ => hk _ _ _ hR', fun h => (h rfl).elim⟩) _ (fun u' I1 J1 v1 h => ?_)
  show bL_26r u_X12_image n xs k (lwL i) [.int v1] (shp u') I1 J1
  rw [eqL_26r, h1, zxg_t]; exact h
theorem eqL_27 (f : YTi) (g : YTi) (u n : Nat) (xs : Nat → Int32) (i : Int32) (k : ZK) : bL_27 f g n xs k (lwL i) [] (shp u) I J = zxg (zix (i + 1) n) (f [.ref 0, .int (xs (i + 1).toNatClampNeg)] (shp u) I J (fun I1 J1 v1 => zxg (zix (i + 1) n) (g [.ref 48, .int (xs (i + 1).toNatClampNeg)] (shp u) I1 J1 (fun I2 J2 v2 => (v1 = v2 → k (lwL i) [] (shp u) I2 J2) ∧ (¬ v1 = v2 → False))))) := by rfl
theorem pL_27 {u n : Nat} {xs : Nat → Int32} {i : Int32} {k : ZK} (hR : Rl u I J) (h1 : zix (i + 1) n = true) (hk : ∀ u' I' J', Rl u' I' J' → k (lwL i) [] (shp u') I' J') : bL_27 u_X11_from u_X12_from n xs k (lwL i) [] (shp u) I J := by
  rw [eqL_27]
  simp only [h1, zxg_t]
  exact o_from hR (xs (i + 1).toNatClampNeg) (fun I2 J2 v1 v2 => (v1 = v2 → k (lwL i) [] (shp u) I2 J2) ∧ (¬ v1 = v2 → False)) (fun I' J' v hR' => ⟨fun _ => hk _ _ _ hR', fun h => (h rfl).elim⟩)
theorem eqL_28 (f : YTi) (g : YTi) (u n : Nat) (xs : Nat → Int32) (i : Int32) (k : ZK) : bL_28 f g n xs k (lwL i) [] (shp u) I J = zxg (zix (i + 1) n) (f [.ref 0, .int (xs (i + 1).toNatClampNeg)] (shp u) I J (fun I1 J1 v1 => zxg (zix (i + 1) n) (g [.ref 48, .int (xs (i + 1).toNatClampNeg)] (shp u) I1 J1 (fun I2 J2 v2 => (v1 = v2 → k (lwL i) [] (shp u) I2 J2) ∧ (¬ v1 = v2 → False))))) := by rfl
theorem pL_28 {u n : Nat} {xs : Nat → Int32} {i : Int32} {k : ZK} (hR : Rl u I J) (h1 : zix (i + 1) n = true) (hk : ∀ u' I' J', Rl u' I' J' → k (lwL i) [] (shp u') I' J') : bL_28 u_X11_status u_X12_status n xs k (lwL i) [] (shp u) I J := by
  rw [eqL_28]
  simp only [h1, zxg_t]
  exact o_status hR (xs (i + 1).toNatClampNeg) (fun I2 J2 v1 v2 => (v1 = v2 → k (lwL i) [] (shp u) I2 J2) ∧ (¬ v1 = v2 → False)) (fun I' J' v hR' => ⟨fun _ => hk _ _ _ hR', fun h => (h rfl).elim⟩)
theorem eqL_29 (f : YTi) (g : YTi) (u n : Nat) (xs : Nat → Int32) (i : Int32) (k : ZK) : bL_29 f g n xs k (lwL i) [] (shp u) I J = zxg (zix (i + 1) n) (f [.ref 0, .int (xs (i + 1).toNatClampNeg)] (shp u) I J (fun I1 J1 v1 => zxg (zix (i + 1) n) (g [.ref 48, .int (xs (i + 1).toNatClampNeg)] (shp u) I1 J1 (fun I2 J2 v2 => (v1 = v2 → k (lwL i) [] (shp u) I2 J2) ∧ (¬ v1 = v2 → False))))) := by rfl
theorem pL_29 {u n : Nat} {xs : Nat → Int32} {i : Int32} {k : ZK} (hR : Rl u I J) (h1 : zix (i + 1) n = true) (hk : ∀ u' I' J', Rl u' I' J' → k (lwL i) [] (shp u') I' J') : bL_29 u_X11_count u_X12_count n xs k (lwL i) [] (shp u) I J := by
  rw [eqL_29]
  simp only [h1, zxg_t]
  exact o_count hR (xs (i + 1).toNatClampNeg) (fun I2 J2 v1 v2 => (v1 = v2 → k (lwL i) [] (shp u) I2 J2) ∧ (¬ v1 = v2 → False)) (fun I' J' v hR' => ⟨fun _ => hk _ _ _ hR', fun h => (h rfl).elim⟩)
theorem eqL_30 (f : YTl) (g : YTl) (u n : Nat) (xs : Nat → Int32) (i : Int32) (k : ZK) : bL_30 f g n xs k (lwL i) [] (shp u) I J = f [.ref 0] (shp u) I J (fun I1 J1 v1 => g [.ref 48] (shp u) I1 J1 (fun I2 J2 v2 => (lg_cmp v1 v2 = 0 → k (lwL i) [] (shp u) I2 J2) ∧ (¬ lg_cmp v1 v2 = 0 → False))) := by rfl
theorem pL_30 {u n : Nat} {xs : Nat → Int32} {i : Int32} {k : ZK} (hR : Rl u I J)  (hk : ∀ u' I' J', Rl u' I' J' → k (lwL i) [] (shp u') I' J') : bL_30 u_X11_digest u_X12_digest n xs k (lwL i) [] (shp u) I J := by
  rw [eqL_30]
  exact o_digest hR (fun I2 J2 v1 v2 => (lg_cmp v1 v2 = 0 → k (lwL i) [] (shp u) I2 J2) ∧ (¬ lg_cmp v1 v2 = 0 → False)) (fun I' J' v hR' => ⟨fun _ => hk _ _ _ hR', fun h => h (lg_cmp_rf v)⟩)
