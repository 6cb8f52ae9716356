/-! ===== digest ===== -/
def hsh (f : Nat → Int32) (w : Int64) : Nat → Int64
  | 0 => w
  | k + 1 => 31 * hsh f w k + (f k).toInt64
theorem hsh_c {f g : Nat → Int32} (w : Int64) : ∀ k, (∀ i, i < k → f i = g i) → hsh f w k = hsh g w k := by
  intro k
  induction k with
  | zero => intro _; rfl
  | succ k ih => intro h; show 31 * hsh f w k + _ = 31 * hsh g w k + _; rw [ih (fun i hi => h i (by omega)), h k (by omega)]
variable {u : Nat} {I : ZI} {J : ZJ}
def cntf (n : Nat → Int32) (l : Int32) (k : Nat) : Int32 := if k = 0 then n 2 else if k = 1 then n 0 else if k = 2 then n 1 else if k = 3 then n 3 else if k = 4 then n 4 else l
theorem q_count {n : Nat → Int32} (hW : Wd 2 I n) {k : Nat} (hk : k < 6) (q : YQi) (hq : q I J (cntf n (I 31 1) k)) : u_X11_count [.ref 0, .int (nI k)] (shp u) I J q := by
  have w0 : I 3 0 = n 0 := hW.1
  have w1 : I 3 1 = n 1 := hW.2.1
  have w2 : I 2 2 = n 2 := hW.2.2.1
  have w3 : I 2 5 = n 3 := hW.2.2.2.1
  have w4 : I 6 4 = n 4 := hW.2.2.2.2.1
  rw [e_X11_count, w0, w1, w2, w3, w4]
  have : k = 0 ∨ k = 1 ∨ k = 2 ∨ k = 3 ∨ k = 4 ∨ k = 5 := by omega
  rcases this with rfl | rfl | rfl | rfl | rfl | rfl
  · exact ⟨fun _ => ⟨rfl, hq⟩, fun h => absurd rfl h⟩
  · exact ⟨fun h => absurd h (by decide), fun _ => ⟨fun _ => ⟨rfl, hq⟩, fun h => absurd rfl h⟩⟩
  · exact ⟨fun h => absurd h (by decide), fun _ => ⟨fun h => absurd h (by decide), fun _ => ⟨fun _ => ⟨rfl, hq⟩, fun h => absurd rfl h⟩⟩⟩
  · exact ⟨fun h => absurd h (by decide), fun _ => ⟨fun h => absurd h (by decide), fun _ => ⟨fun h => absurd h (by decide), fun _ => ⟨fun _ => ⟨rfl, hq⟩, fun h => absurd rfl h⟩⟩⟩⟩
  · exact ⟨fun h => absurd h (by decide), fun _ => ⟨fun h => absurd h (by decide), fun _ => ⟨fun h => absurd h (by decide), fun _ => ⟨fun h => absurd h (by decide), fun _ => ⟨fun _ => ⟨rfl, hq⟩, fun h => absurd rfl h⟩⟩⟩⟩⟩
  · exact ⟨fun h => absurd h (by decide), fun _ => ⟨fun h => absurd h (by decide), fun _ => ⟨fun h => absurd h (by decide), fun _ => ⟨fun h => absurd h (by decide), fun _ => ⟨fun h => absurd h (by decide), fun _ => ⟨fun _ => ⟨rfl, hq⟩, fun h => absurd rfl h⟩⟩⟩⟩⟩⟩
theorem q_counted {k : Nat} (hk : k < 6) (q : YQi) (hq : q I J (cntf (I 49) (I 48 15) k)) : u_X12_counted [.ref 48, .int (nI k)] (shp u) I J q := by
  rw [e_X12_counted]
  have : k = 0 ∨ k = 1 ∨ k = 2 ∨ k = 3 ∨ k = 4 ∨ k = 5 := by omega
  rcases this with rfl | rfl | rfl | rfl | rfl | rfl
  · exact ⟨fun _ => ⟨rfl, hq⟩, fun h => absurd rfl h⟩
  · exact ⟨fun h => absurd h (by decide), fun _ => ⟨fun _ => ⟨rfl, hq⟩, fun h => absurd rfl h⟩⟩
  · exact ⟨fun h => absurd h (by decide), fun _ => ⟨fun h => absurd h (by decide), fun _ => ⟨fun _ => ⟨rfl, hq⟩, fun h => absurd rfl h⟩⟩⟩
  · exact ⟨fun h => absurd h (by decide), fun _ => ⟨fun h => absurd h (by decide), fun _ => ⟨fun h => absurd h (by decide), fun _ => ⟨fun _ => ⟨rfl, hq⟩, fun h => absurd rfl h⟩⟩⟩⟩
  · exact ⟨fun h => absurd h (by decide), fun _ => ⟨fun h => absurd h (by decide), fun _ => ⟨fun h => absurd h (by decide), fun _ => ⟨fun h => absurd h (by decide), fun _ => ⟨fun _ => ⟨rfl, hq⟩, fun h => absurd rfl h⟩⟩⟩⟩⟩
  · exact ⟨fun h => absurd h (by decide), fun _ => ⟨fun h => absurd h (by decide), fun _ => ⟨fun h => absurd h (by decide), fun _ => ⟨fun h => absurd h (by decide), fun _ => ⟨fun h => absurd h (by decide), fun _ => ⟨rfl, hq⟩⟩⟩⟩⟩⟩
theorem q_now {n : Nat → Int32} (hW : Wd 2 I n) (hV : Vd n) {k : Nat} (hk : k < 5) (q : YQi) (hq : q I J (n (37 + k))) : u_X11_now [.ref 0, .int (nI k)] (shp u) I J q := by
  have w1 : I 3 1 = n 1 := hW.2.1
  have w37 : I 6 0 = n 37 := hW.2.2.2.2.2.2.2.2.1
  have w38 : I 6 1 = n 38 := hW.2.2.2.2.2.2.2.2.2.1
  have w39 : I 6 2 = n 39 := hW.2.2.2.2.2.2.2.2.2.2.1
  have w40 : I 6 3 = n 40 := hW.2.2.2.2.2.2.2.2.2.2.2.1
  have v41 : n 41 = bI (fel (n 1) (n 40)) := hV.2.2.2.2.2.2.2.2.2.1
  have hin : (0 : Int32).toInt ≤ (nI k).toInt ∧ (nI k).toInt ≤ (4 : Int32).toInt := by
    rw [i_nI _ (by omega)]; exact ⟨by show (0 : Int) ≤ _; omega, by show _ ≤ (4 : Int); omega⟩
  rw [e_X11_now, p_X11_within, w37, w38, w39, w40]
  refine ⟨fun _ => ?_, fun z => b0t hin z⟩
  rw [p_X8_isFallen6, p_X11_bit, w1, w40, ← v41]
  have : k = 0 ∨ k = 1 ∨ k = 2 ∨ k = 3 ∨ k = 4 := by omega
  rcases this with rfl | rfl | rfl | rfl | rfl
  · exact ⟨fun _ => ⟨rfl, hq⟩, fun h => absurd rfl h⟩
  · exact ⟨fun h => absurd h (by decide), fun _ => ⟨fun _ => ⟨rfl, hq⟩, fun h => absurd rfl h⟩⟩
  · exact ⟨fun h => absurd h (by decide), fun _ => ⟨fun h => absurd h (by decide), fun _ => ⟨fun _ => ⟨rfl, hq⟩, fun h => absurd rfl h⟩⟩⟩
  · exact ⟨fun h => absurd h (by decide), fun _ => ⟨fun h => absurd h (by decide), fun _ => ⟨fun h => absurd h (by decide), fun _ => ⟨fun _ => ⟨rfl, hq⟩, fun h => absurd rfl h⟩⟩⟩⟩
  · exact ⟨fun h => absurd h (by decide), fun _ => ⟨fun h => absurd h (by decide), fun _ => ⟨fun h => absurd h (by decide), fun _ => ⟨fun h => absurd h (by decide), fun _ => ⟨rfl, hq⟩⟩⟩⟩⟩
theorem q_sums {a m : Nat} (h : a + m ≤ 98) (w : Int64) (q : YQl) (hq : q I J (hsh (fun k => I 49 (a + k)) w m)) : u_X12_sums [.ref 48, .long w, .int (nI a), .int (nI m)] (shp u) I J q := by
  rw [e_X12_sums]
  refine zlp m (fun k L I' J' => (∃ o1 o2 o6, L = [some (.ref 48), o1, o2, some (.int (nI a)), some (.int (nI m)), some (.long (hsh (fun k => I 49 (a + k)) w k)), o6, some (.int (nI k))]) ∧ I' = I ∧ J' = J) ?_ ?_ _ _ _ ⟨⟨_, _, _, rfl⟩, rfl, rfl⟩
  · rintro k hk r L I' J' ⟨⟨o1, o2, o6, rfl⟩, rfl, rfl⟩ hr
    rw [g_X12_sums_6, mI_add, mI_nat (by omega), mI_one]
    exact ⟨fun h => absurd h (mI_ge hk (by omega)), fun _ => ⟨mI_in (by omega) (by omega), hr _ _ _ ⟨⟨_, _, _, rfl⟩, rfl, rfl⟩⟩⟩
  · rintro r L I' J' ⟨⟨o1, o2, o6, rfl⟩, rfl, rfl⟩
    rw [g_X12_sums_6]
    exact ⟨fun _ => ⟨rfl, hq⟩, fun h => absurd (mI_rf m) h⟩
theorem q_addTo {n : Nat → Int32} (hW : Wd 2 I n) (hV : Vd n) (w : Int64) (q : YQl) (hq : q I J (hsh (fun k => n (21 + k)) (hsh (fun k => n (5 + k)) w ((n 0).toInt.toNat + 1)) 6)) : u_X5_addTo [.ref 3, .long w] (shp u) I J q := by
  have hM := n0_rg hV
  have w0 : I 3 0 = nI (n 0).toInt.toNat := by rw [← n0_nI hV]; exact hW.1
  have w5 : ∀ c, c < 16 → I 4 c = n (5 + c) := hW.2.2.2.2.2.1
  have w6 : ∀ c, c < 6 → I 5 c = n (21 + c) := hW.2.2.2.2.2.2.1
  generalize (n 0).toInt.toNat = M at hM w0 hq
  rw [e_X5_addTo]
  have second : ∀ (o1 o2 o4 o5 : Option Value), b_X5_addTo_42 (ql (shp u) q) [some (.ref 3), o1, o2, some (.long (hsh (fun k => n (5 + k)) w (M + 1))), o4, o5] [] (shp u) I J := by
    intro o1 o2 o4 o5
    rw [g_X5_addTo_42]
    refine zlp 6 (fun k L I' J' => (∃ o1 o2 o4, L = [some (.ref 3), o1, o2, some (.long (hsh (fun k => n (21 + k)) (hsh (fun k => n (5 + k)) w (M + 1)) k)), o4, some (.int (nI k))]) ∧ I' = I ∧ J' = J) ?_ ?_ _ _ _ ⟨⟨_, _, _, rfl⟩, rfl, rfl⟩
    · rintro k hk r L I' J' ⟨⟨o1, o2, o4, rfl⟩, rfl, rfl⟩ hr
      rw [g_X5_addTo_45, mI_nat (by omega), mI_one, w6 k hk]
      exact ⟨fun h => absurd (show nI 6 ≤ nI k from h) (mI_ge hk (by omega)), fun _ => ⟨mI_in (by omega) (by omega), hr _ _ _ ⟨⟨_, _, _, rfl⟩, rfl, rfl⟩⟩⟩
    · rintro r L I' J' ⟨⟨o1, o2, o4, rfl⟩, rfl, rfl⟩
      rw [g_X5_addTo_45]
      exact ⟨fun _ => ⟨rfl, hq⟩, fun h => absurd (mI_rf 6) h⟩
  refine zlp (M + 1) (fun k L I' J' => (∃ o1 o2 o4, L = [some (.ref 3), o1, o2, some (.long (hsh (fun k => n (5 + k)) w k)), o4, some (.int (nI k))]) ∧ I' = I ∧ J' = J) ?_ ?_ _ _ _ ⟨⟨_, _, _, rfl⟩, rfl, rfl⟩
  · rintro k hk r L I' J' ⟨⟨o1, o2, o4, rfl⟩, rfl, rfl⟩ hr
    rw [g_X5_addTo_5, w0, mI_lt (by omega) (by omega), mI_nat (by omega), mI_one, w5 k (by omega)]
    exact ⟨fun h => by omega, fun _ => ⟨fun h => absurd (show nI 16 ≤ nI k from h) (mI_ge (by omega) (by omega)), fun _ => ⟨mI_in (by omega) (by omega), hr _ _ _ ⟨⟨_, _, _, rfl⟩, rfl, rfl⟩⟩⟩⟩
  · rintro r L I' J' ⟨⟨o1, o2, o4, rfl⟩, rfl, rfl⟩
    rw [g_X5_addTo_5, w0, mI_lt (by omega) (by omega)]
    exact ⟨fun _ => second _ _ _ _, fun h => absurd (by omega) h⟩
theorem q_heads {n : Nat → Int32} (hW : Wd 2 I n) (hV : Vd n) (w : Int64) (q : YQl) (hq : q I J (hsh (fun k => n (27 + k)) w (2 * (n 2).toInt.toNat))) : u_X10_addHeadsTo [.ref 2, .long w] (shp u) I J q := by
  have v2 := hV.2.2.1
  have e2 : n 2 = nI (n 2).toInt.toNat := mI_of v2.1
  have w2 : I 2 2 = nI (n 2).toInt.toNat := by rw [← e2]; exact hW.2.2.1
  have hh : ∀ k : Nat, k < (n 2).toInt.toNat → I 10 k = n (27 + 2 * k) ∧ I 11 k = n (28 + 2 * k) := fun k hk => hdW hW (by omega)
  have hm : (n 2).toInt.toNat ≤ 5 := by omega
  generalize (n 2).toInt.toNat = m at w2 hh hm hq
  rw [e_X10_addHeadsTo]
  refine zlp m (fun k L I' J' => (∃ o1 o2 o4, L = [some (.ref 2), o1, o2, some (.long (hsh (fun k => n (27 + k)) w (2 * k))), o4, some (.int (nI k))]) ∧ I' = I ∧ J' = J) ?_ ?_ _ _ _ ⟨⟨_, _, _, rfl⟩, rfl, rfl⟩
  · rintro k hk r L I' J' ⟨⟨o1, o2, o4, rfl⟩, rfl, rfl⟩ hr
    have hin : vp_in (nI k) 5 := mI_in (by omega) (by omega)
    rw [g_X10_addHeadsTo_5, w2, mI_nat (by omega), mI_one, (hh k hk).1, (hh k hk).2]
    refine ⟨fun h => absurd h (mI_ge hk (by omega)), fun _ => ⟨fun h => absurd (show nI 5 ≤ nI k from h) (mI_ge (by omega) (by omega)), fun _ => ⟨hin, hin, hr _ _ _ ⟨⟨none, none, none, ?_⟩, rfl, rfl⟩⟩⟩⟩
    have e : hsh (fun k => n (27 + k)) w (2 * (k + 1)) = 31 * (31 * hsh (fun k => n (27 + k)) w (2 * k) + (n (27 + 2 * k)).toInt64) + (n (28 + 2 * k)).toInt64 := by
      show 31 * (31 * hsh (fun k => n (27 + k)) w (2 * k) + (n (27 + 2 * k)).toInt64) + (n (27 + (2 * k + 1))).toInt64 = _
      rw [show 27 + (2 * k + 1) = 28 + 2 * k by omega]
    rw [e]
  · rintro r L I' J' ⟨⟨o1, o2, o4, rfl⟩, rfl, rfl⟩
    rw [g_X10_addHeadsTo_5, w2]
    refine ⟨fun _ => ?_, fun h => absurd (mI_rf m) h⟩
    rw [g_X10_addHeadsTo_56]; exact ⟨rfl, hq⟩
theorem q_notes {n : Nat → Int32} (hW : Wd 2 I n) (hV : Vd n) (w : Int64) (q : YQl) (hq : q I J (hsh (fun k => n (42 + k)) w (4 * (n 3).toInt.toNat))) : u_X10_addNotesTo [.ref 2, .long w] (shp u) I J q := by
  have v3 := hV.2.2.2.1
  have e3 : n 3 = nI (n 3).toInt.toNat := mI_of v3.1
  have w3 : I 2 5 = nI (n 3).toInt.toNat := by rw [← e3]; exact hW.2.2.2.1
  have hh : ∀ k : Nat, k < (n 3).toInt.toNat → I 12 k = n (42 + 4 * k) ∧ I 13 k = n (43 + 4 * k) ∧ I 14 k = n (44 + 4 * k) ∧ I 15 k = n (45 + 4 * k) := fun k hk => ntW hW (by omega)
  have hm : (n 3).toInt.toNat ≤ 6 := by omega
  generalize (n 3).toInt.toNat = m at w3 hh hm hq
  rw [e_X10_addNotesTo]
  refine zlp m (fun k L I' J' => (∃ o1 o2 o4, L = [some (.ref 2), o1, o2, some (.long (hsh (fun k => n (42 + k)) w (4 * k))), o4, some (.int (nI k))]) ∧ I' = I ∧ J' = J) ?_ ?_ _ _ _ ⟨⟨_, _, _, rfl⟩, rfl, rfl⟩
  · rintro k hk r L I' J' ⟨⟨o1, o2, o4, rfl⟩, rfl, rfl⟩ hr
    have hin : vp_in (nI k) 6 := mI_in (by omega) (by omega)
    obtain ⟨y1, y2, y3, y4⟩ := hh k hk
    rw [g_X10_addNotesTo_5, w3, mI_nat (by omega), mI_one, y1, y2, y3, y4]
    refine ⟨fun h => absurd h (mI_ge hk (by omega)), fun _ => ⟨fun h => absurd (show nI 6 ≤ nI k from h) (mI_ge (by omega) (by omega)), fun _ => ⟨hin, hin, hin, hin, hr _ _ _ ⟨⟨none, none, none, ?_⟩, rfl, rfl⟩⟩⟩⟩
    have e : hsh (fun k => n (42 + k)) w (4 * (k + 1)) = 31 * (31 * (31 * (31 * hsh (fun k => n (42 + k)) w (4 * k) + (n (42 + 4 * k)).toInt64) + (n (43 + 4 * k)).toInt64) + (n (44 + 4 * k)).toInt64) + (n (45 + 4 * k)).toInt64 := by
      show 31 * (31 * (31 * (31 * hsh (fun k => n (42 + k)) w (4 * k) + (n (42 + 4 * k)).toInt64) + (n (42 + (4 * k + 1))).toInt64) + (n (42 + (4 * k + 1 + 1))).toInt64) + (n (42 + (4 * k + 1 + 1 + 1))).toInt64 = _
      rw [show 42 + (4 * k + 1) = 43 + 4 * k by omega, show 42 + (4 * k + 1 + 1) = 44 + 4 * k by omega, show 42 + (4 * k + 1 + 1 + 1) = 45 + 4 * k by omega]
    rw [e]
  · rintro r L I' J' ⟨⟨o1, o2, o4, rfl⟩, rfl, rfl⟩
    rw [g_X10_addNotesTo_5, w3]
    refine ⟨fun _ => ?_, fun h => absurd (mI_rf m) h⟩
    rw [g_X10_addNotesTo_87]; exact ⟨rfl, hq⟩
theorem o_digest (hR : Rl u I J) (Q : ZI → ZJ → Int64 → Int64 → Prop) (hQ : ∀ I' J' v, Rl u I' J' → Q I' J' v v) :
    u_X11_digest [.ref 0] (shp u) I J (fun I1 J1 v1 => u_X12_digest [.ref 48] (shp u) I1 J1 (fun I2 J2 v2 => Q I2 J2 v1 v2)) := by
  have hW := hR.1
  have hV := hR.2.1
  have hP := hR.2.2.2.1
  have wt : I 31 1 = I 48 15 := hR.2.2.2.2.1.1
  have hM := n0_rg hV
  have v2 := hV.2.2.1
  have v3 := hV.2.2.2.1
  have e2 : I 49 2 = nI (I 49 2).toInt.toNat := mI_of v2.1
  have e3 : I 49 3 = nI (I 49 3).toInt.toNat := mI_of v3.1
  rw [e_X11_digest]
  refine zlp 6 (fun k L I' J' => (∃ o2, L = [some (.ref 0), some (.long (hsh (cntf (I 49) (I 48 15)) 1087 k)), o2, some (.int (nI k))]) ∧ I' = I ∧ J' = J) ?_ ?_ _ _ _ ⟨⟨_, rfl⟩, rfl, rfl⟩
  · rintro k hk r L I' J' ⟨⟨o2, rfl⟩, rfl, rfl⟩ hr
    rw [g_X11_digest_6]
    refine ⟨fun h => absurd (show nI 6 ≤ nI k from h) (mI_ge hk (by omega)), fun _ => ?_⟩
    refine q_count hW hk _ ?_
    rw [wt, mI_one]
    exact hr _ _ _ ⟨⟨_, rfl⟩, rfl, rfl⟩
  · rintro r L I' J' ⟨⟨o2, rfl⟩, rfl, rfl⟩
    rw [g_X11_digest_6]
    refine ⟨fun _ => ?_, fun h => absurd (mI_rf 6) h⟩
    refine q_addTo hW hV _ _ ?_
    refine q_heads hW hV _ _ ?_
    generalize hh0 : hsh (cntf (I' 49) (I' 48 15)) 1087 6 = h0
    refine zlp 5 (fun k L I2 J2 => (∃ o2, L = [some (.ref 0), some (.long (hsh (fun k => I' 49 (37 + k)) (hsh (fun k => I' 49 (27 + k)) (hsh (fun k => I' 49 (21 + k)) (hsh (fun k => I' 49 (5 + k)) h0 ((I' 49 0).toInt.toNat + 1)) 6) (2 * (I' 49 2).toInt.toNat)) k)), o2, some (.int (nI k))]) ∧ I2 = I' ∧ J2 = J') ?_ ?_ _ _ _ ⟨⟨_, rfl⟩, rfl, rfl⟩
    · rintro k hk r2 L I2 J2 ⟨⟨o2, rfl⟩, rfl, rfl⟩ hr2
      rw [g_X11_digest_54]
      refine ⟨fun h => absurd (show nI 5 ≤ nI k from h) (mI_ge hk (by omega)), fun _ => ?_⟩
      refine q_now hW hV hk _ ?_
      rw [mI_one]
      exact hr2 _ _ _ ⟨⟨_, rfl⟩, rfl, rfl⟩
    · rintro r2 L I2 J2 ⟨⟨o2, rfl⟩, rfl, rfl⟩
      rw [g_X11_digest_54]
      refine ⟨fun _ => ?_, fun h => absurd (mI_rf 5) h⟩
      refine q_notes hW hV _ _ ⟨rfl, ?_⟩
      rw [e_X12_digest]
      refine zlp 6 (fun k L I3 J3 => (∃ o2, L = [some (.ref 48), some (.long (hsh (cntf (I2 49) (I2 48 15)) 1087 k)), o2, some (.int (nI k))]) ∧ I3 = I2 ∧ J3 = J2) ?_ ?_ _ _ _ ⟨⟨_, rfl⟩, rfl, rfl⟩
      · rintro k hk r3 L I3 J3 ⟨⟨o2, rfl⟩, rfl, rfl⟩ hr3
        rw [g_X12_digest_6]
        refine ⟨fun h => absurd (show nI 6 ≤ nI k from h) (mI_ge hk (by omega)), fun _ => ?_⟩
        refine q_counted hk _ ?_
        rw [mI_one]
        exact hr3 _ _ _ ⟨⟨_, rfl⟩, rfl, rfl⟩
      · rintro r3 L I3 J3 ⟨⟨o2, rfl⟩, rfl, rfl⟩
        rw [g_X12_digest_6, hh0]
        refine ⟨fun _ => ?_, fun h => absurd (mI_rf 6) h⟩
        rw [p_X12_fountain]
        have n0e := n0_nI hV
        have em : I3 49 0 + 1 = nI ((I3 49 0).toInt.toNat + 1) := by
          have := mI_one (I3 49 0).toInt.toNat
          rw [← n0e] at this; exact this
        rw [em]
        refine q_sums (a := 5) (by omega) _ _ ?_
        refine q_sums (a := 21) (m := 6) (by omega) _ _ ?_
        have eh : (2 : Int32) * I3 49 2 = nI (2 * (I3 49 2).toInt.toNat) := by
          have := mI_mul 2 (I3 49 2).toInt.toNat
          rw [← e2] at this; exact this
        rw [eh]
        refine q_sums (a := 27) (by omega) _ _ ?_
        refine q_sums (a := 37) (m := 5) (by omega) _ _ ?_
        have en : (4 : Int32) * I3 49 3 = nI (4 * (I3 49 3).toInt.toNat) := by
          have := mI_mul 4 (I3 49 3).toInt.toNat
          rw [← e3] at this; exact this
        rw [en]
        refine q_sums (a := 42) (by omega) _ _ ⟨rfl, ?_⟩
        rw [hP.1, hP.2]
        exact hQ _ _ _ hR
