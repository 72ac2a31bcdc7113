/-! LEAPING -/
theorem q_10 : (nI 1 ≤ nI 0) = False := by decide
theorem q_m0 : (-nI 1 ≤ nI 0) = True := by decide
theorem y_l176_f {F n o ln na nb a0 a1 b0 b1 out : Nat} {x : Int32 × Int32} {y : Int32} {rul rowf roomf key tag rK rT c : Nat → Int32} (hF : 1000 ≤ F) (hc : c 10 = nI ln) (h : 1 ≤ ln ∧ ln ≤ 9) (hM : MF n a0 a1 b0 b1 out rowf roomf key tag rK rT) (hna : na ≤ 96) (hnb : nb ≤ b1 - b0) (ha : a0 < a1) :
    ∃ (a0' a1' b0' b1' out' ln' : Nat) (fl : Bool) (rowf' key' tag' c' : Nat → Int32),
      (bd5 (mX2_take_r F (nI out) (nI 1) rowf c (nI b0) (nI 1) (nI (b1 - b0)) (nI nb)) (fun mt rw tl eb lb => bd1 (mX2_bothAreLeft F (nI (a1 - a0)) lb) (fun r121 => if r121 = 0 then (bz (0 : Int32) (some ((0 : Int32), mt, rw, tl, nI a0, nI (a1 - a0), eb, lb))) else (bd5 (mX2_take_m F mt (nI 1) rw tl (nI a0) (nI 1) (nI (a1 - a0)) roomf (1 : Int32)) (fun mt5 rw5 tl5 ea5 la5 => bd1 (mX2_bothAreLeft F la5 lb) (fun r139 => if r139 = 0 then (bz (0 : Int32) (some ((0 : Int32), mt5, rw5, tl5, ea5, la5, eb, lb))) else (bd2 (mX2_leapsOn F tl5 (if nI na < nI nb then nI nb else nI na)) (fun r151 tl6 => if r151 = 0 then (bz (0 : Int32) (some ((0 : Int32), mt5, rw5, tl6, ea5, la5, eb, lb))) else (bz (1 : Int32) (some ((1 : Int32), mt5, rw5, tl6, ea5, la5, eb, lb))))))))))) = some (b2i fl, nI out', rowf', c', nI a0', nI (a1' - a0'), nI b0', nI (b1' - b0')) ∧
      mX6_leaps_176 F (nI 1) rK rT (nI na) (nI nb) (nI a0) (nI a1) (nI b0) (nI b1) (nI out) key tag (ad x y c) = some (b2i fl, nI a0', nI a1', nI b0', nI b1', nI out', key', tag', ad x y c') ∧
      MF n a0' a1' b0' b1' out' rowf' roomf key' tag' rK rT ∧ c' 10 = nI ln' ∧ c' 7 = c 7 ∧ (1 ≤ ln' ∧ ln' ≤ 9) ∧ (fl = true → a0' < a1' ∧ b0' < b1') ∧ (a1' - a0') + (b1' - b0') ≤ (a1 - a0) + (b1 - b0) := by
  obtain ⟨b0', b1', out', rowf', key', tag', e1, e2, hM3, e3⟩ := stB_f (x := x) (y := y) (c := c) hF hM hnb
  have hM3' := hM3
  obtain ⟨g1, g2, g3, g4, g5, g6, -⟩ := hM3'
  have hM0 := hM
  obtain ⟨k1, k2, k3, k4, k5, k6, -⟩ := hM0
  have hcc : (mvs c nb) 10 = nI ln := by rw [← hc]; rfl
  unfold mX6_leaps_176
  rw [e1, e2]
  simp only [bd5_r, bd6_r]
  rw [e_both (by omega) (by omega), y_goes (by omega) (by omega) (by omega) (by omega), show decide (0 < a1 - a0 ∧ 0 < b1' - b0') = decide (b0' < b1') from decide_eq_decide.mpr (by omega), show decide (a0 < a1 ∧ b0' < b1') = decide (b0' < b1') from decide_eq_decide.mpr (by omega)]
  simp only [bd1_r, n0, n1, b2i_0, bz_0, bz_1]
  by_cases q1 : b0' < b1'
  · rw [decide_eq_true q1]
    simp only [Bool.true_eq_false, if_false]
    obtain ⟨a0', a1', out2, rowf2, key2, tag2, f1, f2, hM4, f3⟩ := stA_f (x := x) (y := y) (m := 1) (c := mvs c nb) hF hM3 (by omega)
    have hM4' := hM4
    obtain ⟨j1, j2, j3, j4, j5, j6, -⟩ := hM4'
    have hc4 : (mvs (mvs c nb) 1) 10 = nI ln := by rw [← hc]; rfl
    rw [f1, f2]
    simp only [bd5_r, bd6_r]
    rw [e_both (by omega) (by omega), y_goes (by omega) (by omega) (by omega) (by omega), show decide (0 < a1' - a0' ∧ 0 < b1' - b0') = decide (a0' < a1') from decide_eq_decide.mpr (by omega), show decide (a0' < a1' ∧ b0' < b1') = decide (a0' < a1') from decide_eq_decide.mpr (by omega)]
    simp only [bd1_r, b2i_0]
    by_cases q2 : a0' < a1'
    · rw [decide_eq_true q2, e_leapsOn hc4 h hna (by omega)]
      simp (disch := omega) only [Bool.true_eq_false, if_false, bd2_r, n10, q_ck, q_cl, ad_10, hc4, q_le, b2i_0]
      refine ⟨a0', a1', b0', b1', out2, lnx ln na nb, decide (ln ≤ na ∨ ln ≤ nb), rowf2, key2, tag2, upd (mvs (mvs c nb) 1) 10 (nI (lnx ln na nb)), ?_, ?_, hM4, upd_s, rfl, lnx_in h, fun _ => ⟨q2, q1⟩, by omega⟩
      · cases decide (ln ≤ na ∨ ln ≤ nb) <;> rfl
      · unfold lnx mX6_leaps_256 mX6_leaps_252 mX6_leaps_280
        simp (disch := omega) only [n0, n1, n9, n10, q_ck, q_cl, ad_10, hc4, q_le, bz_0, bz_1, nI_add, q_sub, Nat.sub_zero, Nat.add_zero, show ∀ v, upd (ad x y (mvs (mvs c nb) 1)) 10 v = ad x y (upd (mvs (mvs c nb) 1) 10 v) from fun v => ad_upd (by decide) (by decide) (by decide)]
        by_cases r1 : ln ≤ na
        · rw [if_pos r1, decide_eq_true (Or.inl r1), if_pos (Or.inl r1)]
          by_cases r3 : ln ≤ 1
          · rw [if_pos r3, if_pos r3, show ln = 1 by omega]; rfl
          · rw [if_neg r3, if_neg r3]; rfl
        · rw [if_neg r1]
          by_cases r2 : ln ≤ nb
          · rw [if_pos r2, decide_eq_true (Or.inr r2), if_pos (Or.inr r2)]
            by_cases r3 : ln ≤ 1
            · rw [if_pos r3, if_pos r3, show ln = 1 by omega]; rfl
            · rw [if_neg r3, if_neg r3]; rfl
          · rw [if_neg r2, decide_eq_false (show ¬ (ln ≤ na ∨ ln ≤ nb) by omega), if_neg (show ¬ (ln ≤ na ∨ ln ≤ nb) by omega)]
            by_cases r3 : 9 ≤ ln
            · rw [if_pos r3, if_pos r3, show ln = 9 by omega]; rfl
            · rw [if_neg r3, if_neg r3]; rfl
    · rw [decide_eq_false q2]
      simp only [if_true]
      exact ⟨a0', a1', b0', b1', out2, ln, false, rowf2, key2, tag2, mvs (mvs c nb) 1, rfl, rfl, hM4, hc4, rfl, h, fun w => (Bool.false_ne_true w).elim, by omega⟩
  · rw [decide_eq_false q1]
    simp only [if_true]
    exact ⟨a0, a1, b0', b1', out', ln, false, rowf', key', tag', mvs c nb, rfl, rfl, hM3, hcc, rfl, h, fun w => (Bool.false_ne_true w).elim, by omega⟩
set_option maxHeartbeats 4000000 in
/-- a round of leaps, f -/
theorem lp_f {F n o ln a0 a1 b0 b1 out : Nat} {x : Int32 × Int32} {y : Int32} {rul rowf roomf key tag rK rT c : Nat → Int32} (hF : 1000 ≤ F) (ho : o < 4) (hr : rul 0 = nI o) (hc : c 10 = nI ln) (h : 1 ≤ ln ∧ ln ≤ 9) (hM : MF n a0 a1 b0 b1 out rowf roomf key tag rK rT) (ha : a0 < a1) (hb : b0 < b1) :
    ∃ (a0' a1' b0' b1' out' ln' : Nat) (fl : Bool) (rowf' key' tag' c' : Nat → Int32),
      mX2_leapOneRound_f F (nI out) (nI 1) rowf roomf c (nI o) (nI a0) (nI 1) (nI (a1 - a0)) (nI b0) (nI 1) (nI (b1 - b0)) = some (b2i fl, nI out', rowf', c', nI a0', nI (a1' - a0'), nI b0', nI (b1' - b0')) ∧
      mX6_leaps F (nI a0) (nI a1) (nI b0) (nI b1) (nI 1) (nI out) rul key tag rK rT (ad x y c) = some (b2i fl, nI a0', nI a1', nI b0', nI b1', nI out', key', tag', ad x y c') ∧
      MF n a0' a1' b0' b1' out' rowf' roomf key' tag' rK rT ∧ c' 10 = nI ln' ∧ c' 7 = c 7 ∧ (1 ≤ ln' ∧ ln' ≤ 9) ∧ (fl = true → a0' < a1' ∧ b0' < b1') ∧ (a1' - a0') + (b1' - b0') < (a1 - a0) + (b1 - b0) := by
  have hM0 := hM
  obtain ⟨k1, k2, k3, k4, k5, k6, -⟩ := hM0
  obtain ⟨kb, tb, p1, p2, p3, p4⟩ := hdB_f (F := F) hM hb
  unfold mX2_leapOneRound_f mX2_leapOneRound_f_12 mX6_leaps
  simp (disch := omega) only [n0, n1, n9, q_10, z10, if_true, if_false, q_ck, q_cl, ad_9]
  rw [show upd (ad x y c) 9 (c 9 + nI 1) = ad x y (upd c 9 (c 9 + nI 1)) from ad_upd (by decide) (by decide) (by decide), e_add (by decide) (by decide), p3, p4]
  simp only [bd1_r, z10, z00, if_true, if_false]
  have hc1 : (upd c 9 (c 9 + nI 1)) 10 = nI ln := by rw [← hc]; rfl
  have hc7 : (upd c 9 (c 9 + nI 1)) 7 = c 7 := rfl
  generalize upd c 9 (c 9 + nI 1) = c1 at hc1 hc7 ⊢
  obtain ⟨na, d1, s1, s2, s3⟩ := skA_f (u := x) (v := y) (tm := tb) (c := c1) hF ho hr hM p1 p2
  unfold mX2_leapOneRound_f_49
  rw [s2, q_sub (show a0 ≤ a1 by omega)]
  simp only [n0, s3, bd2_r]
  have hc2 : (mvs (tst c1 d1) na) 10 = nI ln := by rw [← hc1]; rfl
  obtain ⟨a0', a1', out1, rowf1, key1, tag1, e1, e2, hM1, e3⟩ := stA_f (x := x) (y := y) (c := tst c1 d1) hF hM s1
  have hM1' := hM1
  obtain ⟨g1, g2, g3, g4, g5, g6, -⟩ := hM1'
  unfold mX6_leaps_79
  rw [e1, e2]
  simp only [bd5_r, bd6_r]
  rw [e_both (by omega) (by omega), y_goes (by omega) (by omega) (by omega) (by omega), show decide (0 < a1' - a0' ∧ 0 < b1 - b0) = decide (a0' < a1') from decide_eq_decide.mpr (by omega), show decide (a0' < a1' ∧ b0 < b1) = decide (a0' < a1') from decide_eq_decide.mpr (by omega)]
  simp only [bd1_r, n0, n1, b2i_0, bz_0, bz_1]
  by_cases q1 : a0' < a1'
  · rw [decide_eq_true q1]
    simp only [Bool.true_eq_false, if_false]
    obtain ⟨b0', b1', out2, rowf2, key2, tag2, f1, f2, hM2, f3⟩ := stB_f (x := x) (y := y) (m := 1) (c := mvs (tst c1 d1) na) hF hM1 (by omega)
    have hM2' := hM2
    obtain ⟨j1, j2, j3, j4, j5, j6, -⟩ := hM2'
    have hc3 : (mvs (mvs (tst c1 d1) na) 1) 10 = nI ln := by rw [← hc1]; rfl
    rw [f1, f2]
    simp only [bd5_r, bd6_r]
    rw [e_both (by omega) (by omega), y_goes (by omega) (by omega) (by omega) (by omega), show decide (0 < a1' - a0' ∧ 0 < b1' - b0') = decide (b0' < b1') from decide_eq_decide.mpr (by omega), show decide (a0' < a1' ∧ b0' < b1') = decide (b0' < b1') from decide_eq_decide.mpr (by omega)]
    simp only [bd1_r, b2i_0]
    by_cases q2 : b0' < b1'
    · rw [decide_eq_true q2]
      obtain ⟨ka, ta, v1, v2, v3, v4⟩ := hdA_f (F := F) hM2 q1
      rw [v3, v4]
      simp only [Bool.true_eq_false, if_false, if_true, bd1_r, z10, z00]
      obtain ⟨nb, d2, w1, w2, w3⟩ := skB_f (u := x) (v := y) (tm := ta) (c := mvs (mvs (tst c1 d1) na) 1) hF ho hr hM2 v1 v2
      rw [w2, q_sub (show b0' ≤ b1' by omega)]
      simp only [n1, w3, bd2_r]
      obtain ⟨y1, y2, y3, y4, y5, y6, y7, y8, y9, y10, y11, z1, z2, z3, z4, z4b, z5, z6, z7⟩ := y_l176_f (x := x) (y := y) (o := o) (rul := rul) (na := na) hF (show (tst (mvs (mvs (tst c1 d1) na) 1) d2) 10 = nI ln by rw [← hc3]; rfl) h hM2 (by omega) w1 q1
      exact ⟨y1, y2, y3, y4, y5, y6, y7, y8, y9, y10, y11, z1, z2, z3, z4, z4b.trans hc7, z5, z6, by omega⟩
    · rw [decide_eq_false q2]
      simp only [if_true]
      exact ⟨a0', a1', b0', b1', out2, ln, false, rowf2, key2, tag2, _, rfl, rfl, hM2, hc3, hc7, h, fun w => (Bool.false_ne_true w).elim, by omega⟩
  · rw [decide_eq_false q1]
    simp only [if_true]
    exact ⟨a0', a1', b0, b1, out1, ln, false, rowf1, key1, tag1, _, rfl, rfl, hM1, hc2, hc7, h, fun w => (Bool.false_ne_true w).elim, by omega⟩
theorem y_l176_b {F n o ln na nb a0 a1 b0 b1 out : Nat} {x : Int32 × Int32} {y : Int32} {rul rowf roomf key tag rK rT c : Nat → Int32} (hF : 1000 ≤ F) (hc : c 10 = nI ln) (h : 1 ≤ ln ∧ ln ≤ 9) (hM : MB n a0 a1 b0 b1 out rowf roomf key tag rK rT) (hna : na ≤ 96) (hnb : nb ≤ b1 - b0) (ha : a0 < a1) :
    ∃ (a0' a1' b0' b1' out' ln' : Nat) (fl : Bool) (rowf' key' tag' c' : Nat → Int32),
      (bd5 (mX2_take_m F (tI out) (-nI 1) rowf c (tI b1) (-nI 1) (nI (b1 - b0)) roomf (nI nb)) (fun mt rw tl eb lb => bd1 (mX2_bothAreLeft F (nI (a1 - a0)) lb) (fun r121 => if r121 = 0 then (bz (0 : Int32) (some ((0 : Int32), mt, rw, tl, tI a1, nI (a1 - a0), eb, lb))) else (bd5 (mX2_take_r F mt (-nI 1) rw tl (tI a1) (-nI 1) (nI (a1 - a0)) (1 : Int32)) (fun mt5 rw5 tl5 ea5 la5 => bd1 (mX2_bothAreLeft F la5 lb) (fun r139 => if r139 = 0 then (bz (0 : Int32) (some ((0 : Int32), mt5, rw5, tl5, ea5, la5, eb, lb))) else (bd2 (mX2_leapsOn F tl5 (if nI na < nI nb then nI nb else nI na)) (fun r151 tl6 => if r151 = 0 then (bz (0 : Int32) (some ((0 : Int32), mt5, rw5, tl6, ea5, la5, eb, lb))) else (bz (1 : Int32) (some ((1 : Int32), mt5, rw5, tl6, ea5, la5, eb, lb))))))))))) = some (b2i fl, tI out', rowf', c', tI a1', nI (a1' - a0'), tI b1', nI (b1' - b0')) ∧
      mX6_leaps_176 F (nI 0) rK rT (nI na) (nI nb) (nI a0) (nI a1) (nI b0) (nI b1) (tI out) key tag (ad x y c) = some (b2i fl, nI a0', nI a1', nI b0', nI b1', tI out', key', tag', ad x y c') ∧
      MB n a0' a1' b0' b1' out' rowf' roomf key' tag' rK rT ∧ c' 10 = nI ln' ∧ c' 7 = c 7 ∧ (1 ≤ ln' ∧ ln' ≤ 9) ∧ (fl = true → a0' < a1' ∧ b0' < b1') ∧ (a1' - a0') + (b1' - b0') ≤ (a1 - a0) + (b1 - b0) := by
  obtain ⟨b0', b1', out', rowf', key', tag', e1, e2, hM3, e3⟩ := stB_b (x := x) (y := y) (c := c) hF hM hnb
  have hM3' := hM3
  obtain ⟨g1, g2, g3, g4, g5, g6, -⟩ := hM3'
  have hM0 := hM
  obtain ⟨k1, k2, k3, k4, k5, k6, -⟩ := hM0
  have hcc : (mvs c nb) 10 = nI ln := by rw [← hc]; rfl
  unfold mX6_leaps_176
  rw [e1, e2]
  simp only [bd5_r, bd6_r]
  rw [e_both (by omega) (by omega), y_goes (by omega) (by omega) (by omega) (by omega), show decide (0 < a1 - a0 ∧ 0 < b1' - b0') = decide (b0' < b1') from decide_eq_decide.mpr (by omega), show decide (a0 < a1 ∧ b0' < b1') = decide (b0' < b1') from decide_eq_decide.mpr (by omega)]
  simp only [bd1_r, n0, n1, b2i_0, bz_0, bz_1]
  by_cases q1 : b0' < b1'
  · rw [decide_eq_true q1]
    simp only [Bool.true_eq_false, if_false]
    obtain ⟨a0', a1', out2, rowf2, key2, tag2, f1, f2, hM4, f3⟩ := stA_b (x := x) (y := y) (m := 1) (c := mvs c nb) hF hM3 (by omega)
    have hM4' := hM4
    obtain ⟨j1, j2, j3, j4, j5, j6, -⟩ := hM4'
    have hc4 : (mvs (mvs c nb) 1) 10 = nI ln := by rw [← hc]; rfl
    rw [f1, f2]
    simp only [bd5_r, bd6_r]
    rw [e_both (by omega) (by omega), y_goes (by omega) (by omega) (by omega) (by omega), show decide (0 < a1' - a0' ∧ 0 < b1' - b0') = decide (a0' < a1') from decide_eq_decide.mpr (by omega), show decide (a0' < a1' ∧ b0' < b1') = decide (a0' < a1') from decide_eq_decide.mpr (by omega)]
    simp only [bd1_r, b2i_0]
    by_cases q2 : a0' < a1'
    · rw [decide_eq_true q2, e_leapsOn hc4 h hna (by omega)]
      simp (disch := omega) only [Bool.true_eq_false, if_false, bd2_r, n10, q_ck, q_cl, ad_10, hc4, q_le, b2i_0]
      refine ⟨a0', a1', b0', b1', out2, lnx ln na nb, decide (ln ≤ na ∨ ln ≤ nb), rowf2, key2, tag2, upd (mvs (mvs c nb) 1) 10 (nI (lnx ln na nb)), ?_, ?_, hM4, upd_s, rfl, lnx_in h, fun _ => ⟨q2, q1⟩, by omega⟩
      · cases decide (ln ≤ na ∨ ln ≤ nb) <;> rfl
      · unfold lnx mX6_leaps_256 mX6_leaps_252 mX6_leaps_280
        simp (disch := omega) only [n0, n1, n9, n10, q_ck, q_cl, ad_10, hc4, q_le, bz_0, bz_1, nI_add, q_sub, Nat.sub_zero, Nat.add_zero, show ∀ v, upd (ad x y (mvs (mvs c nb) 1)) 10 v = ad x y (upd (mvs (mvs c nb) 1) 10 v) from fun v => ad_upd (by decide) (by decide) (by decide)]
        by_cases r1 : ln ≤ na
        · rw [if_pos r1, decide_eq_true (Or.inl r1), if_pos (Or.inl r1)]
          by_cases r3 : ln ≤ 1
          · rw [if_pos r3, if_pos r3, show ln = 1 by omega]; rfl
          · rw [if_neg r3, if_neg r3]; rfl
        · rw [if_neg r1]
          by_cases r2 : ln ≤ nb
          · rw [if_pos r2, decide_eq_true (Or.inr r2), if_pos (Or.inr r2)]
            by_cases r3 : ln ≤ 1
            · rw [if_pos r3, if_pos r3, show ln = 1 by omega]; rfl
            · rw [if_neg r3, if_neg r3]; rfl
          · rw [if_neg r2, decide_eq_false (show ¬ (ln ≤ na ∨ ln ≤ nb) by omega), if_neg (show ¬ (ln ≤ na ∨ ln ≤ nb) by omega)]
            by_cases r3 : 9 ≤ ln
            · rw [if_pos r3, if_pos r3, show ln = 9 by omega]; rfl
            · rw [if_neg r3, if_neg r3]; rfl
    · rw [decide_eq_false q2]
      simp only [if_true]
      exact ⟨a0', a1', b0', b1', out2, ln, false, rowf2, key2, tag2, mvs (mvs c nb) 1, rfl, rfl, hM4, hc4, rfl, h, fun w => (Bool.false_ne_true w).elim, by omega⟩
  · rw [decide_eq_false q1]
    simp only [if_true]
    exact ⟨a0, a1, b0', b1', out', ln, false, rowf', key', tag', mvs c nb, rfl, rfl, hM3, hcc, rfl, h, fun w => (Bool.false_ne_true w).elim, by omega⟩
set_option maxHeartbeats 4000000 in
/-- a round of leaps, b -/
theorem lp_b {F n o ln a0 a1 b0 b1 out : Nat} {x : Int32 × Int32} {y : Int32} {rul rowf roomf key tag rK rT c : Nat → Int32} (hF : 1000 ≤ F) (ho : o < 4) (hr : rul 0 = nI o) (hc : c 10 = nI ln) (h : 1 ≤ ln ∧ ln ≤ 9) (hM : MB n a0 a1 b0 b1 out rowf roomf key tag rK rT) (ha : a0 < a1) (hb : b0 < b1) :
    ∃ (a0' a1' b0' b1' out' ln' : Nat) (fl : Bool) (rowf' key' tag' c' : Nat → Int32),
      mX2_leapOneRound_b F (tI out) (-nI 1) rowf roomf c (nI o) (tI a1) (-nI 1) (nI (a1 - a0)) (tI b1) (-nI 1) (nI (b1 - b0)) = some (b2i fl, tI out', rowf', c', tI a1', nI (a1' - a0'), tI b1', nI (b1' - b0')) ∧
      mX6_leaps F (nI a0) (nI a1) (nI b0) (nI b1) (nI 0) (tI out) rul key tag rK rT (ad x y c) = some (b2i fl, nI a0', nI a1', nI b0', nI b1', tI out', key', tag', ad x y c') ∧
      MB n a0' a1' b0' b1' out' rowf' roomf key' tag' rK rT ∧ c' 10 = nI ln' ∧ c' 7 = c 7 ∧ (1 ≤ ln' ∧ ln' ≤ 9) ∧ (fl = true → a0' < a1' ∧ b0' < b1') ∧ (a1' - a0') + (b1' - b0') < (a1 - a0) + (b1 - b0) := by
  have hM0 := hM
  obtain ⟨k1, k2, k3, k4, k5, k6, -⟩ := hM0
  obtain ⟨kb, tb, p1, p2, p3, p4⟩ := hdB_b (F := F) hM hb
  unfold mX2_leapOneRound_b mX2_leapOneRound_b_12 mX6_leaps
  simp (disch := omega) only [n0, n1, n9, q_m0, z00, if_true, if_false, q_ck, q_cl, ad_9]
  rw [show upd (ad x y c) 9 (c 9 + nI 1) = ad x y (upd c 9 (c 9 + nI 1)) from ad_upd (by decide) (by decide) (by decide), e_add (by decide) (by decide), p3, p4]
  simp only [bd1_r, z10, z00, if_true, if_false]
  have hc1 : (upd c 9 (c 9 + nI 1)) 10 = nI ln := by rw [← hc]; rfl
  have hc7 : (upd c 9 (c 9 + nI 1)) 7 = c 7 := rfl
  generalize upd c 9 (c 9 + nI 1) = c1 at hc1 hc7 ⊢
  obtain ⟨na, d1, s1, s2, s3⟩ := skA_b (u := x) (v := y) (tm := tb) (c := c1) hF ho hr hM p1 p2
  unfold mX2_leapOneRound_b_49
  rw [s2, q_sub (show a0 ≤ a1 by omega)]
  simp only [n2, s3, bd2_r]
  have hc2 : (mvs (tst c1 d1) na) 10 = nI ln := by rw [← hc1]; rfl
  obtain ⟨a0', a1', out1, rowf1, key1, tag1, e1, e2, hM1, e3⟩ := stA_b (x := x) (y := y) (c := tst c1 d1) hF hM s1
  have hM1' := hM1
  obtain ⟨g1, g2, g3, g4, g5, g6, -⟩ := hM1'
  unfold mX6_leaps_79
  rw [e1, e2]
  simp only [bd5_r, bd6_r]
  rw [e_both (by omega) (by omega), y_goes (by omega) (by omega) (by omega) (by omega), show decide (0 < a1' - a0' ∧ 0 < b1 - b0) = decide (a0' < a1') from decide_eq_decide.mpr (by omega), show decide (a0' < a1' ∧ b0 < b1) = decide (a0' < a1') from decide_eq_decide.mpr (by omega)]
  simp only [bd1_r, n0, n1, b2i_0, bz_0, bz_1]
  by_cases q1 : a0' < a1'
  · rw [decide_eq_true q1]
    simp only [Bool.true_eq_false, if_false]
    obtain ⟨b0', b1', out2, rowf2, key2, tag2, f1, f2, hM2, f3⟩ := stB_b (x := x) (y := y) (m := 1) (c := mvs (tst c1 d1) na) hF hM1 (by omega)
    have hM2' := hM2
    obtain ⟨j1, j2, j3, j4, j5, j6, -⟩ := hM2'
    have hc3 : (mvs (mvs (tst c1 d1) na) 1) 10 = nI ln := by rw [← hc1]; rfl
    rw [f1, f2]
    simp only [bd5_r, bd6_r]
    rw [e_both (by omega) (by omega), y_goes (by omega) (by omega) (by omega) (by omega), show decide (0 < a1' - a0' ∧ 0 < b1' - b0') = decide (b0' < b1') from decide_eq_decide.mpr (by omega), show decide (a0' < a1' ∧ b0' < b1') = decide (b0' < b1') from decide_eq_decide.mpr (by omega)]
    simp only [bd1_r, b2i_0]
    by_cases q2 : b0' < b1'
    · rw [decide_eq_true q2]
      obtain ⟨ka, ta, v1, v2, v3, v4⟩ := hdA_b (F := F) hM2 q1
      rw [v3, v4]
      simp only [Bool.true_eq_false, if_false, if_true, bd1_r, z10, z00]
      obtain ⟨nb, d2, w1, w2, w3⟩ := skB_b (u := x) (v := y) (tm := ta) (c := mvs (mvs (tst c1 d1) na) 1) hF ho hr hM2 v1 v2
      rw [w2, q_sub (show b0' ≤ b1' by omega)]
      simp only [n3, w3, bd2_r]
      obtain ⟨y1, y2, y3, y4, y5, y6, y7, y8, y9, y10, y11, z1, z2, z3, z4, z4b, z5, z6, z7⟩ := y_l176_b (x := x) (y := y) (o := o) (rul := rul) (na := na) hF (show (tst (mvs (mvs (tst c1 d1) na) 1) d2) 10 = nI ln by rw [← hc3]; rfl) h hM2 (by omega) w1 q1
      exact ⟨y1, y2, y3, y4, y5, y6, y7, y8, y9, y10, y11, z1, z2, z3, z4, z4b.trans hc7, z5, z6, by omega⟩
    · rw [decide_eq_false q2]
      simp only [if_true]
      exact ⟨a0', a1', b0', b1', out2, ln, false, rowf2, key2, tag2, _, rfl, rfl, hM2, hc3, hc7, h, fun w => (Bool.false_ne_true w).elim, by omega⟩
  · rw [decide_eq_false q1]
    simp only [if_true]
    exact ⟨a0', a1', b0, b1, out1, ln, false, rowf1, key1, tag1, _, rfl, rfl, hM1, hc2, hc7, h, fun w => (Bool.false_ne_true w).elim, by omega⟩
