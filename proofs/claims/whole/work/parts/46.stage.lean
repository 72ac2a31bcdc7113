/-! what a round of leaps is made of -/
theorem stA_f {F n a0 a1 b0 b1 out m : Nat} {x : Int32 × Int32} {y : Int32} {rowf roomf key tag rK rT c : Nat → Int32} (hF : 1000 ≤ F) (hM : MF n a0 a1 b0 b1 out rowf roomf key tag rK rT) (hm : m ≤ a1 - a0) : ∃ (a0' a1' out' : Nat) (rowf' key' tag' : Nat → Int32),
    mX2_take_m F (nI out) (nI 1) rowf c (nI a0) (nI 1) (nI (a1 - a0)) roomf (nI m) = some (nI out', rowf', mvs c m, nI a0', nI (a1' - a0')) ∧ mX6_takeA F (nI a0) (nI a1) (nI 1) (nI out) key tag rK rT (ad x y c) (nI m) = some (nI a0', nI a1', nI out', key', tag', ad x y (mvs c m)) ∧ MF n a0' a1' b0 b1 out' rowf' roomf key' tag' rK rT ∧ a1' - a0' = a1 - a0 - m := by
  have hM' := hM
  obtain ⟨h1, h2, h3, h4, h5, h6, -⟩ := hM'
  refine ⟨a0 + m, a1, out + m, _, _, _, ?_, by rw [y_tkA_f hF (by omega) (by omega), ad_mvs], hM.A hm, by omega⟩
  rw [e_tkA_f hF (by omega) (by omega) hm, show a1 - (a0 + m) = a1 - a0 - m by omega]
theorem stB_f {F n a0 a1 b0 b1 out m : Nat} {x : Int32 × Int32} {y : Int32} {rowf roomf key tag rK rT c : Nat → Int32} (hF : 1000 ≤ F) (hM : MF n a0 a1 b0 b1 out rowf roomf key tag rK rT) (hm : m ≤ b1 - b0) : ∃ (b0' b1' out' : Nat) (rowf' key' tag' : Nat → Int32),
    mX2_take_r F (nI out) (nI 1) rowf c (nI b0) (nI 1) (nI (b1 - b0)) (nI m) = some (nI out', rowf', mvs c m, nI b0', nI (b1' - b0')) ∧ mX6_takeB F (nI b0) (nI b1) (nI 1) (nI out) key tag rK rT (ad x y c) (nI m) = some (nI b0', nI b1', nI out', key', tag', ad x y (mvs c m)) ∧ MF n a0 a1 b0' b1' out' rowf' roomf key' tag' rK rT ∧ b1' - b0' = b1 - b0 - m := by
  have hM' := hM
  obtain ⟨h1, h2, h3, h4, h5, h6, -⟩ := hM'
  refine ⟨b0 + m, b1, out + m, _, _, _, ?_, by rw [y_tkB_f hF (by omega) (by omega), ad_mvs], hM.B hm, by omega⟩
  rw [e_tkB_f hF (by omega) (by omega) hm, show b1 - (b0 + m) = b1 - b0 - m by omega]
theorem stA_b {F n a0 a1 b0 b1 out m : Nat} {x : Int32 × Int32} {y : Int32} {rowf roomf key tag rK rT c : Nat → Int32} (hF : 1000 ≤ F) (hM : MB n a0 a1 b0 b1 out rowf roomf key tag rK rT) (hm : m ≤ a1 - a0) : ∃ (a0' a1' out' : Nat) (rowf' key' tag' : Nat → Int32),
    mX2_take_r F (tI out) (-nI 1) rowf c (tI a1) (-nI 1) (nI (a1 - a0)) (nI m) = some (tI out', rowf', mvs c m, tI a1', nI (a1' - a0')) ∧ mX6_takeA F (nI a0) (nI a1) (nI 0) (tI out) key tag rK rT (ad x y c) (nI m) = some (nI a0', nI a1', tI out', key', tag', ad x y (mvs c m)) ∧ MB n a0' a1' b0 b1 out' rowf' roomf key' tag' rK rT ∧ a1' - a0' = a1 - a0 - m := by
  have hM' := hM
  obtain ⟨h1, h2, h3, h4, h5, h6, -⟩ := hM'
  refine ⟨a0, a1 - m, out - m, _, _, _, ?_, by rw [y_tkA_b hF (by omega) (by omega) (by omega), ad_mvs], hM.A hm, by omega⟩
  rw [e_tkA_b hF (by omega) (by omega) hm (by omega), show a1 - m - a0 = a1 - a0 - m by omega]
theorem stB_b {F n a0 a1 b0 b1 out m : Nat} {x : Int32 × Int32} {y : Int32} {rowf roomf key tag rK rT c : Nat → Int32} (hF : 1000 ≤ F) (hM : MB n a0 a1 b0 b1 out rowf roomf key tag rK rT) (hm : m ≤ b1 - b0) : ∃ (b0' b1' out' : Nat) (rowf' key' tag' : Nat → Int32),
    mX2_take_m F (tI out) (-nI 1) rowf c (tI b1) (-nI 1) (nI (b1 - b0)) roomf (nI m) = some (tI out', rowf', mvs c m, tI b1', nI (b1' - b0')) ∧ mX6_takeB F (nI b0) (nI b1) (nI 0) (tI out) key tag rK rT (ad x y c) (nI m) = some (nI b0', nI b1', tI out', key', tag', ad x y (mvs c m)) ∧ MB n a0 a1 b0' b1' out' rowf' roomf key' tag' rK rT ∧ b1' - b0' = b1 - b0 - m := by
  have hM' := hM
  obtain ⟨h1, h2, h3, h4, h5, h6, -⟩ := hM'
  refine ⟨b0, b1 - m, out - m, _, _, _, ?_, by rw [y_tkB_b hF (by omega) (by omega) (by omega) (by omega), ad_mvs], hM.B hm, by omega⟩
  rw [e_tkB_b hF (by omega) (by omega) hm (by omega) (by omega), show b1 - m - b0 = b1 - b0 - m by omega]
/-! heads -/
theorem hdA_f {F n a0 a1 b0 b1 out : Nat} {rowf roomf key tag rK rT : Nat → Int32} (hM : MF n a0 a1 b0 b1 out rowf roomf key tag rK rT) (h : a0 < a1) : ∃ k t : Nat, k < 26 ∧ t < 96 ∧ mX4_ahead F 48 (nI a0) (nI 1) roomf (nI 0) = some (nI (t * 26 + k)) ∧ mX6_keyA F (nI 1) key rK (nI a0) = some (nI k) := by
  obtain ⟨h1, h2, h3, h4, h5, h6, h7, h8, -⟩ := hM
  obtain ⟨k, t, p1, p2, p3, p4, -⟩ := h8 a0 (by omega) h
  exact ⟨k, t, p1, by omega, by rw [e_ahead (by omega) (by decide), Nat.add_zero, p3], by rw [y_keyA_f (by omega), p4]⟩
theorem hdB_f {F n a0 a1 b0 b1 out : Nat} {rowf roomf key tag rK rT : Nat → Int32} (hM : MF n a0 a1 b0 b1 out rowf roomf key tag rK rT) (h : b0 < b1) : ∃ k t : Nat, k < 26 ∧ t < 96 ∧ mX4_ahead F 96 (nI b0) (nI 1) rowf (nI 0) = some (nI (t * 26 + k)) ∧ mX6_keyB F (nI 1) key rK (nI b0) = some (nI k) := by
  obtain ⟨h1, h2, h3, h4, h5, h6, h7, h8, -⟩ := hM
  obtain ⟨k, t, p1, p2, p3, p4, -⟩ := h7 b0 (by omega)
  exact ⟨k, t, p1, by omega, by rw [e_ahead (by omega) (by decide), Nat.add_zero, p3], by rw [y_keyB_f (by omega), p4]⟩
theorem hdA_b {F n a0 a1 b0 b1 out : Nat} {rowf roomf key tag rK rT : Nat → Int32} (hM : MB n a0 a1 b0 b1 out rowf roomf key tag rK rT) (h : a0 < a1) : ∃ k t : Nat, k < 26 ∧ t < 96 ∧ mX4_ahead F 96 (tI a1) (-nI 1) rowf (nI 0) = some (nI (t * 26 + k)) ∧ mX6_keyA F (nI 0) key rK (nI a1 - nI 1) = some (nI k) := by
  obtain ⟨h1, h2, h3, h4, h5, h6, h7, h8, -⟩ := hM
  obtain ⟨k, t, p1, p2, p3, p4, -⟩ := h7 (a1 - 1) (by omega)
  exact ⟨k, t, p1, by omega, by rw [e_aheadB (by omega) (by omega) (by decide), Nat.sub_zero, p3], by rw [q_sub (by omega), y_keyA_b (by omega), p4]⟩
theorem hdB_b {F n a0 a1 b0 b1 out : Nat} {rowf roomf key tag rK rT : Nat → Int32} (hM : MB n a0 a1 b0 b1 out rowf roomf key tag rK rT) (h : b0 < b1) : ∃ k t : Nat, k < 26 ∧ t < 96 ∧ mX4_ahead F 48 (tI b1) (-nI 1) roomf (nI 0) = some (nI (t * 26 + k)) ∧ mX6_keyB F (nI 0) key rK (nI b1 - nI 1) = some (nI k) := by
  obtain ⟨h1, h2, h3, h4, h5, h6, h7, h8, -⟩ := hM
  obtain ⟨k, t, p1, p2, p3, p4, -⟩ := h8 (b1 - 1) (by omega) (by omega)
  exact ⟨k, t, p1, by omega, by rw [e_aheadB (by omega) (by omega) (by decide), Nat.sub_zero, p3], by rw [q_sub (by omega), y_keyB_b (by omega), p4]⟩
/-! the seeks of a round -/
theorem skA_f {F n o km tm a0 a1 b0 b1 out : Nat} {u : Int32 × Int32} {v : Int32} {rul rowf roomf key tag rK rT c : Nat → Int32} (hF : 1000 ≤ F) (ho : o < 4) (hr : rul 0 = nI o) (hM : MF n a0 a1 b0 b1 out rowf roomf key tag rK rT) (h1 : km < 26) (h2 : tm < 96) : ∃ x d : Nat, x ≤ a1 - a0 ∧ mX1_passing F 48 (nI o) c (nI a0) (nI 1) (nI (a1 - a0)) roomf (nI (tm * 26 + km)) (nI 1) (nI 0) = some (nI x, tst c d) ∧ mX6_seeks F (nI 1) rul key rK (ad u v c) (nI 0) (nI a0) (nI 1) (nI (a1 - a0)) (nI km) = some (nI x, ad u v (tst c d)) := by
  obtain ⟨p1, p2, p3, p4, p5, p6, p7, p8, -⟩ := hM
  refine ⟨(sk (fun i => pas o km true false (ky rK (a0 + i))) (a1 - a0)).1, (sk (fun i => pas o km true false (ky rK (a0 + i))) (a1 - a0)).2, sk_le _ _, ?_, ?_⟩
  · refine e_passing (one := true) (wt := false) (kf := fun i => ky rK (a0 + i)) hF ho h1 h2 (by omega) (fun i hi => ?_)
    obtain ⟨t, q1, q2, q3, -⟩ := (p8 (a0 + i) (by omega) (by omega)).get
    exact ⟨t, by omega, q2, by rw [e_ahead (by omega) (by decide), q3]⟩
  · rw [← ad_tst]
    refine y_seeks hF (by omega) (fun i hi c => ?_)
    obtain ⟨t, q1, q2, q3, q4, -⟩ := (p8 (a0 + i) (by omega) (by omega)).get
    rw [pk_mul, nI_add, Nat.one_mul]
    exact y_p0 hr ho h1 q2 (by omega) q4
theorem skB_f {F n o km tm a0 a1 b0 b1 out : Nat} {u : Int32 × Int32} {v : Int32} {rul rowf roomf key tag rK rT c : Nat → Int32} (hF : 1000 ≤ F) (ho : o < 4) (hr : rul 0 = nI o) (hM : MF n a0 a1 b0 b1 out rowf roomf key tag rK rT) (h1 : km < 26) (h2 : tm < 96) : ∃ x d : Nat, x ≤ b1 - b0 ∧ mX1_passing F 96 (nI o) c (nI b0) (nI 1) (nI (b1 - b0)) rowf (nI (tm * 26 + km)) (nI 0) (nI 1) = some (nI x, tst c d) ∧ mX6_seeks F (nI 1) rul key rK (ad u v c) (nI 1) (nI b0) (nI 1) (nI (b1 - b0)) (nI km) = some (nI x, ad u v (tst c d)) := by
  obtain ⟨p1, p2, p3, p4, p5, p6, p7, p8, -⟩ := hM
  refine ⟨(sk (fun i => pas o km false true (ky key (b0 + i))) (b1 - b0)).1, (sk (fun i => pas o km false true (ky key (b0 + i))) (b1 - b0)).2, sk_le _ _, ?_, ?_⟩
  · refine e_passing (one := false) (wt := true) (kf := fun i => ky key (b0 + i)) hF ho h1 h2 (by omega) (fun i hi => ?_)
    obtain ⟨t, q1, q2, q3, -⟩ := (p7 (b0 + i) (by omega)).get
    exact ⟨t, by omega, q2, by rw [e_ahead (by omega) (by decide), q3]⟩
  · rw [← ad_tst]
    refine y_seeks hF (by omega) (fun i hi c => ?_)
    obtain ⟨t, q1, q2, q3, q4, -⟩ := (p7 (b0 + i) (by omega)).get
    rw [pk_mul, nI_add, Nat.one_mul]
    exact y_p1 hr ho h1 q2 (by omega) q4
theorem skA_b {F n o km tm a0 a1 b0 b1 out : Nat} {u : Int32 × Int32} {v : Int32} {rul rowf roomf key tag rK rT c : Nat → Int32} (hF : 1000 ≤ F) (ho : o < 4) (hr : rul 0 = nI o) (hM : MB n a0 a1 b0 b1 out rowf roomf key tag rK rT) (h1 : km < 26) (h2 : tm < 96) : ∃ x d : Nat, x ≤ a1 - a0 ∧ mX1_passing F 96 (nI o) c (tI a1) (-nI 1) (nI (a1 - a0)) rowf (nI (tm * 26 + km)) (nI 1) (nI 1) = some (nI x, tst c d) ∧ mX6_seeks F (nI 0) rul key rK (ad u v c) (nI 2) (nI a1 - nI 1) (-nI 1) (nI (a1 - a0)) (nI km) = some (nI x, ad u v (tst c d)) := by
  obtain ⟨p1, p2, p3, p4, p5, p6, p7, p8, -⟩ := hM
  refine ⟨(sk (fun i => pas o km true true (ky key (a1 - 1 - i))) (a1 - a0)).1, (sk (fun i => pas o km true true (ky key (a1 - 1 - i))) (a1 - a0)).2, sk_le _ _, ?_, ?_⟩
  · refine e_passing (one := true) (wt := true) (kf := fun i => ky key (a1 - 1 - i)) hF ho h1 h2 (by omega) (fun i hi => ?_)
    obtain ⟨t, q1, q2, q3, -⟩ := (p7 (a1 - 1 - i) (by omega)).get
    exact ⟨t, by omega, q2, by rw [e_aheadB (by omega) (by omega) (by decide), q3]⟩
  · rw [← ad_tst]
    refine y_seeks hF (by omega) (fun i hi c => ?_)
    obtain ⟨t, q1, q2, q3, q4, -⟩ := (p7 (a1 - 1 - i) (by omega)).get
    have e : nI a1 - nI 1 + -nI 1 * nI i = nI (a1 - 1 - i) := tI_i (by omega)
    rw [e]
    exact y_p2 hr ho h1 q2 (by omega) q4
theorem skB_b {F n o km tm a0 a1 b0 b1 out : Nat} {u : Int32 × Int32} {v : Int32} {rul rowf roomf key tag rK rT c : Nat → Int32} (hF : 1000 ≤ F) (ho : o < 4) (hr : rul 0 = nI o) (hM : MB n a0 a1 b0 b1 out rowf roomf key tag rK rT) (h1 : km < 26) (h2 : tm < 96) : ∃ x d : Nat, x ≤ b1 - b0 ∧ mX1_passing F 48 (nI o) c (tI b1) (-nI 1) (nI (b1 - b0)) roomf (nI (tm * 26 + km)) (nI 0) (nI 0) = some (nI x, tst c d) ∧ mX6_seeks F (nI 0) rul key rK (ad u v c) (nI 3) (nI b1 - nI 1) (-nI 1) (nI (b1 - b0)) (nI km) = some (nI x, ad u v (tst c d)) := by
  obtain ⟨p1, p2, p3, p4, p5, p6, p7, p8, -⟩ := hM
  refine ⟨(sk (fun i => pas o km false false (ky rK (b1 - 1 - i))) (b1 - b0)).1, (sk (fun i => pas o km false false (ky rK (b1 - 1 - i))) (b1 - b0)).2, sk_le _ _, ?_, ?_⟩
  · refine e_passing (one := false) (wt := false) (kf := fun i => ky rK (b1 - 1 - i)) hF ho h1 h2 (by omega) (fun i hi => ?_)
    obtain ⟨t, q1, q2, q3, -⟩ := (p8 (b1 - 1 - i) (by omega) (by omega)).get
    exact ⟨t, by omega, q2, by rw [e_aheadB (by omega) (by omega) (by decide), q3]⟩
  · rw [← ad_tst]
    refine y_seeks hF (by omega) (fun i hi c => ?_)
    obtain ⟨t, q1, q2, q3, q4, -⟩ := (p8 (b1 - 1 - i) (by omega) (by omega)).get
    have e : nI b1 - nI 1 + -nI 1 * nI i = nI (b1 - 1 - i) := tI_i (by omega)
    rw [e]
    exact y_p3 hr ho h1 q2 (by omega) q4
/-! LEAP NOW behind a round -/
def lnx (ln x y : Nat) : Nat := if ln ≤ x ∨ ln ≤ y then (if ln ≤ 1 then 1 else ln - 1) else (if 9 ≤ ln then 9 else ln + 1)
theorem lnx_in {ln x y : Nat} (h : 1 ≤ ln ∧ ln ≤ 9) : 1 ≤ lnx ln x y ∧ lnx ln x y ≤ 9 := by
  unfold lnx
  by_cases q : ln ≤ x ∨ ln ≤ y
  · rw [if_pos q]; split <;> omega
  · rw [if_neg q]; split <;> omega
theorem nine {ln : Nat} (h : 1 ≤ ln ∧ ln ≤ 9) : ln = 1 ∨ ln = 2 ∨ ln = 3 ∨ ln = 4 ∨ ln = 5 ∨ ln = 6 ∨ ln = 7 ∨ ln = 8 ∨ ln = 9 := by omega
theorem e_lo34 {F ln : Nat} {c : Nat → Int32} (h : 1 ≤ ln ∧ ln ≤ 9) : mX2_leapsOn_34 F (nI 1) (nI ln - nI 1) c = some (nI 1, upd c 10 (nI (if ln ≤ 1 then 1 else ln - 1))) ∧ mX2_leapsOn_34 F (nI 0) (nI ln + nI 1) c = some (nI 0, upd c 10 (nI (if 9 ≤ ln then 9 else ln + 1))) := by
  unfold mX2_leapsOn_34
  rw [n3, n10, q_ck (by decide) (by decide), q_ck (by decide) (by decide), e_fill (by decide) (by decide), q_ck (by decide) (by decide), q_ck (by decide) (by decide), e_fill (by decide) (by decide)]
  rcases nine h with rfl | rfl | rfl | rfl | rfl | rfl | rfl | rfl | rfl <;> exact ⟨rfl, rfl⟩
theorem e_leapsOn {F ln x y : Nat} {c : Nat → Int32} (hc : c 10 = nI ln) (h : 1 ≤ ln ∧ ln ≤ 9) (hx : x ≤ 96) (hy : y ≤ 96) : mX2_leapsOn F c (if nI x < nI y then nI y else nI x) = some (b2i (decide (ln ≤ x ∨ ln ≤ y)), upd c 10 (nI (lnx ln x y))) := by
  have e : (if nI x < nI y then nI y else nI x) = nI (if x < y then y else x) := by
    simp (disch := omega) only [q_lt]; split <;> rfl
  rw [e]
  have hz : (if x < y then y else x) ≤ 96 := by split <;> omega
  have hq : (ln ≤ x ∨ ln ≤ y) ↔ ln ≤ (if x < y then y else x) := by split <;> omega
  generalize (if x < y then y else x) = z at hz hq
  unfold mX2_leapsOn mX2_leapsOn_20
  rw [n10, e_look (by decide) (by decide), hc]
  simp (disch := omega) only [bd1_r, n0, n1, q_lt, z10, z00, if_true, if_false]
  unfold lnx
  by_cases q : ln ≤ z
  · rw [if_neg (by omega), if_pos (hq.mpr q), (e_lo34 h).1, decide_eq_true (hq.mpr q)]; rfl
  · rw [if_pos (by omega), if_neg (fun w => q (hq.mp w)), (e_lo34 h).2, decide_eq_false (fun w => q (hq.mp w))]; rfl
