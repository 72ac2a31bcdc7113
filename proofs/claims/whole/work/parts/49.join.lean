/-! MERGES -/
/-- what a merge leaves: by the class X, by the reference Y -/
def JR (n : Nat) (X : Option (Int32 × Int32 × (Nat → Int32) × (Nat → Int32) × (Nat → Int32) × Nat × Int32 × Int32 × Int32 × Nat × Int32 × Int32 × Int32)) (Y : Option (Int32 × Int32 × Int32 × Int32 × Int32 × Int32 × (Nat → Int32) × (Nat → Int32) × (Nat → Int32) × (Nat → Int32) × (Nat → Int32))) (x : Int32 × Int32) (y : Int32) : Prop :=
  ∃ (m1 m2 : Int32) (rowf' roomf' c' : Nat → Int32) (ra : Nat) (e1 e2 e3 : Int32) (rb : Nat) (g1 g2 g3 v1 v2 v3 v4 v5 v6 : Int32) (key' tag' rK' rT' : Nat → Int32) (ln m7 : Nat), X = some (m1, m2, rowf', roomf', c', ra, e1, e2, e3, rb, g1, g2, g3) ∧ Y = some (v1, v2, v3, v4, v5, v6, key', tag', rK', rT', ad x y c') ∧ (∀ i, i < n → PK n rowf' key' tag' i) ∧ (∀ t, t < n → ∃ i, i < n ∧ tag' i = nI t) ∧ c' 10 = nI ln ∧ (1 ≤ ln ∧ ln ≤ 9) ∧ c' 7 = nI m7 ∧ m7 ≤ 96
/-- the end of a merge, f -/
theorem jend_f {F n rowo roomo f g ln m7 a0 a1 b0 b1 out x6 : Nat} {jo : Int32} {u : Int32 × Int32} {v : Int32} {lp : Bool} {rul rowf roomf key tag rK rT c : Nat → Int32} (hF : 1000 ≤ F) (hM : MF n a0 a1 b0 b1 out rowf roomf key tag rK rT) (hb : ¬ (a0 < a1 ∧ b0 < b1)) (hc : c 10 = nI ln) (hln : 1 ≤ ln ∧ ln ≤ 9) (h7 : c 7 = nI m7) (hm7 : m7 ≤ 96) (hx : x6 ≤ 96) :
    JR n (mX2_join_61 F rowo roomo jo (f + 1) (nI 1) (b2i lp) (nI x6) (nI out) (nI 1) rowf roomf c (nI a0) (nI 1) (nI (a1 - a0)) (nI b0) (nI 1) (nI (b1 - b0))) (mX6_merge_353 F rul (g + 1) (nI a0) (nI a1) (nI b0) (nI b1) (nI 1) (nI out) key tag rK rT (ad u v c)) u v := by
  have hM' := hM
  obtain ⟨h1, h2, h3, h4, h5, h6, -⟩ := hM'
  obtain ⟨a0', b0', out', rowf', key', tag', e1, e2, hM3, e3⟩ := stA_f (x := u) (y := v) (m := a1 - a0) (c := c) hF hM (Nat.le_refl _)
  have hx99 : mX2_join_61 F rowo roomo jo (f + 1) (nI 1) (b2i lp) (nI x6) (nI out) (nI 1) rowf roomf c (nI a0) (nI 1) (nI (a1 - a0)) (nI b0) (nI 1) (nI (b1 - b0)) = mX2_join_99 F rowo roomo (nI 1) (nI out) (nI 1) rowf roomf c (nI a0) (nI 1) (nI (a1 - a0)) (nI b0) (nI 1) (nI (b1 - b0)) := by
    rw [mX2_join_61]
    simp (disch := omega) only [n96, n0, q_le]
    by_cases q : 96 ≤ x6
    · rw [if_pos q]
    · rw [if_neg q, e_both (by omega) (by omega), show decide (0 < a1 - a0 ∧ 0 < b1 - b0) = false from decide_eq_false (by omega)]
      simp only [bd1_r, b2i_0, if_true]
  rw [hx99, mX6_merge_353, y_goes (by omega) (by omega) (by omega) (by omega), decide_eq_false hb]
  unfold mX2_join_99 mX2_join_115a
  simp only [bd1_r, n0, b2i_0, if_true, if_false, z10]
  rw [q_sub (show a0 ≤ a1 by omega), e1, e2]
  simp only [bd5_r, bd6_r]
  obtain ⟨g1, g2, g3, g4, g5, g6, g7, g8, g9⟩ := hM3
  refine ⟨_, _, rowf', roomf, mvs c (a1 - a0), _, _, _, _, _, _, _, _, _, _, _, _, _, _, key', tag', rK, rT, ln, m7, rfl, rfl, g7, fun t ht => ?_, hc, hln, h7, hm7⟩
  rcases g9 t ht with ⟨i, q1, q2⟩ | ⟨i, q1, q2, q3⟩ | ⟨i, q1, q2, q3⟩
  · exact ⟨i, by omega, q2⟩
  · omega
  · exact ⟨i, q2, q3⟩
set_option maxHeartbeats 4000000 in
/-- the merge's loops, f -/
theorem jlp_f {F n o rowo roomo m7 : Nat} {u : Int32 × Int32} {v : Int32} {rul roomf rK rT : Nat → Int32} (hF : 1000 ≤ F) (ho : o < 4) (hr : rul 0 = nI o) (hm7 : m7 ≤ 96) : ∀ (N f g a0 a1 b0 b1 out x6 ln : Nat) (rowf key tag c : Nat → Int32), MF n a0 a1 b0 b1 out rowf roomf key tag rK rT → c 10 = nI ln → 1 ≤ ln ∧ ln ≤ 9 → c 7 = nI m7 → (a1 - a0) + (b1 - b0) ≤ N → N < f → N < g → N < F → x6 + ((a1 - a0) + (b1 - b0)) ≤ 96 →
    JR n (mX2_join_61 F rowo roomo (nI o) f (nI 1) (b2i false) (nI x6) (nI out) (nI 1) rowf roomf c (nI a0) (nI 1) (nI (a1 - a0)) (nI b0) (nI 1) (nI (b1 - b0))) (mX6_merge_353 F rul g (nI a0) (nI a1) (nI b0) (nI b1) (nI 1) (nI out) key tag rK rT (ad u v c)) u v ∧
    (a0 < a1 → b0 < b1 → ∀ h : Nat, N < h → JR n (mX2_join_61 F rowo roomo (nI o) f (nI 1) (b2i true) (nI x6) (nI out) (nI 1) rowf roomf c (nI a0) (nI 1) (nI (a1 - a0)) (nI b0) (nI 1) (nI (b1 - b0))) (mX6_merge_370 F rul (fun p0 p1 p2 p3 p4 p5 p6 p7 p8 p9 p10 => mX6_merge_353 F rul g p0 p1 p2 p3 p4 p5 p6 p7 p8 p9 p10) h (nI 1) (nI a0) (nI a1) (nI b0) (nI b1) (nI 1) (nI out) key tag rK rT (ad u v c)) u v) := by
  intro N
  induction N with
  | zero =>
    intro f g a0 a1 b0 b1 out x6 ln rowf key tag c hM hc hln h7 hN hf hg hNF hx
    obtain ⟨f, rfl⟩ : ∃ f', f = f' + 1 := ⟨f - 1, by omega⟩
    obtain ⟨g, rfl⟩ : ∃ g', g = g' + 1 := ⟨g - 1, by omega⟩
    exact ⟨jend_f hF hM (by omega) hc hln h7 hm7 (by omega), fun p q => by omega⟩
  | succ N ih =>
    intro f g a0 a1 b0 b1 out x6 ln rowf key tag c hM hc hln h7 hN hf hg hNF hx
    obtain ⟨f, rfl⟩ : ∃ f', f = f' + 1 := ⟨f - 1, by omega⟩
    obtain ⟨g, rfl⟩ : ∃ g', g = g' + 1 := ⟨g - 1, by omega⟩
    have hM' := hM
    obtain ⟨h1, h2, h3, h4, h5, h6, -⟩ := hM'
    constructor
    · by_cases hb : a0 < a1 ∧ b0 < b1
      · obtain ⟨a0', a1', b0', b1', out', fl, rowf', key', tag', c', s1, s2, s3, s4, s5, s6⟩ := sgl_f (x := u) (y := v) hF ho hr hc hln hM
        have s6 := s6 hb.1 hb.2
        have s3' := s3
        obtain ⟨j1, j2, j3, j4, j5, j6, -⟩ := s3'
        have hc' : c' 10 = nI ln := by rw [s4 10 (by decide), hc]
        have h7' : c' 7 = nI m7 := by rw [s4 7 (by decide), h7]
        rw [mX2_join_61, mX6_merge_353, y_goes (by omega) (by omega) (by omega) (by omega), decide_eq_true hb]
        simp (disch := omega) only [n96, n0, n1, q_le, bd1_r, b2i_0, Bool.true_eq_false, if_false, if_true]
        rw [if_neg (show ¬ 96 ≤ x6 by omega), e_both (by omega) (by omega), show decide (0 < a1 - a0 ∧ 0 < b1 - b0) = true from decide_eq_true (by omega)]
        simp only [bd1_r, b2i_0, Bool.true_eq_false, if_false, s1, s2, bd8_r, nI_add]
        rw [y_goes (by omega) (by omega) (by omega) (by omega)]
        simp only [bd1_r]
        obtain ⟨Fm, hFm⟩ : ∃ Fm, F = Fm + 1 := ⟨F - 1, by omega⟩
        by_cases hb2 : a0' < a1' ∧ b0' < b1'
        · rw [decide_eq_true hb2, s5 hb2.1 hb2.2]
          exact (ih f g a0' a1' b0' b1' out' (x6 + 1) ln rowf' key' tag' c' s3 hc' hln h7' (by omega) (by omega) (by omega) (by omega) (by omega)).2 hb2.1 hb2.2 F (by omega)
        · rw [decide_eq_false hb2]
          have e370 : ∀ (K : Int32 → Int32 → Int32 → Int32 → Int32 → Int32 → (Nat → Int32) → (Nat → Int32) → (Nat → Int32) → (Nat → Int32) → (Nat → Int32) → Option (Int32 × Int32 × Int32 × Int32 × Int32 × Int32 × (Nat → Int32) × (Nat → Int32) × (Nat → Int32) × (Nat → Int32) × (Nat → Int32))) (v1 v2 v3 v4 v5 v6 : Int32) (w1 w2 w3 w4 w5 : Nat → Int32), mX6_merge_370 F rul K F (b2i false) v1 v2 v3 v4 v5 v6 w1 w2 w3 w4 w5 = K v1 v2 v3 v4 v5 v6 w1 w2 w3 w4 w5 := by
            intro K v1 v2 v3 v4 v5 v6 w1 w2 w3 w4 w5
            have e : ∀ k, mX6_merge_370 F rul K (k + 1) (b2i false) v1 v2 v3 v4 v5 v6 w1 w2 w3 w4 w5 = K v1 v2 v3 v4 v5 v6 w1 w2 w3 w4 w5 := fun k => rfl
            obtain ⟨k, hk⟩ : ∃ k, F = k + 1 := ⟨F - 1, by omega⟩
            have e2 := e k
            rw [← hk] at e2
            exact e2
          rw [e370]
          obtain ⟨f, rfl⟩ : ∃ f', f = f' + 1 := ⟨f - 1, by omega⟩
          obtain ⟨g, rfl⟩ : ∃ g', g = g' + 1 := ⟨g - 1, by omega⟩
          exact jend_f hF s3 hb2 hc' hln h7' hm7 (by omega)
      · exact jend_f hF hM hb hc hln h7 hm7 (by omega)
    · intro ha hb h hh
      obtain ⟨h, rfl⟩ : ∃ h', h = h' + 1 := ⟨h - 1, by omega⟩
      obtain ⟨a0', a1', b0', b1', out', ln', fl, rowf', key', tag', c', s1, s2, s3, s4, s4b, s5, s6, s7⟩ := lp_f (x := u) (y := v) hF ho hr hc hln hM ha hb
      have s3' := s3
      obtain ⟨j1, j2, j3, j4, j5, j6, -⟩ := s3'
      have h7' : c' 7 = nI m7 := by rw [s4b, h7]
      rw [mX2_join_61, mX6_merge_370]
      simp (disch := omega) only [n96, n0, n1, q_le, z10, if_false]
      rw [if_neg (show ¬ 96 ≤ x6 by omega), e_both (by omega) (by omega), show decide (0 < a1 - a0 ∧ 0 < b1 - b0) = true from decide_eq_true (by omega)]
      simp only [bd1_r, b2i_0, Bool.true_eq_false, if_false, s1, s2, bd8_r, bd9_r, nI_add]
      cases fl with
      | true =>
        obtain ⟨q1, q2⟩ := s6 rfl
        exact (ih f (g + 1) a0' a1' b0' b1' out' (x6 + 1) ln' rowf' key' tag' c' s3 s4 s5 h7' (by omega) (by omega) (by omega) (by omega) (by omega)).2 q1 q2 h (by omega)
      | false =>
        obtain ⟨h, rfl⟩ : ∃ h', h = h' + 1 := ⟨h - 1, by omega⟩
        rw [mX6_merge_370]
        simp only [n0, b2i_0, if_true]
        exact (ih f (g + 1) a0' a1' b0' b1' out' (x6 + 1) ln' rowf' key' tag' c' s3 s4 s5 h7' (by omega) (by omega) (by omega) (by omega) (by omega)).1
/-- the end of a merge, b -/
theorem jend_b {F n rowo roomo f g ln m7 a0 a1 b0 b1 out x6 : Nat} {jo : Int32} {u : Int32 × Int32} {v : Int32} {lp : Bool} {rul rowf roomf key tag rK rT c : Nat → Int32} (hF : 1000 ≤ F) (hM : MB n a0 a1 b0 b1 out rowf roomf key tag rK rT) (hb : ¬ (a0 < a1 ∧ b0 < b1)) (hc : c 10 = nI ln) (hln : 1 ≤ ln ∧ ln ≤ 9) (h7 : c 7 = nI m7) (hm7 : m7 ≤ 96) (hx : x6 ≤ 96) :
    JR n (mX2_join_61a F rowo roomo jo (f + 1) (nI 0) (b2i lp) (nI x6) (tI out) (-nI 1) rowf roomf c (tI a1) (-nI 1) (nI (a1 - a0)) (tI b1) (-nI 1) (nI (b1 - b0))) (mX6_merge_353 F rul (g + 1) (nI a0) (nI a1) (nI b0) (nI b1) (nI 0) (tI out) key tag rK rT (ad u v c)) u v := by
  have hM' := hM
  obtain ⟨h1, h2, h3, h4, h5, h6, -⟩ := hM'
  obtain ⟨a0', b0', out', rowf', key', tag', e1, e2, hM3, e3⟩ := stB_b (x := u) (y := v) (m := b1 - b0) (c := c) hF hM (Nat.le_refl _)
  have hx99 : mX2_join_61a F rowo roomo jo (f + 1) (nI 0) (b2i lp) (nI x6) (tI out) (-nI 1) rowf roomf c (tI a1) (-nI 1) (nI (a1 - a0)) (tI b1) (-nI 1) (nI (b1 - b0)) = mX2_join_99a F rowo roomo (nI 0) (tI out) (-nI 1) rowf roomf c (tI a1) (-nI 1) (nI (a1 - a0)) (tI b1) (-nI 1) (nI (b1 - b0)) := by
    rw [mX2_join_61a]
    simp (disch := omega) only [n96, n0, q_le]
    by_cases q : 96 ≤ x6
    · rw [if_pos q]
    · rw [if_neg q, e_both (by omega) (by omega), show decide (0 < a1 - a0 ∧ 0 < b1 - b0) = false from decide_eq_false (by omega)]
      simp only [bd1_r, b2i_0, if_true]
  rw [hx99, mX6_merge_353, y_goes (by omega) (by omega) (by omega) (by omega), decide_eq_false hb]
  unfold mX2_join_99a mX2_join_115b
  simp only [bd1_r, n0, b2i_0, if_true, if_false, z00]
  rw [q_sub (show b0 ≤ b1 by omega), e1, e2]
  simp only [bd5_r, bd6_r]
  obtain ⟨g1, g2, g3, g4, g5, g6, g7, g8, g9⟩ := hM3
  refine ⟨_, _, rowf', roomf, mvs c (b1 - b0), _, _, _, _, _, _, _, _, _, _, _, _, _, _, key', tag', rK, rT, ln, m7, rfl, rfl, g7, fun t ht => ?_, hc, hln, h7, hm7⟩
  rcases g9 t ht with ⟨i, q1, q2⟩ | ⟨i, q1, q2, q3⟩ | ⟨i, q1, q2, q3⟩
  · exact ⟨i, by omega, q2⟩
  · omega
  · exact ⟨i, q2, q3⟩
set_option maxHeartbeats 4000000 in
/-- the merge's loops, b -/
theorem jlp_b {F n o rowo roomo m7 : Nat} {u : Int32 × Int32} {v : Int32} {rul roomf rK rT : Nat → Int32} (hF : 1000 ≤ F) (ho : o < 4) (hr : rul 0 = nI o) (hm7 : m7 ≤ 96) : ∀ (N f g a0 a1 b0 b1 out x6 ln : Nat) (rowf key tag c : Nat → Int32), MB n a0 a1 b0 b1 out rowf roomf key tag rK rT → c 10 = nI ln → 1 ≤ ln ∧ ln ≤ 9 → c 7 = nI m7 → (a1 - a0) + (b1 - b0) ≤ N → N < f → N < g → N < F → x6 + ((a1 - a0) + (b1 - b0)) ≤ 96 →
    JR n (mX2_join_61a F rowo roomo (nI o) f (nI 0) (b2i false) (nI x6) (tI out) (-nI 1) rowf roomf c (tI a1) (-nI 1) (nI (a1 - a0)) (tI b1) (-nI 1) (nI (b1 - b0))) (mX6_merge_353 F rul g (nI a0) (nI a1) (nI b0) (nI b1) (nI 0) (tI out) key tag rK rT (ad u v c)) u v ∧
    (a0 < a1 → b0 < b1 → ∀ h : Nat, N < h → JR n (mX2_join_61a F rowo roomo (nI o) f (nI 0) (b2i true) (nI x6) (tI out) (-nI 1) rowf roomf c (tI a1) (-nI 1) (nI (a1 - a0)) (tI b1) (-nI 1) (nI (b1 - b0))) (mX6_merge_370 F rul (fun p0 p1 p2 p3 p4 p5 p6 p7 p8 p9 p10 => mX6_merge_353 F rul g p0 p1 p2 p3 p4 p5 p6 p7 p8 p9 p10) h (nI 1) (nI a0) (nI a1) (nI b0) (nI b1) (nI 0) (tI out) key tag rK rT (ad u v c)) u v) := by
  intro N
  induction N with
  | zero =>
    intro f g a0 a1 b0 b1 out x6 ln rowf key tag c hM hc hln h7 hN hf hg hNF hx
    obtain ⟨f, rfl⟩ : ∃ f', f = f' + 1 := ⟨f - 1, by omega⟩
    obtain ⟨g, rfl⟩ : ∃ g', g = g' + 1 := ⟨g - 1, by omega⟩
    exact ⟨jend_b hF hM (by omega) hc hln h7 hm7 (by omega), fun p q => by omega⟩
  | succ N ih =>
    intro f g a0 a1 b0 b1 out x6 ln rowf key tag c hM hc hln h7 hN hf hg hNF hx
    obtain ⟨f, rfl⟩ : ∃ f', f = f' + 1 := ⟨f - 1, by omega⟩
    obtain ⟨g, rfl⟩ : ∃ g', g = g' + 1 := ⟨g - 1, by omega⟩
    have hM' := hM
    obtain ⟨h1, h2, h3, h4, h5, h6, -⟩ := hM'
    constructor
    · by_cases hb : a0 < a1 ∧ b0 < b1
      · obtain ⟨a0', a1', b0', b1', out', fl, rowf', key', tag', c', s1, s2, s3, s4, s5, s6⟩ := sgl_b (x := u) (y := v) hF ho hr hc hln hM
        have s6 := s6 hb.1 hb.2
        have s3' := s3
        obtain ⟨j1, j2, j3, j4, j5, j6, -⟩ := s3'
        have hc' : c' 10 = nI ln := by rw [s4 10 (by decide), hc]
        have h7' : c' 7 = nI m7 := by rw [s4 7 (by decide), h7]
        rw [mX2_join_61a, mX6_merge_353, y_goes (by omega) (by omega) (by omega) (by omega), decide_eq_true hb]
        simp (disch := omega) only [n96, n0, n1, q_le, bd1_r, b2i_0, Bool.true_eq_false, if_false, if_true]
        rw [if_neg (show ¬ 96 ≤ x6 by omega), e_both (by omega) (by omega), show decide (0 < a1 - a0 ∧ 0 < b1 - b0) = true from decide_eq_true (by omega)]
        simp only [bd1_r, b2i_0, Bool.true_eq_false, if_false, s1, s2, bd8_r, nI_add]
        rw [y_goes (by omega) (by omega) (by omega) (by omega)]
        simp only [bd1_r]
        obtain ⟨Fm, hFm⟩ : ∃ Fm, F = Fm + 1 := ⟨F - 1, by omega⟩
        by_cases hb2 : a0' < a1' ∧ b0' < b1'
        · rw [decide_eq_true hb2, s5 hb2.1 hb2.2]
          exact (ih f g a0' a1' b0' b1' out' (x6 + 1) ln rowf' key' tag' c' s3 hc' hln h7' (by omega) (by omega) (by omega) (by omega) (by omega)).2 hb2.1 hb2.2 F (by omega)
        · rw [decide_eq_false hb2]
          have e370 : ∀ (K : Int32 → Int32 → Int32 → Int32 → Int32 → Int32 → (Nat → Int32) → (Nat → Int32) → (Nat → Int32) → (Nat → Int32) → (Nat → Int32) → Option (Int32 × Int32 × Int32 × Int32 × Int32 × Int32 × (Nat → Int32) × (Nat → Int32) × (Nat → Int32) × (Nat → Int32) × (Nat → Int32))) (v1 v2 v3 v4 v5 v6 : Int32) (w1 w2 w3 w4 w5 : Nat → Int32), mX6_merge_370 F rul K F (b2i false) v1 v2 v3 v4 v5 v6 w1 w2 w3 w4 w5 = K v1 v2 v3 v4 v5 v6 w1 w2 w3 w4 w5 := by
            intro K v1 v2 v3 v4 v5 v6 w1 w2 w3 w4 w5
            have e : ∀ k, mX6_merge_370 F rul K (k + 1) (b2i false) v1 v2 v3 v4 v5 v6 w1 w2 w3 w4 w5 = K v1 v2 v3 v4 v5 v6 w1 w2 w3 w4 w5 := fun k => rfl
            obtain ⟨k, hk⟩ : ∃ k, F = k + 1 := ⟨F - 1, by omega⟩
            have e2 := e k
            rw [← hk] at e2
            exact e2
          rw [e370]
          obtain ⟨f, rfl⟩ : ∃ f', f = f' + 1 := ⟨f - 1, by omega⟩
          obtain ⟨g, rfl⟩ : ∃ g', g = g' + 1 := ⟨g - 1, by omega⟩
          exact jend_b hF s3 hb2 hc' hln h7' hm7 (by omega)
      · exact jend_b hF hM hb hc hln h7 hm7 (by omega)
    · intro ha hb h hh
      obtain ⟨h, rfl⟩ : ∃ h', h = h' + 1 := ⟨h - 1, by omega⟩
      obtain ⟨a0', a1', b0', b1', out', ln', fl, rowf', key', tag', c', s1, s2, s3, s4, s4b, s5, s6, s7⟩ := lp_b (x := u) (y := v) hF ho hr hc hln hM ha hb
      have s3' := s3
      obtain ⟨j1, j2, j3, j4, j5, j6, -⟩ := s3'
      have h7' : c' 7 = nI m7 := by rw [s4b, h7]
      rw [mX2_join_61a, mX6_merge_370]
      simp (disch := omega) only [n96, n0, n1, q_le, z10, if_false]
      rw [if_neg (show ¬ 96 ≤ x6 by omega), e_both (by omega) (by omega), show decide (0 < a1 - a0 ∧ 0 < b1 - b0) = true from decide_eq_true (by omega)]
      simp only [bd1_r, b2i_0, Bool.true_eq_false, if_false, s1, s2, bd8_r, bd9_r, nI_add]
      cases fl with
      | true =>
        obtain ⟨q1, q2⟩ := s6 rfl
        exact (ih f (g + 1) a0' a1' b0' b1' out' (x6 + 1) ln' rowf' key' tag' c' s3 s4 s5 h7' (by omega) (by omega) (by omega) (by omega) (by omega)).2 q1 q2 h (by omega)
      | false =>
        obtain ⟨h, rfl⟩ : ∃ h', h = h' + 1 := ⟨h - 1, by omega⟩
        rw [mX6_merge_370]
        simp only [n0, b2i_0, if_true]
        exact (ih f (g + 1) a0' a1' b0' b1' out' (x6 + 1) ln' rowf' key' tag' c' s3 s4 s5 h7' (by omega) (by omega) (by omega) (by omega) (by omega)).1
