/-! call by call, the class against the reference -/
theorem o_write {F : Nat} {a1 : Int32} {xlet xrec srec spol slea sdep sinr swai jord : Int32} {txtf laif rulf rowf talf plaf lenf : Nat → Int32} {ylength ymany yruns ywaitAt ywaitMany : Int32} {ytext yrules ylaid ykey ytag yrunAt yrunMany ycost : Nat → Int32} (h : GR xlet xrec srec spol slea sdep sinr swai jord txtf laif rulf rowf talf plaf lenf ylength ymany yruns ywaitAt ywaitMany ytext yrules ylaid ykey ytag yrunAt yrunMany ycost) : ∃ (r xl yl : Int32) (tf yt : Nat → Int32), mX5_write F xlet txtf a1 = some (r, xl, tf) ∧ mX6_write F ylength ytext a1 = some (r, yl, yt) ∧ GR xl xrec srec spol slea sdep sinr swai jord tf laif rulf rowf talf plaf lenf yl ymany yruns ywaitAt ywaitMany yt yrules ylaid ykey ytag yrunAt yrunMany ycost := by
  have h0 := h
  obtain ⟨n, len, o, pol, ls, lp, d, w, L, hb, ht, hr, hy, hl, hs, rfl, rfl, rfl, rfl, rfl, rfl, rfl, rfl, rfl, rfl, rfl, rfl, rfl, rfl⟩ := h
  unfold mX5_write mX6_write
  rw [n32, n126, e_out, w32, w126, y_in]
  simp only [bd1_r]
  cases hq : inB a1 (nI 32) (nI 126)
  · simp only [Bool.not_false, b2i_t, b2i_f, n0, z10, z00, if_true, if_false]
    exact ⟨_, _, _, _, _, rfl, rfl, h0⟩
  · simp only [Bool.not_true, b2i_t, b2i_f, n0, z10, z00, if_true, if_false]
    have hl2 := ht.1
    by_cases z : len = 200
    · subst z
      rw [if_neg (by decide), if_pos (by decide)]
      exact ⟨_, _, _, _, _, rfl, rfl, h0⟩
    · simp (disch := omega) only [n200, q_lt, q_eq, q_ck, q_cl, n1, nI_add, z, if_false]
      rw [if_pos (by omega), e_fill (by omega) (by decide)]
      refine ⟨_, _, _, _, _, rfl, rfl, n, len + 1, o, pol, ls, lp, d, w, L, hb, ⟨by omega, fun i hi => ?_⟩, hr, hy, hl, hs, rfl, rfl, rfl, rfl, rfl, rfl, rfl, rfl, rfl, rfl, rfl, rfl, rfl, rfl⟩
      by_cases q : i = len
      · subst q; rw [upd_s, upd_s]
      · rw [upd_n q, upd_n q]; exact ht.2 i (by omega)
theorem o_wipe {F : Nat} {xlet xrec srec spol slea sdep sinr swai jord : Int32} {txtf laif rulf rowf talf plaf lenf : Nat → Int32} {ylength ymany yruns ywaitAt ywaitMany : Int32} {ytext yrules ylaid ykey ytag yrunAt yrunMany ycost : Nat → Int32} (h : GR xlet xrec srec spol slea sdep sinr swai jord txtf laif rulf rowf talf plaf lenf ylength ymany yruns ywaitAt ywaitMany ytext yrules ylaid ykey ytag yrunAt yrunMany ycost) : ∃ (r xl yl : Int32), mX5_wipe F xlet = some (r, xl) ∧ mX6_wipe F ylength = some (r, yl) ∧ GR xl xrec srec spol slea sdep sinr swai jord txtf laif rulf rowf talf plaf lenf yl ymany yruns ywaitAt ywaitMany ytext yrules ylaid ykey ytag yrunAt yrunMany ycost := by
  obtain ⟨n, len, o, pol, ls, lp, d, w, L, hb, ht, hr, hy, hl, hs, rfl, rfl, rfl, rfl, rfl, rfl, rfl, rfl, rfl, rfl, rfl, rfl, rfl, rfl⟩ := h
  exact ⟨_, _, _, rfl, rfl, n, 0, o, pol, ls, lp, d, w, L, hb, ⟨by omega, fun i hi => by omega⟩, hr, hy, hl, hs, rfl, rfl, rfl, rfl, rfl, rfl, rfl, rfl, rfl, rfl, rfl, rfl, rfl, rfl⟩
theorem flt {F len : Nat} {f g : Nat → Int32} (ht : TX len f g) : ∀ (m u v i : Nat), len - i ≤ m → i ≤ len → i ≤ 96 → m < u → m < v → ∃ r : Int32, mX5_fault_2 F (nI len) f u (nI i) = some r ∧ mX6_fault_2 F (nI len) g v (nI i) = some r ∧ (r = -nI 4 → ∀ j, i ≤ j → j < len → j < 96 ∧ ∃ k, k < 26 ∧ f j = nI (97 + k)) := by
  intro m
  have hl2 := ht.1
  induction m with
  | zero =>
    intro u v i h1 h2 h3 h4 h5
    obtain ⟨u, rfl⟩ : ∃ x, u = x + 1 := ⟨u - 1, by omega⟩
    obtain ⟨v, rfl⟩ : ∃ x, v = x + 1 := ⟨v - 1, by omega⟩
    rw [mX5_fault_2, mX6_fault_2]
    simp (disch := omega) only [q_le]
    rw [if_pos (by omega), if_pos (by omega)]
    exact ⟨_, rfl, rfl, fun _ j _ _ => by omega⟩
  | succ m ih =>
    intro u v i h1 h2 h3 h4 h5
    obtain ⟨u, rfl⟩ : ∃ x, u = x + 1 := ⟨u - 1, by omega⟩
    obtain ⟨v, rfl⟩ : ∃ x, v = x + 1 := ⟨v - 1, by omega⟩
    by_cases z : len ≤ i
    · rw [mX5_fault_2, mX6_fault_2]
      simp (disch := omega) only [q_le]
      rw [if_pos z, if_pos z]
      exact ⟨_, rfl, rfl, fun _ j _ _ => by omega⟩
    · rw [mX5_fault_2, mX6_fault_2]
      simp (disch := omega) only [q_le, n96, q_ck, q_cl, q_eq]
      rw [if_neg z, if_neg z, e_look (by omega) (by decide), n97, n122, w97, w122, y_in, ← ht.2 i (by omega)]
      simp only [bd1_r]
      rw [e_out]
      simp only [bd1_r]
      by_cases e : i = 96
      · subst e
        rw [if_pos (by omega)]
        simp only [if_true]
        refine ⟨nI 96, rfl, by split <;> rfl, fun q => absurd q (q_neg (by decide) (by decide) (by decide))⟩
      · rw [if_neg (by omega)]
        simp only [e, if_false]
        cases hq : inB (f i) (nI 97) (nI 122)
        · simp only [Bool.not_false, b2i_t, b2i_f, n0, z10, z00, if_true, if_false]
          exact ⟨_, rfl, rfl, fun q => absurd q (q_neg (by omega) (by decide) (by decide))⟩
        · simp only [Bool.not_true, b2i_t, b2i_f, n0, z10, z00, if_true, if_false, n1, nI_add]
          obtain ⟨r, r1, r2, r3⟩ := ih u v (i + 1) (by omega) (by omega) (by omega) (by omega) (by omega)
          refine ⟨r, r1, r2, fun q j h6 h7 => ?_⟩
          by_cases e2 : j = i
          · subst e2
            obtain ⟨k, k1, k2, k3⟩ := inB_t (by decide) (by decide) hq
            exact ⟨by omega, k - 97, by omega, by rw [k3]; congr 1; omega⟩
          · exact r3 q j (by omega) h7
theorem flt0 {F len : Nat} {f g : Nat → Int32} (hF : 1000 ≤ F) (ht : TX len f g) : ∃ r : Int32, mX5_fault F (nI len) f = some r ∧ mX6_fault F (nI len) g = some r ∧ (r = -nI 4 → ∀ j, j < len → j < 96 ∧ ∃ k, k < 26 ∧ f j = nI (97 + k)) := by
  have hl2 := ht.1
  obtain ⟨r, r1, r2, r3⟩ := flt (F := F) ht 200 F F 0 (by omega) (by omega) (by omega) (by omega) (by omega)
  exact ⟨r, r1, r2, fun q j hj => r3 q j (Nat.zero_le _) hj⟩
theorem o_fault {F : Nat} (hF : 1000 ≤ F) {xlet xrec srec spol slea sdep sinr swai jord : Int32} {txtf laif rulf rowf talf plaf lenf : Nat → Int32} {ylength ymany yruns ywaitAt ywaitMany : Int32} {ytext yrules ylaid ykey ytag yrunAt yrunMany ycost : Nat → Int32} (h : GR xlet xrec srec spol slea sdep sinr swai jord txtf laif rulf rowf talf plaf lenf ylength ymany yruns ywaitAt ywaitMany ytext yrules ylaid ykey ytag yrunAt yrunMany ycost) : ∃ r : Int32, mX5_fault F xlet txtf = some r ∧ mX6_fault F ylength ytext = some r := by
  obtain ⟨n, len, o, pol, ls, lp, d, w, L, hb, ht, hr, hy, hl, hs, rfl, rfl, rfl, rfl, rfl, rfl, rfl, rfl, rfl, rfl, rfl, rfl, rfl, rfl⟩ := h
  obtain ⟨r, r1, r2, r3⟩ := flt0 hF ht
  exact ⟨r, r1, r2⟩
theorem layL {F len : Nat} {f g rulf yrules : Nat → Int32} {x0 s1 s2 s3 s4 s5 s6 s7 y1 y2 y3 : Int32} {rowf talf ykey ytag ycost : Nat → Int32} (hn : len ≤ 96) (ht : TX len f g) (hk : ∀ j, j < len → ∃ k, k < 26 ∧ f j = nI (97 + k)) : ∀ (m u v i : Nat) (laif ylaid : Nat → Int32), len - i ≤ m → i ≤ len → m < u → m < v → LD i laif ylaid →
    ∃ la ly : Nat → Int32, LD len la ly ∧ mX5_lay_21 F (nI len) f rulf u (nI i) x0 laif s1 s2 s3 s4 s5 s6 rowf talf s7 = (bd9 (mX5_beginAnew F (nI len) la rulf s1 s2 s3 s4 s5 s6 rowf talf s7) (fun srec_67 spol_67 slea_67 sdep_67 sinr_67 swai_67 rowf_67 talf_67 jord_67 => some (nI len, nI len, la, srec_67, spol_67, slea_67, sdep_67, sinr_67, swai_67, rowf_67, talf_67, jord_67))) ∧
      mX6_lay_29 F g yrules v (nI i) (nI len) y1 y2 y3 ylaid ykey ytag ycost = (bd6 (mX6_begin F (nI len) y1 y2 y3 yrules ly ykey ytag ycost) (fun yruns_59 ywaitAt_59 ywaitMany_59 ykey_59 ytag_59 ycost_59 => some (nI len, nI len, yruns_59, ywaitAt_59, ywaitMany_59, ly, ykey_59, ytag_59, ycost_59))) := by
  intro m
  have hl2 := ht.1
  induction m with
  | zero =>
    intro u v i laif ylaid h1 h2 h4 h5 hl
    obtain ⟨u, rfl⟩ : ∃ x, u = x + 1 := ⟨u - 1, by omega⟩
    obtain ⟨v, rfl⟩ : ∃ x, v = x + 1 := ⟨v - 1, by omega⟩
    obtain rfl : i = len := by omega
    rw [mX5_lay_21, mX6_lay_29]
    simp (disch := omega) only [q_le]
    rw [if_pos (by omega), if_pos (by omega)]
    exact ⟨_, _, hl, rfl, rfl⟩
  | succ m ih =>
    intro u v i laif ylaid h1 h2 h4 h5 hl
    obtain ⟨u, rfl⟩ : ∃ x, u = x + 1 := ⟨u - 1, by omega⟩
    obtain ⟨v, rfl⟩ : ∃ x, v = x + 1 := ⟨v - 1, by omega⟩
    by_cases z : len ≤ i
    · obtain rfl : i = len := by omega
      rw [mX5_lay_21, mX6_lay_29]
      simp (disch := omega) only [q_le]
      rw [if_pos (by omega), if_pos (by omega)]
      exact ⟨_, _, hl, rfl, rfl⟩
    · rw [mX5_lay_21, mX6_lay_29]
      simp (disch := omega) only [q_le, q_ck, q_cl]
      obtain ⟨k, k1, k2⟩ := hk i (by omega)
      rw [if_neg z, if_neg z, e_look (by omega) (by decide), ← ht.2 i (by omega), k2, n97, q_sub (by omega), show 97 + k - 97 = k by omega]
      simp only [bd1_r]
      rw [q_sub (show 97 ≤ 97 + k by omega), show 97 + k - 97 = k by omega, e_rec]
      simp only [bd1_r]
      rw [e_fill (by omega) (by decide)]
      simp only [bd1_r, n1, nI_add]
      refine ih u v (i + 1) _ _ (by omega) (by omega) (by omega) (by omega) (fun j hj => ?_)
      by_cases q : j = i
      · subst q; exact ⟨k, k1, upd_s, upd_s⟩
      · obtain ⟨a, b, c, e⟩ := hl j (by omega)
        exact ⟨a, b, by rw [upd_n q]; exact c, by rw [upd_n q]; exact e⟩
theorem o_lay {F : Nat} (hF : 1000 ≤ F) {xlet xrec srec spol slea sdep sinr swai jord : Int32} {txtf laif rulf rowf talf plaf lenf : Nat → Int32} {ylength ymany yruns ywaitAt ywaitMany : Int32} {ytext yrules ylaid ykey ytag yrunAt yrunMany ycost : Nat → Int32} (h : GR xlet xrec srec spol slea sdep sinr swai jord txtf laif rulf rowf talf plaf lenf ylength ymany yruns ywaitAt ywaitMany ytext yrules ylaid ykey ytag yrunAt yrunMany ycost) : ∃ (r xr s1 s2 s3 s4 s5 s6 s7 ym w1 w2 w3 : Int32) (la f1 f2 ly g1 g2 : Nat → Int32), mX5_lay F xlet xrec txtf laif rulf srec spol slea sdep sinr swai rowf talf jord = some (r, xr, la, s1, s2, s3, s4, s5, s6, f1, f2, s7) ∧ mX6_lay F ylength ymany yruns ywaitAt ywaitMany ytext yrules ylaid ykey ytag ycost = some (r, ym, w1, w2, w3, ly, g1, g2, f2) ∧ GR xlet xr s1 s2 s3 s4 s5 s6 s7 txtf la rulf f1 f2 plaf lenf ylength ym w1 w2 w3 ytext yrules ly g1 g2 yrunAt yrunMany f2 := by
  have h0 := h
  obtain ⟨n, len, o, pol, ls, lp, d, w, L, hb, ht, hr, hy, hl, hs, rfl, rfl, rfl, rfl, rfl, rfl, rfl, rfl, rfl, rfl, rfl, rfl, rfl, rfl⟩ := h
  obtain ⟨r, r1, r2, r3⟩ := flt0 hF ht
  unfold mX5_lay mX6_lay
  have hl2 := ht.1
  rw [r1, r2, show (-4 : Int32) = -nI 4 from rfl, n0]
  simp (disch := omega) only [bd1_r, q_eq]
  by_cases z : len = 0
  · simp only [z, if_true]
    subst z
    refine ⟨_, _, _, _, _, _, _, _, _, _, _, _, _, _, _, _, _, _, _, rfl, ?_, h0⟩
    split <;> rfl
  · simp only [z, if_false]
    by_cases q : r = -nI 4
    · simp only [q, if_true]
      have r4 := r3 q
      have hn : len ≤ 96 := by have := (r4 (len - 1) (by omega)).1; omega
      obtain ⟨la, ly, l1, l2, l3⟩ := layL (F := F) (rulf := rulf) (yrules := yrules) (x0 := nI n) (s1 := nI n) (s2 := nI pol) (s3 := nI ls) (s4 := nI d) (s5 := nI (psum L d + w)) (s6 := nI w) (s7 := nI o) (y1 := nI d) (y2 := ywaitAt) (y3 := nI w) (rowf := rowf) (talf := ycost) (ykey := ykey) (ytag := ytag) (ycost := ycost) hn ht (fun j hj => (r4 j hj).2) 200 F F 0 laif ylaid (by omega) (by omega) (by omega) (by omega) (fun j hj => by omega)
      rw [l2, l3]
      obtain ⟨s1, s2, s3, s4, s5, s6, s7, w1, w2, w3, f1, f2, g1, g2, b1, b2, b3⟩ := o_begin (srec := nI n) (spol := nI pol) (slea := nI ls) (sdep := nI d) (sinr := nI (psum L d + w)) (swai := nI w) (jord := nI o) (yruns := nI d) (ywaitAt := ywaitAt) (ywaitMany := nI w) (rowf := rowf) (c := ycost) (plaf := plaf) (lenf := lenf) (ykey := ykey) (ytag := ytag) (yrunAt := yrunAt) (yrunMany := yrunMany) hF (n := len) ⟨⟨by omega, hn⟩, hb.2⟩ ht hr hy l1
      rw [b1, b2]
      exact ⟨_, _, _, _, _, _, _, _, _, _, _, _, _, _, _, _, _, _, _, rfl, rfl, b3⟩
    · simp only [q, if_false]
      exact ⟨_, _, _, _, _, _, _, _, _, _, _, _, _, _, _, _, _, _, _, rfl, rfl, h0⟩
